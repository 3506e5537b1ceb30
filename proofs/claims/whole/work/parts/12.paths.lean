/-! ===== every instruction, every path; contracts ===== -/
theorem ab_dec {k pc : Nat} {ins : Instr} {a j : Nat} {v : Int32} {nx : Nat} (h : ab_ok k (pc, ins, a, j, v, nx) = true) (hn : ins ≠ .nop) : ∃ len, decode (ab_mB k) pc = .ok (ins, len) ∧ ab_oki k pc len ins a j v nx = true := by
  unfold ab_ok at h
  split at h
  · next hq => exact absurd hq hn
  · split at h
    · next i2 len hd =>
      rw [Bool.and_eq_true, decide_eq_true_eq] at h
      obtain ⟨rfl, h2⟩ := h
      exact ⟨len, hd, h2⟩
    · cases h
set_option maxHeartbeats 4000000 in
theorem ab_stp_ok {Z : ab_Z} {X : ab_X} {k : Nat} (hX : ab_okX Z X) (hk : ab_xk X = k) {e : ab_E} {o o1 : List ab_O} {st st1 : ab_S} {cn : Option Prop} (ho : ab_ok k e = true) (hs : ab_stp Z X k e o st = some (cn, o1, st1)) (hc : ab_cd cn) (hG : ab_G Z X st1) : ab_G Z X st := by
  obtain ⟨pc, ins, a, j, v, nx⟩ := e
  obtain ⟨pc', L, S, m⟩ := st
  obtain ⟨p, e, R, s, mm, args, below, meth, c0, cells, slots, Q, A, b, N, xs, k', d⟩ := X
  obtain ⟨hx, hb, hml, hown, hts, hnw, hK, hA, hdf, hdl, hcl, hsl, hZ⟩ := hX
  have hk : k' = k := hk
  subst hk
  unfold ab_stp at hs
  split at hs
  · next hpc =>
    have hpc : pc = pc' := hpc
    subst hpc
    have hd := fun hn => ab_dec ho hn
    cases ins
    case nop =>
      cases hs
      intro H locs ls hP hS hl
      refine hG H locs ls hP hS ⟨hl.1, hl.2.1, fun q hq => hl.2.2 q ?_⟩
      obtain ⟨x, hx1, rfl⟩ := List.mem_map.mp hq
      exact List.mem_map.mpr ⟨x, (List.mem_filter.mp hx1).1, rfl⟩
    case iconst n =>
      obtain ⟨len, hdg, hok⟩ := hd (fun q => by cases q)
      simp only [ab_oki, Bool.and_eq_true, decide_eq_true_eq] at hok
      obtain ⟨⟨rfl, rfl⟩, hv⟩ := hok
      exact ab_s_pi (fun h => lv_iconst hx hb hdg hv h) hs hG
    case bipush n =>
      obtain ⟨len, hdg, hok⟩ := hd (fun q => by cases q)
      simp only [ab_oki, Bool.and_eq_true, decide_eq_true_eq] at hok
      obtain ⟨⟨rfl, rfl⟩, hv⟩ := hok
      exact ab_s_pi (fun h => lv_bipush hx hb hdg hv h) hs hG
    case sipush n =>
      obtain ⟨len, hdg, hok⟩ := hd (fun q => by cases q)
      simp only [ab_oki, Bool.and_eq_true, decide_eq_true_eq] at hok
      obtain ⟨⟨rfl, rfl⟩, hv⟩ := hok
      exact ab_s_pi (fun h => lv_sipush hx hb hdg hv h) hs hG
    case ldc i =>
      obtain ⟨len, hdg, hok⟩ := hd (fun q => by cases q)
      simp only [ab_oki, Bool.and_eq_true, decide_eq_true_eq] at hok
      obtain ⟨⟨rfl, rfl⟩, hv⟩ := hok
      exact ab_s_pi (fun h => lv_ldc hx hb hown (hts _ (ab_wd_tb hv)) hdg h) hs hG
    case ldc_w i =>
      obtain ⟨len, hdg, hok⟩ := hd (fun q => by cases q)
      simp only [ab_oki, Bool.and_eq_true, decide_eq_true_eq] at hok
      obtain ⟨⟨rfl, rfl⟩, hv⟩ := hok
      exact ab_s_pi (fun h => lv_ldcw hx hb hown (hts _ (ab_wd_tb hv)) hdg h) hs hG
    case lconst n =>
      obtain ⟨len, hdg, hok⟩ := hd (fun q => by cases q)
      simp only [ab_oki, Bool.and_eq_true, decide_eq_true_eq] at hok
      obtain ⟨⟨rfl, rfl⟩, hv⟩ := hok
      exact ab_s_pl (fun h => lv_lconst hx hb hdg hv h) hs hG
    case ldc2_w i =>
      obtain ⟨len, hdg, hok⟩ := hd (fun q => by cases q)
      simp only [ab_oki, Bool.and_eq_true, decide_eq_true_eq] at hok
      obtain ⟨⟨rfl, rfl⟩, hv⟩ := hok
      exact ab_s_pl (fun h => lv_ldc2 hx hb hown (hts _ (ab_wd_tb hv)) hdg h) hs hG
    case iload i =>
      obtain ⟨len, hdg, hok⟩ := hd (fun q => by cases q)
      simp only [ab_oki, Bool.and_eq_true, decide_eq_true_eq] at hok
      obtain ⟨rfl, rfl⟩ := hok
      exact ab_s_li (fun hl h => lv_iload hx hb hdg hl h) hs hG
    case iload_n i =>
      obtain ⟨len, hdg, hok⟩ := hd (fun q => by cases q)
      simp only [ab_oki, Bool.and_eq_true, decide_eq_true_eq] at hok
      obtain ⟨rfl, rfl⟩ := hok
      exact ab_s_li (fun hl h => lv_iload_n hx hb hdg rfl hl h) hs hG
    case lload_n i =>
      obtain ⟨len, hdg, hok⟩ := hd (fun q => by cases q)
      simp only [ab_oki, Bool.and_eq_true, decide_eq_true_eq] at hok
      obtain ⟨rfl, rfl⟩ := hok
      exact ab_s_ll (fun hl h => lv_lload_n hx hb hdg rfl hl h) hs hG
    case aload i =>
      obtain ⟨len, hdg, hok⟩ := hd (fun q => by cases q)
      simp only [ab_oki, Bool.and_eq_true, decide_eq_true_eq] at hok
      obtain ⟨rfl, rfl⟩ := hok
      exact ab_s_la (fun hl h => lv_aload hx hb hdg hl h) hs hG
    case aload_n i =>
      obtain ⟨len, hdg, hok⟩ := hd (fun q => by cases q)
      simp only [ab_oki, Bool.and_eq_true, decide_eq_true_eq] at hok
      obtain ⟨rfl, rfl⟩ := hok
      exact ab_s_la (fun hl h => lv_aload_n hx hb hdg rfl hl h) hs hG
    case istore i =>
      obtain ⟨len, hdg, hok⟩ := hd (fun q => by cases q)
      simp only [ab_oki, Bool.and_eq_true, decide_eq_true_eq] at hok
      obtain ⟨rfl, rfl⟩ := hok
      exact ab_s_si (fun hl hi h => lv_istore hx hb hdg hl hi rfl h) hs hG
    case istore_n i =>
      obtain ⟨len, hdg, hok⟩ := hd (fun q => by cases q)
      simp only [ab_oki, Bool.and_eq_true, decide_eq_true_eq] at hok
      obtain ⟨rfl, rfl⟩ := hok
      exact ab_s_si (fun hl hi h => lv_istore_n hx hb hdg rfl hl hi rfl h) hs hG
    case lstore_n i =>
      obtain ⟨len, hdg, hok⟩ := hd (fun q => by cases q)
      simp only [ab_oki, Bool.and_eq_true, decide_eq_true_eq] at hok
      obtain ⟨rfl, rfl⟩ := hok
      exact ab_s_sl (fun hl hi h => lv_lstore_n hx hb hdg rfl hl hi rfl h) hs hG
    case astore_n i =>
      obtain ⟨len, hdg, hok⟩ := hd (fun q => by cases q)
      simp only [ab_oki, Bool.and_eq_true, decide_eq_true_eq] at hok
      obtain ⟨rfl, rfl⟩ := hok
      exact ab_s_sa (fun hl hi h => lv_astore_n hx hb hdg rfl hl hi rfl h) hs hG
    case iinc i n =>
      obtain ⟨len, hdg, hok⟩ := hd (fun q => by cases q)
      simp only [ab_oki, Bool.and_eq_true, decide_eq_true_eq] at hok
      obtain ⟨⟨rfl, rfl⟩, hv⟩ := hok
      exact ab_s_inc (fun hl hj hi h => lv_iinc hx hb hdg hl hj (by rw [hv]) hi rfl h) hs hG
    case iadd =>
      obtain ⟨len, hdg, hok⟩ := hd (fun q => by cases q)
      simp only [ab_oki, Bool.and_eq_true, decide_eq_true_eq] at hok
      obtain ⟨rfl, rfl⟩ := hok
      exact ab_s_b2 (fun h => lv_iadd hx hb hdg h) hs hc hG
    case isub =>
      obtain ⟨len, hdg, hok⟩ := hd (fun q => by cases q)
      simp only [ab_oki, Bool.and_eq_true, decide_eq_true_eq] at hok
      obtain ⟨rfl, rfl⟩ := hok
      exact ab_s_b2 (fun h => lv_isub hx hb hdg h) hs hc hG
    case imul =>
      obtain ⟨len, hdg, hok⟩ := hd (fun q => by cases q)
      simp only [ab_oki, Bool.and_eq_true, decide_eq_true_eq] at hok
      obtain ⟨rfl, rfl⟩ := hok
      exact ab_s_b2 (fun h => lv_imul hx hb hdg h) hs hc hG
    case iand =>
      obtain ⟨len, hdg, hok⟩ := hd (fun q => by cases q)
      simp only [ab_oki, Bool.and_eq_true, decide_eq_true_eq] at hok
      obtain ⟨rfl, rfl⟩ := hok
      exact ab_s_b2 (fun h => lv_iand hx hb hdg h) hs hc hG
    case ior =>
      obtain ⟨len, hdg, hok⟩ := hd (fun q => by cases q)
      simp only [ab_oki, Bool.and_eq_true, decide_eq_true_eq] at hok
      obtain ⟨rfl, rfl⟩ := hok
      exact ab_s_b2 (fun h => lv_ior hx hb hdg h) hs hc hG
    case ixor =>
      obtain ⟨len, hdg, hok⟩ := hd (fun q => by cases q)
      simp only [ab_oki, Bool.and_eq_true, decide_eq_true_eq] at hok
      obtain ⟨rfl, rfl⟩ := hok
      exact ab_s_b2 (fun h => lv_ixor hx hb hdg h) hs hc hG
    case ishl =>
      obtain ⟨len, hdg, hok⟩ := hd (fun q => by cases q)
      simp only [ab_oki, Bool.and_eq_true, decide_eq_true_eq] at hok
      obtain ⟨rfl, rfl⟩ := hok
      exact ab_s_b2 (fun h => lv_ishl hx hb hdg h) hs hc hG
    case ishr =>
      obtain ⟨len, hdg, hok⟩ := hd (fun q => by cases q)
      simp only [ab_oki, Bool.and_eq_true, decide_eq_true_eq] at hok
      obtain ⟨rfl, rfl⟩ := hok
      exact ab_s_b2 (fun h => lv_ishr hx hb hdg h) hs hc hG
    case iushr =>
      obtain ⟨len, hdg, hok⟩ := hd (fun q => by cases q)
      simp only [ab_oki, Bool.and_eq_true, decide_eq_true_eq] at hok
      obtain ⟨rfl, rfl⟩ := hok
      exact ab_s_b2 (fun h => lv_iushr hx hb hdg rfl h) hs hc hG
    case idiv =>
      obtain ⟨len, hdg, hok⟩ := hd (fun q => by cases q)
      simp only [ab_oki, Bool.and_eq_true, decide_eq_true_eq] at hok
      obtain ⟨rfl, rfl⟩ := hok
      exact ab_s_b2n (fun hn h => lv_idiv hx hb hdg hn h) hs hc hG
    case irem =>
      obtain ⟨len, hdg, hok⟩ := hd (fun q => by cases q)
      simp only [ab_oki, Bool.and_eq_true, decide_eq_true_eq] at hok
      obtain ⟨rfl, rfl⟩ := hok
      exact ab_s_b2n (fun hn h => lv_irem hx hb hdg hn h) hs hc hG
    case ineg =>
      obtain ⟨len, hdg, hok⟩ := hd (fun q => by cases q)
      simp only [ab_oki, Bool.and_eq_true, decide_eq_true_eq] at hok
      obtain ⟨rfl, rfl⟩ := hok
      exact ab_s_neg (fun h => lv_ineg hx hb hdg h) hs hc hG
    case ladd =>
      obtain ⟨len, hdg, hok⟩ := hd (fun q => by cases q)
      simp only [ab_oki, Bool.and_eq_true, decide_eq_true_eq] at hok
      obtain ⟨rfl, rfl⟩ := hok
      exact ab_s_l2 (fun h => lv_ladd hx hb hdg h) hs hc hG
    case lsub =>
      obtain ⟨len, hdg, hok⟩ := hd (fun q => by cases q)
      simp only [ab_oki, Bool.and_eq_true, decide_eq_true_eq] at hok
      obtain ⟨rfl, rfl⟩ := hok
      exact ab_s_l2 (fun h => lv_lsub hx hb hdg h) hs hc hG
    case lmul =>
      obtain ⟨len, hdg, hok⟩ := hd (fun q => by cases q)
      simp only [ab_oki, Bool.and_eq_true, decide_eq_true_eq] at hok
      obtain ⟨rfl, rfl⟩ := hok
      exact ab_s_l2 (fun h => lv_lmul hx hb hdg h) hs hc hG
    case land =>
      obtain ⟨len, hdg, hok⟩ := hd (fun q => by cases q)
      simp only [ab_oki, Bool.and_eq_true, decide_eq_true_eq] at hok
      obtain ⟨rfl, rfl⟩ := hok
      exact ab_s_l2 (fun h => lv_land hx hb hdg h) hs hc hG
    case lor =>
      obtain ⟨len, hdg, hok⟩ := hd (fun q => by cases q)
      simp only [ab_oki, Bool.and_eq_true, decide_eq_true_eq] at hok
      obtain ⟨rfl, rfl⟩ := hok
      exact ab_s_l2 (fun h => lv_lor hx hb hdg h) hs hc hG
    case ldiv =>
      obtain ⟨len, hdg, hok⟩ := hd (fun q => by cases q)
      simp only [ab_oki, Bool.and_eq_true, decide_eq_true_eq] at hok
      obtain ⟨rfl, rfl⟩ := hok
      exact ab_s_l2n (fun hn h => lv_ldiv hx hb hdg hn h) hs hc hG
    case lshl =>
      obtain ⟨len, hdg, hok⟩ := hd (fun q => by cases q)
      simp only [ab_oki, Bool.and_eq_true, decide_eq_true_eq] at hok
      obtain ⟨rfl, rfl⟩ := hok
      exact ab_s_lsh (fun h => lv_lshl hx hb hdg rfl h) hs hc hG
    case lushr =>
      obtain ⟨len, hdg, hok⟩ := hd (fun q => by cases q)
      simp only [ab_oki, Bool.and_eq_true, decide_eq_true_eq] at hok
      obtain ⟨rfl, rfl⟩ := hok
      exact ab_s_lsh (fun h => lv_lushr hx hb hdg rfl h) hs hc hG
    case lcmp =>
      obtain ⟨len, hdg, hok⟩ := hd (fun q => by cases q)
      simp only [ab_oki, Bool.and_eq_true, decide_eq_true_eq] at hok
      obtain ⟨rfl, rfl⟩ := hok
      exact ab_s_lcm (fun h => W.lcmp hx hb hdg h) hs hc hG
    case i2l =>
      obtain ⟨len, hdg, hok⟩ := hd (fun q => by cases q)
      simp only [ab_oki, Bool.and_eq_true, decide_eq_true_eq] at hok
      obtain ⟨rfl, rfl⟩ := hok
      exact ab_s_i2l (fun h => lv_i2l hx hb hdg rfl h) hs hc hG
    case l2i =>
      obtain ⟨len, hdg, hok⟩ := hd (fun q => by cases q)
      simp only [ab_oki, Bool.and_eq_true, decide_eq_true_eq] at hok
      obtain ⟨rfl, rfl⟩ := hok
      exact ab_s_l2i (fun h => lv_l2i hx hb hdg rfl h) hs hc hG
    case dup =>
      obtain ⟨len, hdg, hok⟩ := hd (fun q => by cases q)
      simp only [ab_oki, Bool.and_eq_true, decide_eq_true_eq] at hok
      obtain ⟨rfl, rfl⟩ := hok
      exact ab_s_dup (fun hv h => lv_dup hx hb hdg hv h) hs hG
    case pop =>
      obtain ⟨len, hdg, hok⟩ := hd (fun q => by cases q)
      simp only [ab_oki, Bool.and_eq_true, decide_eq_true_eq] at hok
      obtain ⟨rfl, rfl⟩ := hok
      exact ab_s_pop (fun hv h => lv_pop hx hb hdg hv h) hs hG
    case dup2 =>
      obtain ⟨len, hdg, hok⟩ := hd (fun q => by cases q)
      simp only [ab_oki, Bool.and_eq_true, decide_eq_true_eq] at hok
      obtain ⟨rfl, rfl⟩ := hok
      exact ab_s_du2 (fun hv hw h => lv_dup2_11 hx hb hdg hv hw h) hs hG
    case ifCond cd off =>
      obtain ⟨len, hdg, hok⟩ := hd (fun q => by cases q)
      unfold ab_oki at hok
      rw [Bool.and_eq_true, decide_eq_true_eq] at hok
      obtain ⟨rfl, hnx⟩ := hok
      exact ab_s_if1 (fun hq h => ab_row1 hx hb hdg hnx hq h) hs hc hG
    case if_icmp cd off =>
      obtain ⟨len, hdg, hok⟩ := hd (fun q => by cases q)
      unfold ab_oki at hok
      rw [Bool.and_eq_true, decide_eq_true_eq] at hok
      obtain ⟨rfl, hnx⟩ := hok
      exact ab_s_if2 (fun hq h => ab_row2 hx hb hdg hnx hq h) hs hc hG
    case goto off =>
      obtain ⟨len, hdg, hok⟩ := hd (fun q => by cases q)
      simp only [ab_oki, Bool.and_eq_true, decide_eq_true_eq] at hok
      obtain ⟨rfl, ht⟩ := hok
      cases hs
      intro H locs ls hP hS hl
      exact lv_goto hx hb hdg ht (hG H locs ls hP hS hl)
    case tableswitch dflt lo hi offs =>
      obtain ⟨len, hdg, hok⟩ := hd (fun q => by cases q)
      exact ab_s_sw hx hb hdg hok hs hc hG
    case getfield i =>
      obtain ⟨len, hdg, hok⟩ := hd (fun q => by cases q)
      simp only [ab_oki, Bool.and_eq_true, decide_eq_true_eq] at hok
      obtain ⟨⟨rfl, rfl⟩, hf⟩ := hok
      exact ab_s_gf hx hb hts hnw hK hA hZ hown hf hdg hs hG
    case putfield i =>
      obtain ⟨len, hdg, hok⟩ := hd (fun q => by cases q)
      simp only [ab_oki, Bool.and_eq_true, decide_eq_true_eq] at hok
      obtain ⟨⟨rfl, rfl⟩, hf⟩ := hok
      exact ab_s_pf hx hb hts hnw hK hA hZ hown hf hdg hs hc hG
    case iaload =>
      obtain ⟨len, hdg, hok⟩ := hd (fun q => by cases q)
      simp only [ab_oki, Bool.and_eq_true, decide_eq_true_eq] at hok
      obtain ⟨rfl, rfl⟩ := hok
      exact ab_s_ial hx hb hts hnw hK hA hZ hdg hs hc hG
    case iastore =>
      obtain ⟨len, hdg, hok⟩ := hd (fun q => by cases q)
      simp only [ab_oki, Bool.and_eq_true, decide_eq_true_eq] at hok
      obtain ⟨rfl, rfl⟩ := hok
      exact ab_s_ias hx hb hts hnw hK hA hZ hdg hs hc hG
    case baload =>
      obtain ⟨len, hdg, hok⟩ := hd (fun q => by cases q)
      simp only [ab_oki, Bool.and_eq_true, decide_eq_true_eq] at hok
      obtain ⟨rfl, rfl⟩ := hok
      exact ab_s_bal hx hb hts hnw hK hA hZ hdg hs hc hG
    case bastore =>
      obtain ⟨len, hdg, hok⟩ := hd (fun q => by cases q)
      simp only [ab_oki, Bool.and_eq_true, decide_eq_true_eq] at hok
      obtain ⟨rfl, rfl⟩ := hok
      exact ab_s_bas hx hb hts hnw hK hA hZ hdg hs hc hG
    case laload =>
      obtain ⟨len, hdg, hok⟩ := hd (fun q => by cases q)
      simp only [ab_oki, Bool.and_eq_true, decide_eq_true_eq] at hok
      obtain ⟨rfl, rfl⟩ := hok
      exact ab_s_lal hx hb hts hnw hK hA hZ hdg hs hc hG
    case lastore =>
      obtain ⟨len, hdg, hok⟩ := hd (fun q => by cases q)
      simp only [ab_oki, Bool.and_eq_true, decide_eq_true_eq] at hok
      obtain ⟨rfl, rfl⟩ := hok
      exact ab_s_las hx hb hts hnw hK hA hZ hdg hs hc hG
    case aaload =>
      obtain ⟨len, hdg, hok⟩ := hd (fun q => by cases q)
      simp only [ab_oki, Bool.and_eq_true, decide_eq_true_eq] at hok
      obtain ⟨rfl, rfl⟩ := hok
      exact ab_s_aal hx hb hts hnw hK hA hZ hdg hs hc hG
    case arraylength =>
      obtain ⟨len, hdg, hok⟩ := hd (fun q => by cases q)
      simp only [ab_oki, Bool.and_eq_true, decide_eq_true_eq] at hok
      obtain ⟨rfl, rfl⟩ := hok
      exact ab_s_aln hx hb hts hnw hK hA hZ hdg hs hc hG
    case invokevirtual i =>
      obtain ⟨len, hdg, hok⟩ := hd (fun q => by cases q)
      unfold ab_oki at hok
      simp only [Bool.and_eq_true, decide_eq_true_eq, Bool.not_eq_true'] at hok
      obtain ⟨⟨rfl, rfl⟩, ha, hst, hlk⟩ := hok
      exact ab_s_cal (vi := true) hx hb hts hnw hK hA hZ hown hml hdf hdl hcl hsl ha hst hlk hdg hs hc hG
    case invokestatic i =>
      obtain ⟨len, hdg, hok⟩ := hd (fun q => by cases q)
      unfold ab_oki at hok
      simp only [Bool.and_eq_true, decide_eq_true_eq, Bool.not_eq_true'] at hok
      obtain ⟨⟨rfl, rfl⟩, ha, hst, hlk⟩ := hok
      exact ab_s_cal (vi := false) hx hb hts hnw hK hA hZ hown hml hdf hdl hcl hsl ha hst hlk hdg hs hc hG
    all_goals exact absurd hs (by intro q; cases q)
  · cases hs
theorem ab_run_ok {Z : ab_Z} {X : ab_X} {k : Nat} (hX : ab_okX Z X) (hk : ab_xk X = k) : ∀ (es : List ab_E) (o : List ab_O) (st st1 : ab_S) (C : Prop), es.all (ab_ok k) = true → ab_run Z X k es o st = some (C, st1) → C → ab_G Z X st1 → ab_G Z X st
  | [], _, st, st1, C, _, hr, _, hG => by
    unfold ab_run at hr
    cases hr
    exact hG
  | e :: t, o, st, st1, C, ha, hr, hC, hG => by
    rw [List.all_cons, Bool.and_eq_true] at ha
    unfold ab_run at hr
    split at hr
    · cases hr
    · next c o' st' hs =>
      split at hr
      · cases hr
      · next C' st2 hr2 =>
        cases hr
        cases c with
        | none => exact ab_stp_ok hX hk ha.1 hs trivial (ab_run_ok hX hk t o' st' _ C' ha.2 hr2 hC hG)
        | some c => exact ab_stp_ok hX hk ha.1 hs hC.1 (ab_run_ok hX hk t o' st' _ C' ha.2 hr2 hC.2 hG)
def ab_isnop (e : ab_E) : Bool := match e.2.1 with
  | .nop => true
  | _ => false
def ab_eb (e f : ab_E) : Bool := decide (e.1 = f.1) && (decide (e.2.2.2.2.2 = f.2.2.2.2.2) && (decide (e.2.2.1 = f.2.2.1) && (decide (e.2.2.2.1 = f.2.2.2.1) && (decide (e.2.2.2.2.1 = f.2.2.2.2.1) && decide (e.2.1 = f.2.1)))))
theorem ab_eb_eq {e f : ab_E} (h : ab_eb e f = true) : e = f := by
  obtain ⟨a, b, c, d, g, i⟩ := e
  obtain ⟨a', b', c', d', g', i'⟩ := f
  unfold ab_eb at h
  simp only [Bool.and_eq_true, decide_eq_true_eq] at h
  obtain ⟨rfl, rfl, rfl, rfl, rfl, rfl⟩ := h
  rfl
/-- a path of a method's code -/
theorem ab_go {Z : ab_Z} {X : ab_X} (k : Nat) {cd es : List ab_E} (o : List ab_O) {st st1 : ab_S} {C : Prop} (hX : ab_okX Z X ∧ ab_xk X = k) (hcd : cd.all (ab_ok k) = true) (hes : es.all (fun e => cd.any (ab_eb e) || ab_isnop e) = true) (hr : ab_run Z X k es o st = some (C, st1)) (hC : C) (hG : ab_G Z X st1) : ab_G Z X st := by
  refine ab_run_ok hX.1 hX.2 es o st st1 C (List.all_eq_true.mpr fun e he => ?_) hr hC hG
  have h := List.all_eq_true.mp hes e he
  rw [Bool.or_eq_true] at h
  rcases h with h | h
  · obtain ⟨f, hf, hef⟩ := List.any_eq_true.mp h
    rw [ab_eb_eq hef]
    exact List.all_eq_true.mp hcd f hf
  · obtain ⟨pc, ins, a⟩ := e
    unfold ab_isnop at h
    unfold ab_ok
    cases ins <;> first | rfl | cases h
theorem ab_plain {k : Nat} (h : k < ab_NM - 1) : plainFor (ab_mY k) = true := by
  have hmk := ab_mck h
  unfold ab_mchk at hmk
  simp only [Bool.and_eq_true, Bool.or_eq_true, decide_eq_true_eq] at hmk
  obtain ⟨-, -, -, -, hp, -⟩ := hmk
  rcases hp with hp | hp
  · exact plainFor_of_name hp
  · rcases (by omega : k = 143 ∨ k = 144 ∨ k = 145) with rfl | rfl | rfl
    · exact ab_pf0
    · exact ab_pf1
    · exact ab_pf2
theorem ab_ofW {l : Launch} {y : MethodName} {ws ws' : List Jvm.Cond} {rm : Room} {Pc : Array Value → State → Prop} {Qc : Array Value → State → Outcome → State → Prop} {mc ms : Nat} {free : Addr → Prop} {cc : ByteArray} {maxL : Nat} {ret : Option FieldType}
    (hy : plainFor y = true) (hw : ws = Jvm.Cond.code y cc maxL ret :: ws')
    (body : ∀ p e s m args below meth c s₁, BodyLoose p l y (headSpec ws rm) cc maxL ret e s m args below meth c s₁ → c.maxLocals = maxL → Pc args s →
      W p l e (headSpec ws rm).room s m args below meth c s.heap [] 0 0 (MQ below Qc args s mc ms free) (entryFrame m args maxL)) : Met l y ws rm Pc Qc mc ms free := by
  refine MetFree.of_bodySF (code := cc) (maxLocals := maxL) (ret := ret) hy ?_ ?_
  · intro args s m h hn
    obtain ⟨meth, c, h1, h2, h3, h4, h5, h6, -, -⟩ := Cond.code_spec hn (atoms_spec (ws := ws) h _ (by rw [hw]; exact List.mem_cons_self))
    exact ⟨meth, c, h1, h2, h3, h4, h5, h6⟩
  · intro p e s m args below meth c s₁ B hml hP _
    have hh0 : s₁.heap = s.heap := by rw [B.state]; rfl
    obtain ⟨t, a1, o, b1, b2, b3⟩ := body p e s m args below meth c s₁ B hml hP s₁ hh0 (Stand.of_body B)
    exact ⟨t, o, a1, b1, b2, ⟨b3.1, b3.2⟩⟩
/-- the locals with which a method begins -/
def ab_loc : Nat → List ab_V → List (Nat × ab_V)
  | _, [] => []
  | i, v :: vs => (i, v) :: ab_loc (if ab_cat v = 2 then i + 2 else i + 1) vs
theorem ab_loc_cv (Z : ab_Z) (b : Nat) : ∀ (vs : List ab_V) (i : Nat), ab_cvL Z b (ab_loc i vs) = lv_args i (vs.map (ab_cv Z b))
  | [], _ => rfl
  | v :: vs, i => by
    show (i, ab_cv Z b v) :: ab_cvL Z b (ab_loc (if ab_cat v = 2 then i + 2 else i + 1) vs) = (i, ab_cv Z b v) :: lv_args (if (ab_cv Z b v).category = 2 then i + 2 else i + 1) (vs.map (ab_cv Z b))
    rw [ab_cat_cv, ab_loc_cv Z b vs]
/-- the place of a return, and how it is proved: what it answers, and the cells -/
def ab_rpc (k : Nat) (r : Option Int32) (pc : Nat) : Prop := match r with
  | none => decode (ab_mB k) pc = .ok (.return_, 1)
  | some _ => decode (ab_mB k) pc = .ok (.ireturn, 1)
def ab_rk (k : Nat) (r : Option Int32) : Prop := match r, ab_mR k with
  | none, none => True
  | some _, some .int => True
  | some v, some .boolean => ab_zk v
  | _, _ => False
def ab_rsl (vs : List ab_V) : Nat := (vs.map ab_cat).sum
theorem ab_rsl_len (Z : ab_Z) (b : Nat) : ∀ vs : List ab_V, (lg_sl (vs.map (ab_cv Z b))).length = ab_rsl vs
  | [] => rfl
  | v :: vs => by
    have ih := ab_rsl_len Z b vs
    unfold ab_rsl at ih ⊢
    rw [List.map_cons, List.map_cons, List.sum_cons]
    unfold lg_sl at ih ⊢
    rw [List.flatMap_cons, List.length_append, ih, ab_cat_cv]
    have hv : ab_cat v = 1 ∨ ab_cat v = 2 := by
      rcases v with v | v
      · cases v <;> first | exact Or.inl rfl | exact Or.inr rfl
      · exact Or.inl rfl
    rcases hv with h | h
    · rw [h]; rfl
    · rw [h]; rfl
set_option maxHeartbeats 4000000 in
theorem ab_intro {Z : ab_Z} {d k : Nat} {As : List ab_V} {m : ab_M} {r : Option Int32} {m' : ab_M} (hk : k < ab_NM - 1) (hZ : ab_okZ Z) (hsl : ab_rsl As ≤ ab_mL k) (hrk : ab_rk k r)
    (body : ∀ X : ab_X, ab_okX Z X ∧ ab_xk X = k → ab_xd X = d → (∀ (pc : Nat) (L : List (Nat × ab_V)), ab_rpc k r pc → ab_G Z X (pc, L, r.toList.map (fun x => .inl (.int x)), m')) → ab_G Z X (0, ab_loc 0 As, [], m)) : ab_C Z d k As m r m' := by
  refine ab_ofW (cc := ab_mB k) (maxL := ab_mL k) (ret := ab_mR k) (ab_plain hk) rfl ?_
  intro p e s mm args below meth c s₁ B hml hv
  obtain ⟨rfl, hP, hK, hnw⟩ := hv
  have hts := atoms_spec (ws := ab_mW k) B.pre
  have hown : s.vm.findClass (ab_mY k).cls = some mm.cls := findClass_of_methodNamed B.named
  have hlocks := B.notSynchronized
  have hr := B.returns
  have hx := B.exec
  have hb := B.bytes
  have hl := lv_entry (As.map (ab_cv Z 0)) (n := ab_mL k) (by rw [ab_rsl_len]; exact hsl)
  rw [lg_entry_eq]
  rw [← ab_loc_cv] at hl
  have X0 : ab_okX Z (p, e, (headSpec (ab_mW k) (ab_rm d)).room, s, mm, (As.map (ab_cv Z 0)).toArray, below, meth, c, 0, 0, MQ below (fun _ st oc t => (oc = .returned (r.map Value.int) ∧ va_P (ab_D Z) vwCl (ab_w Z m') t.heap) ∧ va_F (ab_A Z) st t) (As.map (ab_cv Z 0)).toArray s 0 0 (ab_A Z), ab_A Z, 0, 0, (fun _ => 0), k, d) := ⟨hx, hb, hml, hown, fun w hw => hts w (List.mem_cons_of_mem _ hw), hnw, hK, fun _ h => h, Nat.le_refl _, Nat.le_refl _, Nat.zero_le _, Nat.zero_le _, hZ⟩
  refine body _ ⟨X0, rfl⟩ rfl ?_ s.heap [] _ hP va_S.rf hl
  intro pc L hpc H locs ls hP9 hS9 hl9
  cases r with
  | none =>
    have hr0 : meth.sig.returnType = none := by
      rw [hr]
      unfold ab_rk at hrk
      cases hR : ab_mR k with
      | none => rfl
      | some t => rw [hR] at hrk; exact hrk.elim
    exact W.vret hx hb hr0 (fun t ht _ => ⟨⟨rfl, by rw [ht]; exact hP9⟩, hS9.F ht⟩) hS9.2.2 hpc
  | some v =>
    unfold ab_rk at hrk
    cases hR : ab_mR k with
    | none => rw [hR] at hrk; exact hrk.elim
    | some ty =>
      rw [hR] at hrk hr
      cases ty with
      | int => exact W.iret hx hb hr (fun t ht _ => ⟨⟨rfl, by rw [ht]; exact hP9⟩, hS9.F ht⟩) hS9.2.2 hpc
      | boolean => exact W.zret hx hb hr (ab_zk_nar hrk).1 (fun t ht _ => ⟨⟨rfl, by rw [ht]; exact hP9⟩, hS9.F ht⟩) hS9.2.2 hpc
      | _ => exact hrk.elim
