/-! ===== a step of the machine is a step of the code ===== -/
theorem cu_ra {D : va_G} {K : cu_K} {s : State} (hU : cu_U D K s) {cA : ClassId} : (s.vm.findClass "[I" = some cA → cA = K.1) ∧ (s.vm.findClass "[[I" = some cA → cA = K.2.2.2) := by
  have e1 : "[" ++ (FieldType.array .int).toString = "[[I" := by decide +kernel
  have e2 : "[" ++ FieldType.int.toString = "[I" := by decide +kernel
  constructor
  · intro h
    have h2 : s.vm.findClass ("[" ++ FieldType.int.toString) = some K.1 := (hU.1.2 0 _ rfl).2
    rw [e2] at h2
    exact Option.some.inj (h.symm.trans h2)
  · intro h
    have h2 : s.vm.findClass ("[" ++ (FieldType.array .int).toString) = some K.2.2.2 := (hU.1.2 3 _ rfl).2
    rw [e1] at h2
    exact Option.some.inj (h.symm.trans h2)
theorem cu_one {α : Type} {x c : α} {j : Nat} (h : [x][j]? = some c) : j = 0 ∧ c = x := by
  cases j with
  | zero => exact ⟨rfl, (Option.some.inj h).symm⟩
  | succ j => cases h
set_option maxHeartbeats 4000000 in
theorem cu_stp_ok {X : cu_X} (hX : cu_okX X) {e : cu_E} {st st1 : cu_S} (ho : cu_ok (cu_xk X) e = true) (hs : cu_stp (cu_xk X) e st = some st1) (hG : cu_G X st1) : cu_G X st := by
  obtain ⟨p, l, e0, R, s, mm, args, below, meth, c0, Q, D, K, o, k⟩ := X
  obtain ⟨hx, hb, hml, hown, hts, hU, hin, hfr, hlo, hcl, hsl, hk9, hC⟩ := hX
  obtain ⟨pc, op, ix, a, j, v⟩ := e
  obtain ⟨pc', lo, S, L, cs, sl⟩ := st
  change cu_ok k (pc, op, ix, a, j, v) = true at ho
  change cu_stp k (pc, op, ix, a, j, v) (pc', lo, S, L, cs, sl) = some st1 at hs
  unfold cu_stp at hs
  dsimp only at hs
  split at hs
  · next hpc =>
    subst hpc
    unfold cu_ok at ho
    dsimp only at ho
    intro H locs ls hP hS hl
    change cu_P D K o L H at hP
    change lv_has ls (cu_L k) ((0, .ref o) :: lo.map (fun i => (1, Value.int i))) at hl
    show W p l e0 R s mm args below meth c0 H locs cs sl Q (F0 mm pc ls (S.map (cu_v o)))
    have hl0 : ls[0]? = some (.val (.ref o)) := hl.2.2 (0, .ref o) List.mem_cons_self
    split at hs
    · -- aload_0
      cases hs
      exact lv_aload_n (x := o) hx hb (cu_dec_ok ho) rfl hl0 (hG H locs ls hP hS hl)
    · -- iconst
      cases hs
      simp only [Bool.and_eq_true, decide_eq_true_eq] at ho
      exact lv_iconst hx hb (cu_dec_ok ho.1) ho.2 (hG H locs ls hP hS hl)
    · cases hs
      simp only [Bool.and_eq_true, decide_eq_true_eq] at ho
      exact lv_bipush hx hb (cu_dec_ok ho.1) ho.2 (hG H locs ls hP hS hl)
    · cases hs
      simp only [Bool.and_eq_true, decide_eq_true_eq] at ho
      exact lv_sipush hx hb (cu_dec_ok ho.1) ho.2 (hG H locs ls hP hS hl)
    · -- newarray
      split at hs
      · next n r =>
        split at hs
        · next hc =>
          cases hs
          obtain ⟨c1, c2, c3, c4⟩ := hc
          simp only [Bool.and_eq_true, decide_eq_true_eq] at ho
          obtain ⟨h1, h2, h3⟩ := ho
          have hw := hts _ (ab_wd_tb h3)
          have hn : ¬ n < 0 := Int32.not_lt.mpr c1
          rcases (by omega : a = 0 ∨ a = 1 ∨ a = 2) with h | h | h <;> subst h
          · refine va_newaK (atype := .int) (N := n.toNatClampNeg) hx hb hw rfl (cu_dec_ok h1) rfl hn rfl (by show _ * 4 ≤ _; omega) (by omega) (by omega) rfl (fun H' cA e1 z1 o1 hAr hNm => ?_)
            have hc : cA = K.1 := Option.some.inj (hNm.symm.trans (hU.1.2 0 _ rfl).2)
            subst hc
            have h9 := hG H' locs ls (cu_push hP (by rw [z1]; rfl) o1 (fun i c hi => by
              obtain ⟨rfl, rfl⟩ := cu_one hi
              show H'[o + (L.length + 0)]? = _
              rw [show o + (L.length + 0) = H.size from hP.1.symm]
              exact e1)) (cu_Snew hS (by omega) o1) hl
            have h9 : W p l e0 R s mm args below meth c0 H' locs (cs + 1) (sl + n.toNatClampNeg) Q (F0 mm (pc + 2) ls (.ref (o + L.length) :: r.map (cu_v o))) := h9
            rw [← hP.1] at h9
            exact h9
          · refine va_newaK (atype := .boolean) (N := n.toNatClampNeg) hx hb hw rfl (cu_dec_ok h1) rfl hn rfl (by show _ * 1 ≤ _; omega) (by omega) (by omega) rfl (fun H' cA e1 z1 o1 hAr hNm => ?_)
            have hc : cA = K.2.1 := Option.some.inj (hNm.symm.trans (hU.1.2 1 _ rfl).2)
            subst hc
            have h9 := hG H' locs ls (cu_push hP (by rw [z1]; rfl) o1 (fun i c hi => by
              obtain ⟨rfl, rfl⟩ := cu_one hi
              show H'[o + (L.length + 0)]? = _
              rw [show o + (L.length + 0) = H.size from hP.1.symm]
              exact e1)) (cu_Snew hS (by omega) o1) hl
            have h9 : W p l e0 R s mm args below meth c0 H' locs (cs + 1) (sl + n.toNatClampNeg) Q (F0 mm (pc + 2) ls (.ref (o + L.length) :: r.map (cu_v o))) := h9
            rw [← hP.1] at h9
            exact h9
          · refine va_newaK (atype := .long) (N := n.toNatClampNeg) hx hb hw rfl (cu_dec_ok h1) rfl hn rfl (by show _ * 8 ≤ _; omega) (by omega) (by omega) rfl (fun H' cA e1 z1 o1 hAr hNm => ?_)
            have hc : cA = K.2.2.1 := Option.some.inj (hNm.symm.trans (hU.1.2 2 _ rfl).2)
            subst hc
            have h9 := hG H' locs ls (cu_push hP (by rw [z1]; rfl) o1 (fun i c hi => by
              obtain ⟨rfl, rfl⟩ := cu_one hi
              show H'[o + (L.length + 0)]? = _
              rw [show o + (L.length + 0) = H.size from hP.1.symm]
              exact e1)) (cu_Snew hS (by omega) o1) hl
            have h9 : W p l e0 R s mm args below meth c0 H' locs (cs + 1) (sl + n.toNatClampNeg) Q (F0 mm (pc + 2) ls (.ref (o + L.length) :: r.map (cu_v o))) := h9
            rw [← hP.1] at h9
            exact h9
        · cases hs
      · cases hs
    · -- multianewarray
      split at hs
      · next m n r =>
        split at hs
        · next hc =>
          cases hs
          obtain ⟨c1, c2, c3, c4, c5, c6⟩ := hc
          simp only [Bool.and_eq_true, decide_eq_true_eq] at ho
          obtain ⟨h1, h2, h3, h4⟩ := ho
          refine cu_mnew (N := n.toNatClampNeg) (M := m.toNatClampNeg) hx hb hown (hts _ (ab_wd_tb h2)) (hU.2 _ (cu_wn_in h4 rfl)) (hts _ (ab_wd_tb h3)) (cu_dec_ok h1) (Int32.not_lt.mpr c1) (Int32.not_lt.mpr c2) rfl rfl c3 c4 (by omega) (by omega) (fun H' cA cI hA hI z1 e1 e2 o1 => ?_)
          have hA := (cu_ra hU).2 hA
          have hI := (cu_ra hU).1 hI
          subst hA; subst hI
          have h9 := hG H' locs ls (cu_push hP (by rw [z1, List.length_cons, List.length_replicate]; omega) o1 (fun i c hi => by
            cases i with
            | zero =>
              have hc := Option.some.inj hi
              subst hc
              show H'[o + (L.length + 0)]? = some (arrV K.2.2.2 n.toNatClampNeg (fun i => va_rf (if i < n.toNatClampNeg then some (o + (L.length + 1) + i) else none)))
              rw [show o + (L.length + 0) = H.size from hP.1.symm, e1, hP.1]
              rfl
            | succ i =>
              have hi : (List.replicate n.toNatClampNeg ((0, m.toNatClampNeg, 0, []) : cu_C))[i]? = some c := hi
              rw [List.getElem?_replicate] at hi
              split at hi
              · next hlt =>
                have hc := Option.some.inj hi
                subst hc
                show H'[o + (L.length + (i + 1))]? = _
                rw [show o + (L.length + (i + 1)) = H.size + 1 + i by rw [hP.1]; omega]
                exact e2 i hlt
              · cases hi)) (cu_Snew hS (by omega) o1) hl
          have h9 : W p l e0 R s mm args below meth c0 H' locs (cs + (1 + n.toNatClampNeg)) (sl + (n.toNatClampNeg + n.toNatClampNeg * m.toNatClampNeg)) Q (F0 mm (pc + 4) ls (.ref (o + L.length) :: r.map (cu_v o))) := h9
          rw [← hP.1] at h9
          exact h9
        · cases hs
      · cases hs
    · -- new
      split at hs
      · next hc =>
        cases hs
        simp only [Bool.and_eq_true, decide_eq_true_eq] at ho
        obtain ⟨h1, h2, h3, h4, h5⟩ := ho
        refine W.newcK hx hb hown (hts _ (ab_wd_tb h3)) (hts _ (ab_wd_tb h4)) (hts _ (ab_wd_tb h5)) rfl (cu_dec_ok h1) (by omega) (by omega) (cu_cls (by omega) hU.1) rfl (fun H' kC hkC e1 z1 o1 => ?_)
        have h9 := hG H' locs ls (cu_push hP (by rw [z1]; rfl) o1 (fun i c hi => by
          obtain ⟨rfl, rfl⟩ := cu_one hi
          exact cu_born (by omega) hts hU.1 hkC (by rw [show o + (L.length + 0) = H.size from hP.1.symm]; exact e1))) (cu_Snew hS (by omega) o1) hl
        have h9 : W p l e0 R s mm args below meth c0 H' locs (cs + 1) (sl + cu_N a) Q (F0 mm (pc + 3) ls (.ref (o + L.length) :: S.map (cu_v o))) := h9
        rw [← hP.1] at h9
        exact h9
      · cases hs
    · -- dup
      split at hs
      · next w r =>
        cases hs
        exact lv_dup hx hb (cu_dec_ok ho) (by rcases w with w | w <;> rfl) (hG H locs ls hP hS hl)
      · cases hs
    · -- putfield
      split at hs
      · next w q r =>
        split at hs
        · next c hq =>
          split at hs
          · next hc =>
            cases hs
            obtain ⟨c1, c2, c3⟩ := hc
            simp only [Bool.and_eq_true] at ho
            obtain ⟨h1, h2⟩ := ho
            obtain ⟨ty, t1, t2, t3⟩ := cu_pvs o c3
            unfold cu_fl at h2
            unfold cu_td at t1
            cases hvc : vwCl[k]? with
            | none => rw [hvc] at h2; cases h2
            | some z =>
              obtain ⟨C, T, N⟩ := z
              rw [hvc] at h2 t1
              simp only [Bool.and_eq_true, decide_eq_true_eq] at h2
              obtain ⟨g1, g2, g3⟩ := h2
              refine cu_put (A := fun q => o ≤ q) (H0 := s.heap) hx hb hts hown hU.1 (cu_obj (hP.2 q c hq) c1) hS (Nat.le_add_right o q) hvc g1 (hts _ (ab_wd_tb g2)) hin g3 t1 t2 t3 (by rw [List.length_map]; exact c2) (cu_dec_ok h1) (fun H1 locs1 e1 z1 o1 hS1 => ?_)
              refine hG H1 locs1 ls (cu_set hP hq z1 o1 ?_) hS1 hl
              rw [c1]
              refine cu_obj' ?_
              rw [List.map_set, cu_fv]
              exact e1
          · cases hs
        · cases hs
      · cases hs
    · -- Object()
      split at hs
      · next q r =>
        split at hs
        · next hc =>
          cases hs
          simp only [Bool.and_eq_true] at ho
          obtain ⟨h1, h2⟩ := ho
          have hf1 : 1 ≤ (cu_rm k).frames := by unfold cu_rm; dsimp only; split <;> omega
          have hf2 : 60 ≤ (cu_rm k).locals := by unfold cu_rm; dsimp only; split <;> omega
          refine W.objInit hx hb hown (hts _ (ab_wd_tb h2)) (hts _ cu_o1) (hts _ cu_o2) rfl (by rw [hml]; exact hl.1) (a := o + q) (rest := r.map (cu_v o)) rfl (cu_dec_ok h1) (by omega) ?_ (hG H locs ls hP hS hl)
          rw [cu_cat]
          show 2 * 0 + r.length + 12 ≤ R.locals
          omega
        · cases hs
      · cases hs
    · -- a nest mate's constructor
      split at hs
      · next q r =>
        split at hs
        · next hc =>
          cases hs
          obtain ⟨c1, c2, c3, c4, c5⟩ := hc
          have c2 := cu_isC_eq c2
          simp only [Bool.and_eq_true, decide_eq_true_eq] at ho
          obtain ⟨h1, h2, h3, h4, h5, h6, h7⟩ := ho
          subst h2
          have hM := hC rfl a h3 (o + q)
          have hGd : GoodIn ab_tb (cu_W a) := ab_good (fun w hw => by
            rcases List.mem_cons.mp hw with h | h
            · rw [h]; exact ab_wd_tb h6
            · exact h)
          have hLa : cu_L a = 1 := if_neg (by omega)
          have hra : (cu_rm a).frames = 1 ∧ (cu_rm a).locals = 60 := by
            unfold cu_rm
            dsimp only
            rw [if_neg (by omega), if_neg (by omega)]
            exact ⟨rfl, rfl⟩
          have cw := va_cnB (R := R) (s := s) (args := args) (own := cu_c 7) (host := "LostDesk") (index := ix) (y := cu_y a) (bytes := cu_b a) (maxL := cu_L a) (ret := none) (rm := cu_rm a) (mc := cu_mc a) (ms := cu_ms a) 0 hts hGd rfl rfl rfl (hU.2 _ (cu_wn_in h4 rfl)) (hts _ (ab_wd_tb h5)) (cu_ynm a h3) (by
            rw [hra.1, hra.2, hLa]
            have q1 : 2 ≤ R.frames := hfr
            have q2 : 200 ≤ R.locals := hlo
            omega)
          refine cu_after (A := fun q => o ≤ q) (H0 := s.heap) (va_runIN (Ts := ab_tb) (b := o + q) (As := []) (rest := r.map (cu_v o)) (g := F0 mm pc ls (.ref (o + q) :: r.map (cu_v o))) ⟨hx, hb, hml, hown, hts⟩ hM ⟨cw, rfl, hts _ (ab_wd_tb h7)⟩ ⟨cu_blind D K a (o + q), fun U hW0 hW => ⟨rfl, ⟨?_, fun i c hi => ?_⟩, hU.warm hW⟩⟩ rfl rfl hl.1 rfl (lv_room (by rw [cu_cat]; exact c3)) (cu_dec_ok h1) ⟨by omega, by omega⟩) hS (fun x hx2 => Nat.le_trans (Nat.le_add_right o q) hx2) (fun x hx2 => Nat.le_trans (Nat.le_add_right o q) hx2) (fun H1 locs1 hB old hS1 => ?_)
          · rw [hW0, hP.1, ← c1]
            show _ = o + q + 1
            omega
          · obtain ⟨rfl, rfl⟩ := cu_one hi
            have h8 := hP.2 q _ c2
            unfold cu_at at h8 ⊢
            rw [hW0, cu_esh, cu_esh0 a (by omega)]
            exact h8
          · refine hG H1 locs1 ls (cu_app (fun i c hi => ?_) (fun i c hi => ?_) ?_) hS1 hl
            · have hi2 : i < q ∧ L[i]? = some c := by
                rw [List.getElem?_take] at hi
                split at hi
                · exact ⟨by assumption, hi⟩
                · cases hi
              exact va_at.kept (hP.2 i c hi2.2) (old _ (cu_lt hP hi2.2) (by show ¬ o + q ≤ o + i; omega))
            · rw [List.getElem?_map] at hi
              cases hf : (cu_fin a)[i]? with
              | none => rw [hf] at hi; cases hi
              | some c' =>
                rw [hf] at hi
                have hc := Option.some.inj hi
                subst hc
                have h8 := hB.2 i c' hf
                unfold cu_at at h8 ⊢
                rw [← cu_esh, List.length_take, Nat.min_eq_left (by omega)]
                rw [show o + (q + i) = o + q + i by omega]
                exact h8
            · rw [hB.1, List.length_take, List.length_map, Nat.min_eq_left (by omega)]
              omega
        · cases hs
      · cases hs
    · -- istore_1
      split at hs
      · next i r =>
        cases hs
        simp only [Bool.and_eq_true, decide_eq_true_eq] at ho
        obtain ⟨h1, h2⟩ := ho
        subst h2
        refine lv_istore_n (i := 1) hx hb (cu_dec_ok h1) rfl hl (by decide) rfl (fun ls' hl' => ?_)
        refine hG H locs ls' hP hS (cu_re hl' (fun z hz => ?_))
        simp only [List.map_cons, List.map_nil, List.mem_cons, List.not_mem_nil, or_false] at hz
        rcases hz with h | h
        · rw [h]
          exact List.mem_cons_of_mem _ (List.mem_filter.mpr ⟨List.mem_cons_self, rfl⟩)
        · rw [h]
          exact List.mem_cons_self
      · cases hs
    · -- iload_1
      split at hs
      · next i =>
        cases hs
        exact lv_iload_n hx hb (cu_dec_ok ho) rfl (hl.2.2 (1, .int i) (List.mem_cons_of_mem _ List.mem_cons_self)) (hG H locs ls hP hS hl)
      · cases hs
    · -- if_icmpge
      split at hs
      · next y x r =>
        split at hs
        · cases hs
        · next hc =>
          cases hs
          exact lv_icmp_ge (tgt := a) hx hb (cu_dec_ok ho) (by omega) (fun q => absurd q hc) (fun _ => hG H locs ls hP hS hl)
      · cases hs
    · split at hs
      · next y x r =>
        split at hs
        · next hc =>
          cases hs
          exact lv_icmp_ge (tgt := a) hx hb (cu_dec_ok ho) (by omega) (fun _ => hG H locs ls hP hS hl) (fun q => absurd hc q)
        · cases hs
      · cases hs
    · -- getfield
      split at hs
      · next q r =>
        split at hs
        · next c hq =>
          split at hs
          · next hc =>
            split at hs
            · next w hw =>
              cases hs
              simp only [Bool.and_eq_true] at ho
              obtain ⟨h1, h2⟩ := ho
              unfold cu_fl at h2
              cases hvc : vwCl[k]? with
              | none => rw [hvc] at h2; cases h2
              | some z =>
                obtain ⟨C, T, N⟩ := z
                rw [hvc] at h2
                simp only [Bool.and_eq_true, decide_eq_true_eq] at h2
                obtain ⟨g1, g2, g3⟩ := h2
                exact va_get (D := D) (cl := vwCl) (ws := [(o + q, .inr (k, c.2.2.2.map (cu_f o)))]) (Ts := ab_tb) hx hb hts (ab_cl_all k C T N hvc).1 hown hU.1 (fun i x hi => by obtain ⟨rfl, rfl⟩ := cu_one hi; exact cu_obj (hP.2 q c hq) hc) 0 rfl hvc a g1 (hts _ (ab_wd_tb g2)) (fun _ h => h) (by rw [List.getElem?_map, hw]; exact congrArg some (cu_fv o w)) (cu_dec_ok h1) (hG H locs ls hP hS hl)
            · cases hs
          · cases hs
        · cases hs
      · cases hs
    · -- aaload
      split at hs
      · next i q r =>
        split at hs
        · next c hq =>
          split at hs
          · next hc =>
            cases hs
            obtain ⟨c1, c2, c3⟩ := hc
            have h8 := hP.2 q c hq
            obtain ⟨t, n, f, fs⟩ := c
            have c1 : t = 3 := c1
            subst c1
            have h8 : H[o + q]? = some (arrV K.2.2.2 n (fun j => va_rf (if j < n then some (o + f + j) else none))) := h8
            have c3 : i.toNatClampNeg < n := c3
            refine W.aald (v := .ref (o + (f + i.toNatClampNeg))) (ty := .array .int) hx hb h8 ((hU.1.2 3 _ rfl).1 n _) rfl (fun q => by cases q) ?_ ?_ rfl rfl (cu_dec_ok ho) (hG H locs ls hP hS hl)
            · rw [arrV_size]
              intro h
              rcases h with h | h
              · exact Int32.not_lt.mpr c2 h
              · omega
            · rw [arrV_read _ _ c3, if_pos c3, Nat.add_assoc]
              rfl
          · cases hs
        · cases hs
      · cases hs
    · -- fill
      split at hs
      · next w q r =>
        split at hs
        · next c hq =>
          split at hs
          · next hc =>
            cases hs
            obtain ⟨c1, c2, c3, c4, c5, c6⟩ := hc
            subst c2
            simp only [Bool.and_eq_true, decide_eq_true_eq] at ho
            obtain ⟨h1, h2, h3⟩ := ho
            subst h2
            have h8 := hP.2 q c hq
            obtain ⟨t, n, f, fs⟩ := c
            have c1 : t = 0 := c1
            subst c1
            have c6 : n ≤ 1000 := c6
            have h8 : H[o + q]? = some (arrV K.1 n (fun _ => .int (cu_z f))) := h8
            have hM := cu_fill l D K (o + q) n H.size (cu_z f) (-1) c6
            have hmk := ab_mck (k := 146) (by decide)
            unfold ab_mchk at hmk
            simp only [Bool.and_eq_true, decide_eq_true_eq] at hmk
            obtain ⟨hcode, hini, hn1, hn2, -, hL40, -, hrest⟩ := hmk
            have hst : (ab_mJ 146).2.2.2.2 = true := by decide
            rw [hst] at hrest
            simp only [if_true, Bool.and_eq_true, decide_eq_true_eq] at hrest
            obtain ⟨hstat, hpar⟩ := hrest
            have hG2 : GoodIn ab_tb (va_wsS (cu_c 7) ix (ab_mY 146) (ab_mW 146)) := ab_good (fun w hw => by
              rcases List.mem_append.mp hw with h | h
              · simp only [List.mem_cons, List.not_mem_nil, or_false] at h
                rcases h with rfl | rfl | rfl
                · exact ab_wd_tb h3
                · exact ab_wd_tb hstat
                · exact ab_wd_tb hini
              · rcases List.mem_cons.mp h with h | h
                · rw [h]; exact ab_wd_tb hcode
                · exact h)
            have hL4 : ab_mL 146 = 4 := by decide
            have cw := va_cwS (R := R) (s := s) (args := args) (ret := ab_mR 146) (bytes := ab_mB 146) (maxL := ab_mL 146) (rm := cu_r0) (mc := 0) (ms := 0) 2 hts hG2 rfl rfl rfl ⟨hn1, hn2, hpar⟩ (by
              rw [hL4]
              show 0 + 1 ≤ R.frames ∧ 8 + (4 + 11) + 0 ≤ R.locals
              have q1 : 2 ≤ R.frames := hfr
              have q2 : 200 ≤ R.locals := hlo
              omega)
            refine cu_after (A := fun q => o ≤ q) (H0 := s.heap) (B := fun Hx => Hx.size = H.size ∧ Hx[o + q]? = some (arrV K.1 n (fun _ => .int (-1)))) (va_runS (Ts := ab_tb) (As := [.ref (o + q), .int (-1)]) (rest := r.map (cu_v o)) (g := F0 mm pc ls (.int (-1) :: .ref (o + q) :: r.map (cu_v o))) ⟨hx, hb, hml, hown, hts⟩ hM cw ⟨fun aa U g mk qq => ⟨qq.1, qq.2.1, qq.2.2.1, va_K.moved (u := U) (U := U.calling g mk aa) (Vm.Alike.refl U.vm) qq.2.2.2⟩, fun U hW0 hW => ⟨rfl, by rw [hW0], by rw [hW0]; exact h8, va_K.moved hW.alike hU.1⟩⟩ rfl rfl hl.1 rfl (lv_room (by rw [cu_cat]; exact c3)) (cu_dec_ok h1) ⟨by omega, by omega⟩) hS (fun x hx2 => by rw [hx2]; exact Nat.le_add_right o q) (fun x hx2 => by rw [hx2]; exact Nat.le_add_right o q) (fun H1 locs1 hB old hS1 => ?_)
            refine hG H1 locs1 ls (cu_set hP hq hB.1 (fun x hx2 => ?_) hB.2) hS1 hl
            by_cases hlt : x < H.size
            · exact old x hlt hx2
            · rw [Array.getElem?_eq_none (by have := hB.1; omega), Array.getElem?_eq_none (by omega)]
          · cases hs
        · cases hs
      · cases hs
    · -- iinc
      split at hs
      · next i =>
        cases hs
        simp only [Bool.and_eq_true, decide_eq_true_eq] at ho
        obtain ⟨h1, h2, h3⟩ := ho
        subst h3
        refine lv_iinc (v := i + v) hx hb (cu_dec_ok h1) hl (k := 1) rfl (by rw [h2]) (by decide) rfl (fun ls' hl' => ?_)
        refine hG H locs ls' hP hS (cu_re hl' (fun z hz => ?_))
        simp only [List.map_cons, List.map_nil, List.mem_cons, List.not_mem_nil, or_false] at hz
        rcases hz with h | h
        · rw [h]
          exact List.mem_cons_of_mem _ (List.mem_filter.mpr ⟨List.mem_cons_self, rfl⟩)
        · rw [h]
          exact List.mem_cons_self
      · cases hs
    · -- goto
      cases hs
      exact lv_goto (tgt := a) hx hb (cu_dec_ok ho) (by omega) (hG H locs ls hP hS hl)
    · cases hs
  · cases hs
theorem cu_run_ok {X : cu_X} (hX : cu_okX X) : ∀ (es : List cu_E) (st st1 : cu_S), es.all (cu_ok (cu_xk X)) = true → cu_run (cu_xk X) es st = some st1 → cu_G X st1 → cu_G X st
  | [], st, st1, _, h, hG => by
    have h := Option.some.inj h
    rw [h]
    exact hG
  | e :: t, st, st1, ho, h, hG => by
    rw [List.all_cons, Bool.and_eq_true] at ho
    unfold cu_run at h
    split at h
    · cases h
    · next st' hs => exact cu_stp_ok hX ho.1 hs (cu_run_ok hX t st' st1 ho.2 h hG)
/-- a constructor makes the cells that its list says -/
theorem cu_ctor (l : Launch) (D : va_G) (K : cu_K) (k o : Nat) (hk : k < 9) (hpl : plainName (cu_y k).cls = true) (hes : (cu_es k).all (cu_ok k) = true) (hrun : cu_eqS k (cu_run k (cu_es k) (0, [], [], [cu_0 k], 0, 0)) = true) (hrp : decode (cu_b k) (cu_rp k).1 = .ok (.return_, 1)) (hC : k = 7 → ∀ a, a < 7 → ∀ b, cu_M l D K a b) : cu_M l D K k o := by
  refine Met.ofW (cc := cu_b k) (maxL := cu_L k) (ret := none) hpl rfl ?_
  intro p e s mm args below meth c s₁ B hml hv
  obtain ⟨rfl, hP, hU⟩ := hv
  have hx := B.exec
  have hb := B.bytes
  have hr := B.returns
  have hlocks := B.notSynchronized
  have hts := atoms_spec (ws := cu_W k) B.pre
  have hown : s.vm.findClass (cu_y k).cls = some mm.cls := findClass_of_methodNamed B.named
  have hin : meth.name = "<init>" := (name_of_methodNamed B.named B.method).1
  have h1L : 1 ≤ cu_L k := by unfold cu_L; split <;> omega
  have hl := lv_entry ([.ref o]) (n := cu_L k) h1L
  rw [lg_entry_eq]
  have X0 : cu_okX (p, l, e, (headSpec (cu_W k) (cu_rm k)).room, s, mm, [Value.ref o].toArray, below, meth, c, MQ below (fun _ st oc t => (oc = .returned none ∧ cu_P D K o (cu_fin k) t.heap) ∧ va_F (fun q => o ≤ q) st t) [Value.ref o].toArray s (cu_mc k) (cu_ms k) (fun q => o ≤ q), D, K, o, k) := ⟨hx, hb, hml, hown, fun w hw => hts w (List.mem_cons_of_mem _ hw), hU, hin, Nat.le_refl _, Nat.le_refl _, Nat.le_refl _, Nat.le_refl _, hk, hC⟩
  refine cu_run_ok X0 (cu_es k) _ _ hes (cu_eqS_eq hrun) ?_ s.heap [] _ hP va_S.rf hl
  intro H locs ls hP9 hS9 hl9
  exact W.vret hx hb hr (fun t ht _ => ⟨⟨rfl, by rw [ht]; exact hP9⟩, hS9.F ht⟩) hS9.2.2 hrp
