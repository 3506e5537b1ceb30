section ABH
variable {Z : ab_Z} {p : Program} {e : Env} {R : Room} {s : State} {mm : MethodId} {args : Array Value} {below : List Frame} {meth : Method} {c0 : Code} {cells slots : Nat} {Q : State → Prop} {A : Nat → Prop} {b N : Nat} {xs : Nat → Int32} {k d : Nat} {pc nx : Nat} {L : List (Nat × ab_V)} {S : List ab_V} {m : ab_M} {o o1 : List ab_O} {cn : Option Prop} {st1 : ab_S}
theorem ab_wd_tb {j : Nat} {w : Jvm.Cond} (h : ab_wd j w = true) : w ∈ ab_tb := by
  unfold ab_wd at h
  rw [Bool.and_eq_true, decide_eq_true_eq] at h
  exact ab_tb_of h.1 h.2
theorem ab_good {ws : List Jvm.Cond} (h : ∀ w ∈ ws, w ∈ ab_tb) : GoodIn ab_tb ws := fun w hw => ⟨h w hw, good_of_word (List.mem_filter.mp (h w hw)).2⟩
theorem ab_cell_obj (Z : ab_Z) (m : ab_M) {q t : Nat} (h : (ab_sh q).1 = 4 + t) : ab_cell Z m q = .inr (t, (ab_sh q).2.2.2.2.mapIdx (fun i f => ab_fv Z m q i f)) := by
  unfold ab_cell
  rw [show (ab_sh q).1 = t + 4 by omega]
theorem ab_cell_0 (Z : ab_Z) (m : ab_M) {q : Nat} (h : (ab_sh q).1 = 0) : ab_cell Z m q = .inl (ab_cI Z, (ab_sh q).2.1, .inl (m.1 q)) := by
  unfold ab_cell
  rw [h]
theorem ab_cell_1 (Z : ab_Z) (m : ab_M) {q : Nat} (h : (ab_sh q).1 = 1) : ab_cell Z m q = .inl (ab_cZ Z, (ab_sh q).2.1, .inl (m.1 q)) := by
  unfold ab_cell
  rw [h]
theorem ab_cell_2 (Z : ab_Z) (m : ab_M) {q : Nat} (h : (ab_sh q).1 = 2) : ab_cell Z m q = .inl (ab_cJ Z, (ab_sh q).2.1, .inr (.inl (m.2 q))) := by
  unfold ab_cell
  rw [h]
theorem ab_cell_3 (Z : ab_Z) (m : ab_M) {q : Nat} (h : (ab_sh q).1 = 3) : ab_cell Z m q = .inl (ab_cA Z, (ab_sh q).2.1, .inr (.inr (.inr (.inr (fun i => if i < (ab_sh q).2.1 then some (ab_ar Z ((ab_sh q).2.2.2.1 + i)) else none))))) := by
  unfold ab_cell
  rw [h]
theorem ab_at_0 (Z : ab_Z) (m : ab_M) {q : Nat} (hq : q < ab_NP) (h : (ab_sh q).1 = 0) : (ab_w Z m)[q]? = some (ab_ad Z q, .inl (ab_cI Z, (ab_sh q).2.1, .inl (m.1 q))) := by rw [ab_w_at Z m hq, ab_cell_0 Z m h]
theorem ab_at_1 (Z : ab_Z) (m : ab_M) {q : Nat} (hq : q < ab_NP) (h : (ab_sh q).1 = 1) : (ab_w Z m)[q]? = some (ab_ad Z q, .inl (ab_cZ Z, (ab_sh q).2.1, .inl (m.1 q))) := by rw [ab_w_at Z m hq, ab_cell_1 Z m h]
theorem ab_at_2 (Z : ab_Z) (m : ab_M) {q : Nat} (hq : q < ab_NP) (h : (ab_sh q).1 = 2) : (ab_w Z m)[q]? = some (ab_ad Z q, .inl (ab_cJ Z, (ab_sh q).2.1, .inr (.inl (m.2 q)))) := by rw [ab_w_at Z m hq, ab_cell_2 Z m h]
theorem ab_at_3 (Z : ab_Z) (m : ab_M) {q : Nat} (hq : q < ab_NP) (h : (ab_sh q).1 = 3) : (ab_w Z m)[q]? = some (ab_ad Z q, .inl (ab_cA Z, (ab_sh q).2.1, .inr (.inr (.inr (.inr (fun i => if i < (ab_sh q).2.1 then some (ab_ar Z ((ab_sh q).2.2.2.1 + i)) else none)))))) := by rw [ab_w_at Z m hq, ab_cell_3 Z m h]
theorem ab_at_o (Z : ab_Z) (m : ab_M) {q t : Nat} (hq : q < ab_NP) (h : (ab_sh q).1 = 4 + t) : (ab_w Z m)[q]? = some (ab_ad Z q, .inr (t, (ab_sh q).2.2.2.2.mapIdx (fun i f => ab_fv Z m q i f))) := by rw [ab_w_at Z m hq, ab_cell_obj Z m h]
theorem ab_at_r (Z : ab_Z) (m : ab_M) {q i : Nat} (h : (ab_sh q).1 = 3) (hi : i < (ab_sh q).2.1) : (ab_w Z m)[ab_NP + ((ab_sh q).2.2.2.1 + i)]? = some (ab_ar Z ((ab_sh q).2.2.2.1 + i), .inl (ab_cI Z, (ab_sh q).2.2.1, .inl (fun j => m.1 q (i * (ab_sh q).2.2.1 + j)))) := by
  obtain ⟨h1, h2⟩ := ab_sh_rw q (ab_sh_big h) h i hi
  rw [ab_w_row Z m h1]
  unfold ab_row
  rw [h2]
theorem ab_in_lt {i : Int32} {n : Nat} (h : vp_in i n) : i.toNatClampNeg < n := Nat.not_le.mp fun q => h (Or.inr q)
theorem ab_ref_cv (Z : ab_Z) (b : Nat) {q : Nat} (h : q < ab_NP) : ab_cv Z b (.inl (.ref q)) = .ref (ab_ad Z q) := by
  show Value.ref (if q = 999 then b else ab_ad Z q) = _
  rw [if_neg (by unfold ab_NP at h; omega)]
theorem ab_ref_cv2 (Z : ab_Z) (b : Nat) {q : Nat} (h : q < 999) : ab_cv Z b (.inl (.ref q)) = .ref (ab_ad Z q) := by
  show Value.ref (if q = 999 then b else ab_ad Z q) = _
  rw [if_neg (by omega)]
theorem ab_scr_cv (Z : ab_Z) (b : Nat) : ab_cv Z b (.inl (.ref 999)) = .ref b := rfl
theorem ab_s_gf (hx : p.tables.exec = Jvm.exec) (hb : c0.code = ab_mB k) (hts : ∀ w ∈ ab_tb, w.before args s = true) (hnw : ∀ w ∈ ab_nw, va_Nw w s) (hK : va_K (ab_D Z) vwCl (ab_ty Z) s) (hA : ∀ q, ab_A Z q → A q) (hZ : ab_okZ Z) {own : String} (hown : s.vm.findClass own = some mm.cls) {a ix j : Nat} (hf : ab_fok own ix a j false = true) (hdg : decode (ab_mB k) pc = .ok (.getfield ix, 3)) (hs : ab_gf a (pc + 3) o (pc, L, S, m) = some (cn, o1, st1)) (hG : ab_G Z (p, e, R, s, mm, args, below, meth, c0, cells, slots, Q, A, b, N, xs, k, d) st1) : ab_G Z (p, e, R, s, mm, args, below, meth, c0, cells, slots, Q, A, b, N, xs, k, d) (pc, L, S, m) := by
  unfold ab_gf at hs
  split at hs
  · next q r hq =>
    have hq : S = .inl (.ref q) :: r := hq
    subst hq
    split at hs
    · next hp =>
      unfold ab_fok at hf
      cases hcl : vwCl[a / 100 % 100]? with
      | none => rw [hcl] at hf; cases hf
      | some z =>
        obtain ⟨C, T, M⟩ := z
        rw [hcl] at hf
        simp only [Bool.and_eq_true, decide_eq_true_eq, Bool.or_eq_true] at hf
        obtain ⟨hk, hl, -⟩ := hf
        obtain ⟨hin, -, -⟩ := ab_cl_all _ _ _ _ hcl
        have he := ab_at_o Z m hp.1 hp.2
        have key : ∀ (v : Value), ((ab_sh q).2.2.2.2.mapIdx (fun i f => ab_fv Z m q i f))[a % 100]? = some v → ∀ (H : Heap) (locs : List Loc) (ls : Array Slot), va_P (ab_D Z) vwCl (ab_w Z m) H → W p Z.1 e R s mm args below meth c0 H locs cells slots Q (F0 mm (pc + 3) ls (v :: r.map (ab_cv Z b))) → W p Z.1 e R s mm args below meth c0 H locs cells slots Q (F0 mm pc ls (.ref (ab_ad Z q) :: r.map (ab_cv Z b))) := by
          intro v hv H locs ls hP hW
          rcases hl with hl | hl
          · exact va_get hx hb hts hin hown hK hP q he hcl (a % 100) hk (hts _ (ab_wd_tb hl)) (fun _ h9 => h9) hv hdg hW
          · have hw := ab_nw_of (of_decide_eq_true hl) rfl
            exact va_getN hx hb hts hin hown hK hP q he hcl (a % 100) hk (va_Nw.use rfl (hnw _ hw)) (fun _ h9 => h9) hv hdg hW
        split at hs
        · next hfs =>
          cases hs
          intro H locs ls hP hS hl'
          show W p Z.1 e R s mm args below meth c0 H locs cells slots Q (F0 mm pc ls (ab_cv Z b (.inl (.ref q)) :: r.map (ab_cv Z b)))
          rw [ab_ref_cv Z b hp.1]
          refine key (.int (m.1 q (a % 100))) ?_ H locs ls hP (hG H locs ls hP hS hl')
          rw [List.getElem?_mapIdx, hfs]
          rfl
        · next q2 hfs =>
          split at hs
          · next hq2 =>
            cases hs
            intro H locs ls hP hS hl'
            show W p Z.1 e R s mm args below meth c0 H locs cells slots Q (F0 mm pc ls (ab_cv Z b (.inl (.ref q)) :: r.map (ab_cv Z b)))
            rw [ab_ref_cv Z b hp.1]
            refine key (.ref (ab_ad Z q2)) ?_ H locs ls hP ?_
            · rw [List.getElem?_mapIdx, hfs]
              rfl
            · have := hG H locs ls hP hS hl'
              rw [← ab_ref_cv2 Z b hq2]
              exact this
          · cases hs
        · cases hs
    · cases hs
  · cases hs
theorem ab_zk_nar {v : Int32} (h : ab_zk v) : narrow .boolean (.int v) = .int v ∧ fits .boolean (.int v) = true := by
  rcases h with rfl | rfl
  · exact ⟨rfl, rfl⟩
  · exact ⟨rfl, rfl⟩
theorem ab_fs_set (Z : ab_Z) (m : ab_M) {q i : Nat} {v : Int32} {fs : List (Option Nat)} (h : fs[i]? = some none) : (fs.mapIdx (fun i f => ab_fv Z m q i f)).set i (.int v) = fs.mapIdx (fun j f => ab_fv Z (ab_wr m q i v) q j f) := by
  refine List.ext_getElem? fun j => ?_
  have hi : i < fs.length := (List.getElem?_eq_some_iff.mp h).1
  by_cases hj : j = i
  · subst hj
    rw [List.getElem?_set_self (by simpa using hi), List.getElem?_mapIdx, h]
    show some (Value.int v) = some (Value.int ((ab_wr m q j v).1 q j))
    rw [ab_wr_p]
    unfold upd
    rw [if_pos rfl]
  · rw [List.getElem?_set_ne (Ne.symm hj), List.getElem?_mapIdx, List.getElem?_mapIdx]
    cases fs[j]? with
    | none => rfl
    | some f =>
      cases f with
      | some _ => rfl
      | none =>
        show some (Value.int (m.1 q j)) = some (Value.int ((ab_wr m q i v).1 q j))
        rw [ab_wr_p]
        unfold upd
        rw [if_neg hj]
theorem ab_s_pf (hx : p.tables.exec = Jvm.exec) (hb : c0.code = ab_mB k) (hts : ∀ w ∈ ab_tb, w.before args s = true) (hnw : ∀ w ∈ ab_nw, va_Nw w s) (hK : va_K (ab_D Z) vwCl (ab_ty Z) s) (hA : ∀ q, ab_A Z q → A q) (hZ : ab_okZ Z) {own : String} (hown : s.vm.findClass own = some mm.cls) {a ix j : Nat} (hf : ab_fok own ix a j true = true) (hdg : decode (ab_mB k) pc = .ok (.putfield ix, 3)) (hs : ab_pf a (pc + 3) o (pc, L, S, m) = some (cn, o1, st1)) (hc : ab_cd cn) (hG : ab_G Z (p, e, R, s, mm, args, below, meth, c0, cells, slots, Q, A, b, N, xs, k, d) st1) : ab_G Z (p, e, R, s, mm, args, below, meth, c0, cells, slots, Q, A, b, N, xs, k, d) (pc, L, S, m) := by
  unfold ab_pf at hs
  split at hs
  · next v q r hq =>
    have hq : S = .inl (.int v) :: .inl (.ref q) :: r := hq
    subst hq
    split at hs
    · next hp =>
      unfold ab_fok at hf
      cases hcl : vwCl[a / 100 % 100]? with
      | none => rw [hcl] at hf; cases hf
      | some z =>
        obtain ⟨C, T, M⟩ := z
        rw [hcl] at hf
        simp only [Bool.and_eq_true, decide_eq_true_eq, Bool.or_eq_true, Bool.not_true, Bool.false_eq_true, false_or, Bool.not_eq_true'] at hf
        obtain ⟨hk, hl, hfin, hd⟩ := hf
        obtain ⟨hin, ⟨ty0, hty⟩, hnm⟩ := ab_cl_all _ _ _ _ hcl
        have he := ab_at_o Z m hp.1 hp.2
        split at hs
        · next hfs =>
          cases hs
          intro H locs ls hP hS hl'
          show W p Z.1 e R s mm args below meth c0 H locs cells slots Q (F0 mm pc ls (.int v :: ab_cv Z b (.inl (.ref q)) :: r.map (ab_cv Z b)))
          rw [ab_ref_cv Z b hp.1]
          have hnf : narrow (if a < 10000 then FieldType.int else FieldType.boolean) (.int v) = .int v ∧ fits (if a < 10000 then FieldType.int else FieldType.boolean) (.int v) = true := by
            by_cases ha : a < 10000
            · rw [if_pos ha]
              exact ⟨rfl, rfl⟩
            · rw [if_neg ha]
              rw [if_neg ha] at hc
              exact ab_zk_nar hc
          have hlen : a % 100 < ((ab_sh q).2.2.2.2.mapIdx (fun i f => ab_fv Z m q i f)).length := by
            rw [List.length_mapIdx]
            exact (List.getElem?_eq_some_iff.mp hfs).1
          have fin : ∀ (H1 : Heap) (locs1 : List Loc), va_P (ab_D Z) vwCl ((ab_w Z m).set q (ab_ad Z q, .inr (a / 100 % 100, ((ab_sh q).2.2.2.2.mapIdx (fun i f => ab_fv Z m q i f)).set (a % 100) (.int v)))) H1 → va_D A ((ab_w Z m).set q (ab_ad Z q, .inr (a / 100 % 100, ((ab_sh q).2.2.2.2.mapIdx (fun i f => ab_fv Z m q i f)).set (a % 100) (.int v)))) → va_S A s.heap H1 locs1 → W p Z.1 e R s mm args below meth c0 H1 locs1 cells slots Q (F0 mm (pc + 3) ls (r.map (ab_cv Z b))) := by
            intro H1 locs1 hP1 _ hS1
            refine hG H1 locs1 ls (ab_P_set hp.1 (by have := hp.2; omega) ?_ (fun q' hq' => ab_wr_n m _ v hq') (fun _ _ => rfl) hP1) hS1 hl'
            rw [ab_fs_set Z m hfs, ab_cell_obj Z _ hp.2]
          rcases hl with hl | hl
          · exact va_put hx hb hts hin ty0 hty hnm hown hK hP (ab_D_of hZ hA m) hS q he hcl (a % 100) hk (hts _ (ab_wd_tb hl)) (fun _ h9 => h9) hfin hd hnf.1 hnf.2 hlen hdg fin
          · have hw := ab_nw_of (of_decide_eq_true hl) rfl
            exact va_putN hx hb hts hin ty0 hty hnm hown hK hP (ab_D_of hZ hA m) hS q he hcl (a % 100) hk (va_Nw.use rfl (hnw _ hw)) (fun _ h9 => h9) hfin hd hnf.1 hnf.2 hlen hdg fin
        · cases hs
    · cases hs
  · cases hs
theorem ab_s_bal (hx : p.tables.exec = Jvm.exec) (hb : c0.code = ab_mB k) (hts : ∀ w ∈ ab_tb, w.before args s = true) (hnw : ∀ w ∈ ab_nw, va_Nw w s) (hK : va_K (ab_D Z) vwCl (ab_ty Z) s) (hA : ∀ q, ab_A Z q → A q) (hZ : ab_okZ Z) (hdg : decode (ab_mB k) pc = .ok (.baload, 1)) (hs : ab_bal (pc + 1) o (pc, L, S, m) = some (cn, o1, st1)) (hc : ab_cd cn) (hG : ab_G Z (p, e, R, s, mm, args, below, meth, c0, cells, slots, Q, A, b, N, xs, k, d) st1) : ab_G Z (p, e, R, s, mm, args, below, meth, c0, cells, slots, Q, A, b, N, xs, k, d) (pc, L, S, m) := by
  unfold ab_bal at hs
  split at hs
  · next i q r hq =>
    have hq : S = .inl (.int i) :: .inl (.ref q) :: r := hq
    subst hq
    split at hs
    · next hp =>
      cases hs
      intro H locs ls hP hS hl
      show W p Z.1 e R s mm args below meth c0 H locs cells slots Q (F0 mm pc ls (.int i :: ab_cv Z b (.inl (.ref q)) :: r.map (ab_cv Z b)))
      rw [ab_ref_cv Z b hp.1]
      exact va_zald hx hb hK hP q 1 (ab_at_1 Z m hp.1 hp.2) rfl hc hdg (hG H locs ls hP hS hl)
    · cases hs
  · cases hs
theorem ab_s_lal (hx : p.tables.exec = Jvm.exec) (hb : c0.code = ab_mB k) (hts : ∀ w ∈ ab_tb, w.before args s = true) (hnw : ∀ w ∈ ab_nw, va_Nw w s) (hK : va_K (ab_D Z) vwCl (ab_ty Z) s) (hA : ∀ q, ab_A Z q → A q) (hZ : ab_okZ Z) (hdg : decode (ab_mB k) pc = .ok (.laload, 1)) (hs : ab_lal (pc + 1) o (pc, L, S, m) = some (cn, o1, st1)) (hc : ab_cd cn) (hG : ab_G Z (p, e, R, s, mm, args, below, meth, c0, cells, slots, Q, A, b, N, xs, k, d) st1) : ab_G Z (p, e, R, s, mm, args, below, meth, c0, cells, slots, Q, A, b, N, xs, k, d) (pc, L, S, m) := by
  unfold ab_lal at hs
  split at hs
  · next i q r hq =>
    have hq : S = .inl (.int i) :: .inl (.ref q) :: r := hq
    subst hq
    split at hs
    · next hp =>
      cases hs
      intro H locs ls hP hS hl
      show W p Z.1 e R s mm args below meth c0 H locs cells slots Q (F0 mm pc ls (.int i :: ab_cv Z b (.inl (.ref q)) :: r.map (ab_cv Z b)))
      rw [ab_ref_cv Z b hp.1]
      exact va_lald hx hb hK hP q 2 (ab_at_2 Z m hp.1 hp.2) rfl hc hdg (hG H locs ls hP hS hl)
    · cases hs
  · cases hs
theorem ab_s_ial (hx : p.tables.exec = Jvm.exec) (hb : c0.code = ab_mB k) (hts : ∀ w ∈ ab_tb, w.before args s = true) (hnw : ∀ w ∈ ab_nw, va_Nw w s) (hK : va_K (ab_D Z) vwCl (ab_ty Z) s) (hA : ∀ q, ab_A Z q → A q) (hZ : ab_okZ Z) (hdg : decode (ab_mB k) pc = .ok (.iaload, 1)) (hs : ab_ial (p, e, R, s, mm, args, below, meth, c0, cells, slots, Q, A, b, N, xs, k, d) (pc + 1) o (pc, L, S, m) = some (cn, o1, st1)) (hc : ab_cd cn) (hG : ab_G Z (p, e, R, s, mm, args, below, meth, c0, cells, slots, Q, A, b, N, xs, k, d) st1) : ab_G Z (p, e, R, s, mm, args, below, meth, c0, cells, slots, Q, A, b, N, xs, k, d) (pc, L, S, m) := by
  unfold ab_ial at hs
  split at hs
  · next i q r hq =>
    have hq : S = .inl (.int i) :: .inl (.ref q) :: r := hq
    subst hq
    split at hs
    · next hq9 =>
      subst hq9
      cases hs
      obtain ⟨⟨h1, h2, h3⟩, h4⟩ := hc
      intro H locs ls hP hS hl
      exact va_sld hx hb h1 h2 h3 hS h4 hdg (hG H locs ls hP hS hl)
    · split at hs
      · next hp =>
        cases hs
        intro H locs ls hP hS hl
        show W p Z.1 e R s mm args below meth c0 H locs cells slots Q (F0 mm pc ls (.int i :: ab_cv Z b (.inl (.ref q)) :: r.map (ab_cv Z b)))
        rw [ab_ref_cv Z b hp.1]
        exact va_iald hx hb hK hP q 0 (ab_at_0 Z m hp.1 hp.2) rfl hc hdg (hG H locs ls hP hS hl)
      · cases hs
  · next i q r hq =>
    have hq : S = .inl (.int i) :: .inr q :: r := hq
    subst hq
    split at hs
    · next hp =>
      cases hs
      intro H locs ls hP hS hl
      exact va_iald hx hb hK hP _ 0 (ab_at_r Z m hp (ab_in_lt hc.1)) rfl hc.2 hdg (hG H locs ls hP hS hl)
    · cases hs
  · cases hs
theorem ab_s_aal (hx : p.tables.exec = Jvm.exec) (hb : c0.code = ab_mB k) (hts : ∀ w ∈ ab_tb, w.before args s = true) (hnw : ∀ w ∈ ab_nw, va_Nw w s) (hK : va_K (ab_D Z) vwCl (ab_ty Z) s) (hA : ∀ q, ab_A Z q → A q) (hZ : ab_okZ Z) (hdg : decode (ab_mB k) pc = .ok (.aaload, 1)) (hs : ab_aal (pc + 1) o (pc, L, S, m) = some (cn, o1, st1)) (hc : ab_cd cn) (hG : ab_G Z (p, e, R, s, mm, args, below, meth, c0, cells, slots, Q, A, b, N, xs, k, d) st1) : ab_G Z (p, e, R, s, mm, args, below, meth, c0, cells, slots, Q, A, b, N, xs, k, d) (pc, L, S, m) := by
  unfold ab_aal at hs
  split at hs
  · next i q r hq =>
    have hq : S = .inl (.int i) :: .inl (.ref q) :: r := hq
    subst hq
    split at hs
    · next hp =>
      cases hs
      intro H locs ls hP hS hl
      show W p Z.1 e R s mm args below meth c0 H locs cells slots Q (F0 mm pc ls (.int i :: ab_cv Z b (.inl (.ref q)) :: r.map (ab_cv Z b)))
      rw [ab_ref_cv Z b hp.1]
      have hlt := ab_in_lt hc
      have hcell := hP q _ (ab_at_3 Z m hp.1 hp.2)
      refine W.aald (v := .ref (ab_ar Z ((ab_sh q).2.2.2.1 + i.toNatClampNeg))) (ty := .array .int) hx hb hcell ((hK.2 3 _ rfl).1 (ab_sh q).2.1 (fun j => va_rf (if j < (ab_sh q).2.1 then some (ab_ar Z ((ab_sh q).2.2.2.1 + j)) else none))) rfl (fun q => by cases q) ?_ ?_ rfl rfl hdg (hG H locs ls hP hS hl)
      · show ¬ (i < 0 ∨ (arrV _ _ _).slots.size ≤ _)
        rw [arrV_size]
        exact hc
      · show (arrV _ _ _).slots[_]? = _
        rw [arrV_read _ _ hlt]
        show some (va_rf (if i.toNatClampNeg < (ab_sh q).2.1 then some (ab_ar Z ((ab_sh q).2.2.2.1 + i.toNatClampNeg)) else none)) = _
        rw [if_pos hlt]
        rfl
    · cases hs
  · cases hs
theorem ab_s_aln (hx : p.tables.exec = Jvm.exec) (hb : c0.code = ab_mB k) (hts : ∀ w ∈ ab_tb, w.before args s = true) (hnw : ∀ w ∈ ab_nw, va_Nw w s) (hK : va_K (ab_D Z) vwCl (ab_ty Z) s) (hA : ∀ q, ab_A Z q → A q) (hZ : ab_okZ Z) (hdg : decode (ab_mB k) pc = .ok (.arraylength, 1)) (hs : ab_aln (p, e, R, s, mm, args, below, meth, c0, cells, slots, Q, A, b, N, xs, k, d) (pc + 1) o (pc, L, S, m) = some (cn, o1, st1)) (hc : ab_cd cn) (hG : ab_G Z (p, e, R, s, mm, args, below, meth, c0, cells, slots, Q, A, b, N, xs, k, d) st1) : ab_G Z (p, e, R, s, mm, args, below, meth, c0, cells, slots, Q, A, b, N, xs, k, d) (pc, L, S, m) := by
  unfold ab_aln at hs
  split at hs
  · next q r hq =>
    have hq : S = .inl (.ref q) :: r := hq
    subst hq
    split at hs
    · next hq9 =>
      subst hq9
      cases hs
      obtain ⟨h1, h2, h3⟩ := hc
      intro H locs ls hP hS hl
      exact va_slen hx hb h1 h2 h3 hS hdg (hG H locs ls hP hS hl)
    · split at hs
      · next hp =>
        cases hs
        intro H locs ls hP hS hl
        show W p Z.1 e R s mm args below meth c0 H locs cells slots Q (F0 mm pc ls (ab_cv Z b (.inl (.ref q)) :: r.map (ab_cv Z b)))
        rw [ab_ref_cv Z b hp.1]
        exact va_alen hx hb hK hP q 0 (ab_at_0 Z m hp.1 hp.2) (ty := .int) rfl rfl hdg (hG H locs ls hP hS hl)
      · cases hs
  · next q r hq =>
    have hq : S = .inr q :: r := hq
    subst hq
    split at hs
    · next hp =>
      cases hs
      intro H locs ls hP hS hl
      exact va_alen hx hb hK hP _ 0 (ab_at_r Z m hp (ab_in_lt hc)) (ty := .int) rfl rfl hdg (hG H locs ls hP hS hl)
    · cases hs
  · cases hs
theorem ab_s_ias (hx : p.tables.exec = Jvm.exec) (hb : c0.code = ab_mB k) (hts : ∀ w ∈ ab_tb, w.before args s = true) (hnw : ∀ w ∈ ab_nw, va_Nw w s) (hK : va_K (ab_D Z) vwCl (ab_ty Z) s) (hA : ∀ q, ab_A Z q → A q) (hZ : ab_okZ Z) (hdg : decode (ab_mB k) pc = .ok (.iastore, 1)) (hs : ab_ias (pc + 1) o (pc, L, S, m) = some (cn, o1, st1)) (hc : ab_cd cn) (hG : ab_G Z (p, e, R, s, mm, args, below, meth, c0, cells, slots, Q, A, b, N, xs, k, d) st1) : ab_G Z (p, e, R, s, mm, args, below, meth, c0, cells, slots, Q, A, b, N, xs, k, d) (pc, L, S, m) := by
  unfold ab_ias at hs
  split at hs
  · next x i q r hq =>
    have hq : S = .inl (.int x) :: .inl (.int i) :: .inl (.ref q) :: r := hq
    subst hq
    split at hs
    · next hp =>
      cases hs
      intro H locs ls hP hS hl
      show W p Z.1 e R s mm args below meth c0 H locs cells slots Q (F0 mm pc ls (.int x :: .int i :: ab_cv Z b (.inl (.ref q)) :: r.map (ab_cv Z b)))
      rw [ab_ref_cv Z b hp.1]
      refine va_iast hx hb hK hP (ab_D_of hZ hA m) hS q 0 (ab_at_0 Z m hp.1 hp.2) rfl hc hdg (fun H1 locs1 hP1 _ hS1 => ?_)
      refine hG H1 locs1 ls (ab_P_set hp.1 (by have := hp.2; omega) ?_ (fun q' hq' => ab_wr_n m _ x hq') (fun _ _ => rfl) hP1) hS1 hl
      rw [ab_cell_0 Z _ hp.2, ab_wr_p]
    · cases hs
  · next x i q r hq =>
    have hq : S = .inl (.int x) :: .inl (.int i) :: .inr q :: r := hq
    subst hq
    split at hs
    · next hp =>
      cases hs
      intro H locs ls hP hS hl
      refine va_iast hx hb hK hP (ab_D_of hZ hA m) hS _ 0 (ab_at_r Z m hp (ab_in_lt hc.1)) rfl hc.2 hdg (fun H1 locs1 hP1 _ hS1 => ?_)
      exact hG H1 locs1 ls (ab_P_setr (ab_sh_big hp) hp (ab_in_lt hc.1) (ab_in_lt hc.2) hP1) hS1 hl
    · cases hs
  · cases hs
theorem ab_s_bas (hx : p.tables.exec = Jvm.exec) (hb : c0.code = ab_mB k) (hts : ∀ w ∈ ab_tb, w.before args s = true) (hnw : ∀ w ∈ ab_nw, va_Nw w s) (hK : va_K (ab_D Z) vwCl (ab_ty Z) s) (hA : ∀ q, ab_A Z q → A q) (hZ : ab_okZ Z) (hdg : decode (ab_mB k) pc = .ok (.bastore, 1)) (hs : ab_bas (pc + 1) o (pc, L, S, m) = some (cn, o1, st1)) (hc : ab_cd cn) (hG : ab_G Z (p, e, R, s, mm, args, below, meth, c0, cells, slots, Q, A, b, N, xs, k, d) st1) : ab_G Z (p, e, R, s, mm, args, below, meth, c0, cells, slots, Q, A, b, N, xs, k, d) (pc, L, S, m) := by
  unfold ab_bas at hs
  split at hs
  · next x i q r hq =>
    have hq : S = .inl (.int x) :: .inl (.int i) :: .inl (.ref q) :: r := hq
    subst hq
    split at hs
    · next hp =>
      cases hs
      intro H locs ls hP hS hl
      show W p Z.1 e R s mm args below meth c0 H locs cells slots Q (F0 mm pc ls (.int x :: .int i :: ab_cv Z b (.inl (.ref q)) :: r.map (ab_cv Z b)))
      rw [ab_ref_cv Z b hp.1]
      refine va_zast hx hb hK hP (ab_D_of hZ hA m) hS q 1 (ab_at_1 Z m hp.1 hp.2) rfl hc.1 hdg (fun H1 locs1 hP1 _ hS1 => ?_)
      refine hG H1 locs1 ls (ab_P_set hp.1 (by have := hp.2; omega) ?_ (fun q' hq' => ab_wr_n m _ x hq') (fun _ _ => rfl) hP1) hS1 hl
      have hz : vp_nar .boolean x = x := by
        rcases hc.2 with rfl | rfl
        · rfl
        · rfl
      rw [ab_cell_1 Z _ hp.2, ab_wr_p, hz]
    · cases hs
  · cases hs
theorem ab_s_las (hx : p.tables.exec = Jvm.exec) (hb : c0.code = ab_mB k) (hts : ∀ w ∈ ab_tb, w.before args s = true) (hnw : ∀ w ∈ ab_nw, va_Nw w s) (hK : va_K (ab_D Z) vwCl (ab_ty Z) s) (hA : ∀ q, ab_A Z q → A q) (hZ : ab_okZ Z) (hdg : decode (ab_mB k) pc = .ok (.lastore, 1)) (hs : ab_las (pc + 1) o (pc, L, S, m) = some (cn, o1, st1)) (hc : ab_cd cn) (hG : ab_G Z (p, e, R, s, mm, args, below, meth, c0, cells, slots, Q, A, b, N, xs, k, d) st1) : ab_G Z (p, e, R, s, mm, args, below, meth, c0, cells, slots, Q, A, b, N, xs, k, d) (pc, L, S, m) := by
  unfold ab_las at hs
  split at hs
  · next x i q r hq =>
    have hq : S = .inl (.long x) :: .inl (.int i) :: .inl (.ref q) :: r := hq
    subst hq
    split at hs
    · next hp =>
      cases hs
      intro H locs ls hP hS hl
      show W p Z.1 e R s mm args below meth c0 H locs cells slots Q (F0 mm pc ls (.long x :: .int i :: ab_cv Z b (.inl (.ref q)) :: r.map (ab_cv Z b)))
      rw [ab_ref_cv Z b hp.1]
      refine va_last hx hb hK hP (ab_D_of hZ hA m) hS q 2 (ab_at_2 Z m hp.1 hp.2) rfl hc hdg (fun H1 locs1 hP1 _ hS1 => ?_)
      refine hG H1 locs1 ls (ab_P_set (m := m) (m' := ab_wl m q i.toNatClampNeg x) hp.1 (by have := hp.2; omega) ?_ (fun _ _ => rfl) (fun q' hq' => ab_wl_n m _ x hq') hP1) hS1 hl
      rw [ab_cell_2 Z _ hp.2, ab_wl_p]
    · cases hs
  · cases hs
end ABH
