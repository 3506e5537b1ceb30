/-! ===== calls that change the status alone, and the first of the others ===== -/
/-- the places that hold nothing between the calls -/
def iv_scr : List Nat := [7, 10, 37, 38, 39, 40, 41, 42, 43, 44, 45, 46, 47, 52, 70, 71, 72, 73, 74, 75, 76, 77, 78, 79, 80, 82]
/-- but for these, the status and what the reference notes for itself nothing has changed -/
def iv_sc (m m2 : ab_M) : Prop := (∀ p, p ≠ 0 → p ≠ 8 → p ∉ iv_scr → m2.1 p = m.1 p) ∧ (∀ p, m2.2 p = m.2 p) ∧ (∀ j, j ≠ 11 → m2.1 0 j = m.1 0 j) ∧ ∀ j, j ∉ [0, 1, 33, 34, 46] → m2.1 8 j = m.1 8 j
theorem iv_sc.refl (m : ab_M) : iv_sc m m := ⟨fun _ _ _ _ => rfl, fun _ => rfl, fun _ _ => rfl, fun _ _ => rfl⟩
theorem iv_sc.trans {m m1 m2 : ab_M} (h : iv_sc m m1) (g : iv_sc m1 m2) : iv_sc m m2 := ⟨fun p a b c => (g.1 p a b c).trans (h.1 p a b c), fun p => (g.2.1 p).trans (h.2.1 p), fun j a => (g.2.2.1 j a).trans (h.2.2.1 j a), fun j a => (g.2.2.2 j a).trans (h.2.2.2 j a)⟩
theorem iv_sc.d (m : ab_M) (x : Int32) : iv_sc m (ab_wr m 0 11 x) := ⟨fun _ a _ _ => ab_wr_n m _ x a, fun _ => rfl, fun j a => by rw [ab_wr_p]; exact if_neg a, fun j _ => by rw [ab_wr_n m _ x (by decide)]⟩
theorem iv_sc.m (m : ab_M) {i : Nat} (x : Int32) (hi : i ∈ [0, 1, 33, 34, 46]) : iv_sc m (ab_wr m 8 i x) := ⟨fun _ _ b _ => ab_wr_n m _ x b, fun _ => rfl, fun j _ => by rw [ab_wr_n m _ x (by decide)], fun j a => by rw [ab_wr_p]; exact if_neg (fun (q : j = i) => a (by rw [q]; exact hi))⟩
theorem iv_sc.s (m : ab_M) {p i : Nat} (x : Int32) (hp : p ∈ iv_scr) (h0 : p ≠ 0) (h8 : p ≠ 8) : iv_sc m (ab_wr m p i x) := ⟨fun q _ _ c => ab_wr_n m _ x (fun e => c (e ▸ hp)), fun _ => rfl, fun j _ => by rw [ab_wr_n m _ x (Ne.symm h0)], fun j _ => by rw [ab_wr_n m _ x (Ne.symm h8)]⟩
/-- the first two acts of each call of the reference -/
abbrev iv_m0 (m : ab_M) : ab_M := ab_wr (ab_wr m 8 1 0) 8 0 0
theorem iv_sc.m0 (m : ab_M) : iv_sc m (iv_m0 m) := (iv_sc.m m 0 (by decide)).trans (iv_sc.m _ 0 (by decide))
theorem iv_all.sc {m m2 : ab_M} {nK nP nF nL nO : Nat} (h : iv_all m nK nP nF nL nO) (g : iv_sc m m2) (he : ab_rd m2 0 11 = ab_rd m2 8 0) : iv_all m2 nK nP nF nL nO := by
  obtain ⟨hK, hN, hP, hF, hL, hC, hS, hB⟩ := h
  obtain ⟨g1, g2, g3, g4⟩ := g
  have q : ∀ p, p ≠ 0 → p ≠ 8 → p ∉ iv_scr → m2.1 p = m.1 p := g1
  refine ⟨?_, ?_, ?_, ?_, ?_, ?_, ?_, ?_⟩
  · exact hK.cong (congrFun (q _ (by decide) (by decide) (by decide)) _) (g4 _ (by decide)) (q _ (by decide) (by decide) (by decide)) (q _ (by decide) (by decide) (by decide)) (q _ (by decide) (by decide) (by decide)) (q _ (by decide) (by decide) (by decide)) (g2 _)
  · exact hN.cong (q _ (by decide) (by decide) (by decide)) (q _ (by decide) (by decide) (by decide))
  · exact hP.cong (congrFun (q _ (by decide) (by decide) (by decide)) _) (g4 _ (by decide)) (q _ (by decide) (by decide) (by decide)) (q _ (by decide) (by decide) (by decide)) (q _ (by decide) (by decide) (by decide)) (q _ (by decide) (by decide) (by decide))
  · exact hF.cong (congrFun (q _ (by decide) (by decide) (by decide)) _) (g4 _ (by decide)) (q _ (by decide) (by decide) (by decide)) (q _ (by decide) (by decide) (by decide)) (q _ (by decide) (by decide) (by decide)) (q _ (by decide) (by decide) (by decide)) (q _ (by decide) (by decide) (by decide)) (q _ (by decide) (by decide) (by decide)) (q _ (by decide) (by decide) (by decide)) (q _ (by decide) (by decide) (by decide)) (q _ (by decide) (by decide) (by decide)) (q _ (by decide) (by decide) (by decide)) (q _ (by decide) (by decide) (by decide)) (q _ (by decide) (by decide) (by decide)) (q _ (by decide) (by decide) (by decide)) (q _ (by decide) (by decide) (by decide)) (q _ (by decide) (by decide) (by decide)) (q _ (by decide) (by decide) (by decide))
  · exact hL.cong (congrFun (q _ (by decide) (by decide) (by decide)) _) (g4 _ (by decide)) (q _ (by decide) (by decide) (by decide)) (q _ (by decide) (by decide) (by decide)) (q _ (by decide) (by decide) (by decide)) (q _ (by decide) (by decide) (by decide)) (q _ (by decide) (by decide) (by decide)) (q _ (by decide) (by decide) (by decide)) (q _ (by decide) (by decide) (by decide)) (q _ (by decide) (by decide) (by decide)) (q _ (by decide) (by decide) (by decide)) (q _ (by decide) (by decide) (by decide)) (q _ (by decide) (by decide) (by decide)) (q _ (by decide) (by decide) (by decide)) (q _ (by decide) (by decide) (by decide)) (q _ (by decide) (by decide) (by decide))
  · exact hC.cong (q _ (by decide) (by decide) (by decide)) (q _ (by decide) (by decide) (by decide)) (q _ (by decide) (by decide) (by decide))
  · obtain ⟨-, s2, s3, s4, s5, s6, s7, s8, s9⟩ := hS
    have e1 : ab_rd m2 0 13 = ab_rd m 0 13 := g3 _ (by decide)
    have e2 : ab_rd m2 8 6 = ab_rd m 8 6 := g4 _ (by decide)
    have e3 : ab_rd m2 0 12 = ab_rd m 0 12 := g3 _ (by decide)
    have e4 : ab_rd m2 8 7 = ab_rd m 8 7 := g4 _ (by decide)
    have e5 : ab_rd m2 0 10 = ab_rd m 0 10 := g3 _ (by decide)
    have e6 : ab_rd m2 8 44 = ab_rd m 8 44 := g4 _ (by decide)
    have e7 : ab_rd m2 11 = ab_rd m 11 := q _ (by decide) (by decide) (by decide)
    have e8 : ab_rd m2 81 = ab_rd m 81 := q _ (by decide) (by decide) (by decide)
    unfold iv_S
    rw [e1, e2, e3, e4, e5, e6, e7, e8]
    exact ⟨he, s2, s3, s4, s5, s6, s7, s8, s9⟩
  · exact hB.cong (g3 _ (by decide)) (congrFun (q _ (by decide) (by decide) (by decide)) _) (congrFun (q _ (by decide) (by decide) (by decide)) _) (congrFun (q _ (by decide) (by decide) (by decide)) _) (q _ (by decide) (by decide) (by decide)) (q _ (by decide) (by decide) (by decide)) (q _ (by decide) (by decide) (by decide)) (q _ (by decide) (by decide) (by decide)) (q _ (by decide) (by decide) (by decide)) (g4 _ (by decide)) (fun l f _ _ => iv_cost_cong nP l f (q _ (by decide) (by decide) (by decide)) (q _ (by decide) (by decide) (by decide)) (q _ (by decide) (by decide) (by decide)) (q _ (by decide) (by decide) (by decide)) (q _ (by decide) (by decide) (by decide)) (q _ (by decide) (by decide) (by decide)) (q _ (by decide) (by decide) (by decide)) (q _ (by decide) (by decide) (by decide)) (q _ (by decide) (by decide) (by decide)) (q _ (by decide) (by decide) (by decide)) (q _ (by decide) (by decide) (by decide)) (q _ (by decide) (by decide) (by decide)) (q _ (by decide) (by decide) (by decide)) (q _ (by decide) (by decide) (by decide)))
/-- a call of both: one answer, and all holds again -/
def iv_Op (Z : ab_Z) (kD kM : Nat) (As : List ab_V) (m : ab_M) : Prop := ∃ (r : Int32) (m1 m2 : ab_M), ab_C Z 40 kD (.inl (.ref 0) :: As) m (some r) m1 ∧ ab_C Z 40 kM (.inl (.ref 8) :: As) m1 (some r) m2 ∧ iv_A m2
theorem op_status {Z : ab_Z} (hZ : ab_okZ Z) {m : ab_M} (hI : iv_A m) : iv_Op Z 54 94 [] m := by
  obtain ⟨nK, nP, nF, nL, nO, h⟩ := hI
  have hs : ab_rd m 0 11 = ab_rd m 8 0 := h.2.2.2.2.2.2.1.1
  refine ⟨ab_rd m 0 11, m, ab_wr m 8 1 0, ab_Kc hZ (tk_D_status_0_0 ⟨rfl, rfl⟩) trivial (by decide) (Nat.le_of_ble_eq_true rfl), ab_Kc hZ (tk_M_status_0_0 ⟨congrArg some hs.symm, rfl⟩) trivial (by decide) (Nat.le_of_ble_eq_true rfl), nK, nP, nF, nL, nO, h.sc (iv_sc.m m 0 (by decide)) hs⟩
theorem op_out {Z : ab_Z} (hZ : ab_okZ Z) (x : Int32) {m : ab_M} (hI : iv_A m) : iv_Op Z 77 140 [.inl (.int x)] m := by
  obtain ⟨nK, nP, nF, nL, nO, h⟩ := hI
  obtain ⟨hs, -, -, -, -, hn, h1, h2, h3⟩ := h.2.2.2.2.2.2.1
  have hA : iv_A (ab_wr m 8 1 0) := ⟨nK, nP, nF, nL, nO, h.sc (iv_sc.m m 0 (by decide)) hs⟩
  have h2' : ab_rd (ab_wr m 8 1 0) 8 44 = nI nO := h2
  by_cases hx : x < 0
  · exact ⟨-1, m, _, ab_Kc hZ (tk_D_out_0_2 hx ⟨rfl, rfl⟩) trivial (by decide) (Nat.le_of_ble_eq_true rfl), ab_Kc hZ (tk_M_out_0_2 hx ⟨rfl, rfl⟩) trivial (by decide) (Nat.le_of_ble_eq_true rfl), hA⟩
  · by_cases hy : nI nO ≤ x
    · exact ⟨-1, m, _, ab_Kc hZ (tk_D_out_0_1 hx (by rw [h1]; exact hy) ⟨rfl, rfl⟩) trivial (by decide) (Nat.le_of_ble_eq_true rfl), ab_Kc hZ (tk_M_out_0_1 hx (by rw [h2']; exact hy) ⟨rfl, rfl⟩) trivial (by decide) (Nat.le_of_ble_eq_true rfl), hA⟩
    · have hin : vp_in x 8 := by
        rw [vp_in_iff]
        rw [ab_ltI, ab_t0] at hx
        rw [ab_leI, nI_toInt (by omega)] at hy
        omega
      exact ⟨ab_rd m 11 x.toNatClampNeg, m, _, ab_Kc hZ (tk_D_out_0_0 hx (by rw [h1]; exact hy) hin ⟨rfl, rfl⟩) trivial (by decide) (Nat.le_of_ble_eq_true rfl), ab_Kc hZ (tk_M_out_0_0 hx (by rw [h2']; exact hy) hin ⟨congrArg some (h3 _).symm, rfl⟩) trivial (by decide) (Nat.le_of_ble_eq_true rfl), hA⟩
/-- refused by both: the status is x -/
theorem iv_refused {m : ab_M} (hI : iv_A m) (x : Int32) : iv_A (ab_wr (iv_m0 (ab_wr m 0 11 x)) 8 0 x) := by
  obtain ⟨nK, nP, nF, nL, nO, h⟩ := hI
  exact ⟨nK, nP, nF, nL, nO, h.sc (((iv_sc.d m x).trans (iv_sc.m0 _)).trans (iv_sc.m _ x (by decide))) rfl⟩
/-- answered by both, with nothing changed -/
theorem iv_answered {m : ab_M} (hI : iv_A m) : iv_A (iv_m0 (ab_wr m 0 11 0)) := by
  obtain ⟨nK, nP, nF, nL, nO, h⟩ := hI
  exact ⟨nK, nP, nF, nL, nO, h.sc ((iv_sc.d m 0).trans (iv_sc.m0 _)) rfl⟩
theorem op_gap {Z : ab_Z} (hZ : ab_okZ Z) (x : Int32) {m : ab_M} (hI : iv_A m) : iv_Op Z 64 116 [.inl (.int x)] m := by
  have e100 : (100 : Int32).toInt = 100 := rfl
  by_cases hx : 0 ≤ x.toInt ∧ x.toInt ≤ 100
  · have hD : ab_C Z 40 64 [.inl (.ref 0), .inl (.int x)] m (some 1) (ab_wr (ab_wr (ab_wr m 0 13 x) 0 14 1) 0 11 0) :=
      ab_Kc hZ (tk_D_gap_0_1 ⟨by decide, ct_D_isWithin hZ x 0 100 m⟩ (ab_b_n.mpr hx) (Or.inr rfl) ⟨by decide, ct_D_grant hZ _⟩ ⟨rfl, rfl⟩) (Or.inr rfl) (by decide) (Nat.le_of_ble_eq_true rfl)
    refine ⟨1, _, _, hD, ab_Kc hZ (tk_M_gap_0_1 (by rw [ab_ltI, ab_t0]; omega) (by rw [ab_leI, e100]; omega) ⟨rfl, rfl⟩) (Or.inr rfl) (by decide) (Nat.le_of_ble_eq_true rfl), ?_⟩
    obtain ⟨nK, nP, nF, nL, nO, hK, hN, hP, hF, hL, hC, ⟨-, -, -, s4, s5, s6, s7, s8, s9⟩, hB⟩ := hI
    refine ⟨nK, nP, nF, nL, nO, hK.cong rfl rfl rfl rfl rfl rfl rfl, hN.cong rfl rfl, hP.cong rfl rfl rfl rfl rfl rfl, hF.cong rfl rfl rfl rfl rfl rfl rfl rfl rfl rfl rfl rfl rfl rfl rfl rfl rfl rfl, hL.cong rfl rfl rfl rfl rfl rfl rfl rfl rfl rfl rfl rfl rfl rfl rfl rfl, hC.cong rfl rfl rfl, ⟨rfl, rfl, hx, s4, s5, s6, s7, s8, s9⟩, iv_B.old rfl⟩
  · have hD : ab_C Z 40 64 [.inl (.ref 0), .inl (.int x)] m (some 0) (ab_wr m 0 11 2) :=
      ab_Kc hZ (tk_D_gap_0_0 ⟨by decide, ct_D_isWithin hZ x 0 100 m⟩ (ab_b_0.mpr hx) ⟨by decide, ct_D_deny hZ 2 _⟩ ⟨rfl, rfl⟩) (Or.inl rfl) (by decide) (Nat.le_of_ble_eq_true rfl)
    refine ⟨0, _, _, hD, ?_, iv_refused hI 2⟩
    refine ab_Kc hZ ?_ (Or.inl rfl) (by decide) (Nat.le_of_ble_eq_true rfl)
    by_cases h0 : x < 0
    · exact tk_M_gap_0_2 h0 ⟨by decide, ct_M_no hZ 2 _⟩ ⟨rfl, rfl⟩
    · refine tk_M_gap_0_0 h0 ?_ ⟨by decide, ct_M_no hZ 2 _⟩ ⟨rfl, rfl⟩
      rw [ab_ltI, ab_t0] at h0
      rw [ab_leI, e100]
      omega
