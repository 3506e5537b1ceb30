/-! ===== told, keeping, kind ===== -/
theorem iv_toI {x : Int32} {n : Nat} (h : x = nI n) (hn : n < 2 ^ 31) : x.toInt = n := by rw [h, nI_toInt hn]
theorem op_told {Z : ab_Z} (hZ : ab_okZ Z) (x y : Int32) {m : ab_M} (hI : iv_A m) : iv_Op Z 62 112 [.inl (.int x), .inl (.int y)] m := by
  have hI' := hI
  obtain ⟨nK, nP, nF, nL, nO, -, -, -, ⟨hn, h1, h2, a1, a2, a3, a4, a5, a6, a7, a8, -⟩, -⟩ := hI'
  have hcD : (ab_rd m 4 8).toInt = nF := iv_toI h1 (by omega)
  have hcM : ∀ z : Int32, (ab_rd (iv_m0 (ab_wr m 0 11 z)) 8 4).toInt = nF := fun z => iv_toI (x := ab_rd m 8 4) h2 (by omega)
  by_cases hx : 0 ≤ x.toInt ∧ x.toInt < nF
  · have hin : vp_in x 24 := vp_in_iff.mpr (by omega)
    have hD0 : ¬ ab_b (0 ≤ x.toInt ∧ x.toInt < (ab_rd m 4 8).toInt) = 0 := ab_b_n.mpr (by rw [hcD]; exact hx)
    have hM0 : ∀ z : Int32, ¬ ab_b (0 ≤ x.toInt ∧ x.toInt < (ab_rd (iv_m0 (ab_wr m 0 11 z)) 8 4).toInt) = 0 := fun z => ab_b_n.mpr (by rw [hcM]; exact hx)
    by_cases hy : y.toInt < 0 ∨ ((6 : Nat) : Int) < y.toInt
    · refine ⟨-1, _, _, ab_Kc hZ (tk_D_told_0_1 ⟨by decide, ct_Finds_has hZ x m⟩ hD0 hy ⟨by decide, ct_D_refuse hZ 2 _⟩ ⟨rfl, rfl⟩) trivial (by decide) (Nat.le_of_ble_eq_true rfl), ab_Kc hZ (tk_M_told_0_1 ⟨by decide, ct_M_isFind hZ x _⟩ (hM0 2) hy ⟨by decide, ct_M_refuse hZ 2 _⟩ ⟨rfl, rfl⟩) trivial (by decide) (Nat.le_of_ble_eq_true rfl), iv_refused hI 2⟩
    · have hy7 : y = 0 ∨ y = 1 ∨ y = 2 ∨ y = 3 ∨ y = 4 ∨ y = 5 ∨ y = 6 := by
        simp only [ab_eqI]
        have e : (0 : Int32).toInt = 0 ∧ (1 : Int32).toInt = 1 ∧ (2 : Int32).toInt = 2 ∧ (3 : Int32).toInt = 3 ∧ (4 : Int32).toInt = 4 ∧ (5 : Int32).toInt = 5 ∧ (6 : Int32).toInt = 6 := ⟨rfl, rfl, rfl, rfl, rfl, rfl, rfl⟩
        omega
      rcases hy7 with rfl | rfl | rfl | rfl | rfl | rfl | rfl
      · exact ⟨ab_rd m 19 x.toNatClampNeg, _, _, ab_Kc hZ (tk_D_told_0_2 ⟨by decide, ct_Finds_has hZ x m⟩ hD0 rfl hin ⟨by decide, ct_D_answer hZ _ _⟩ ⟨rfl, rfl⟩) trivial (by decide) (Nat.le_of_ble_eq_true rfl), ab_Kc hZ (tk_M_told_0_2 ⟨by decide, ct_M_isFind hZ x _⟩ (hM0 0) rfl hin ⟨congrArg some (a1 _).symm, rfl⟩) trivial (by decide) (Nat.le_of_ble_eq_true rfl), iv_answered hI⟩
      · exact ⟨ab_rd m 20 x.toNatClampNeg, _, _, ab_Kc hZ (tk_D_told_0_3 ⟨by decide, ct_Finds_has hZ x m⟩ hD0 rfl hin ⟨by decide, ct_D_answer hZ _ _⟩ ⟨rfl, rfl⟩) trivial (by decide) (Nat.le_of_ble_eq_true rfl), ab_Kc hZ (tk_M_told_0_3 ⟨by decide, ct_M_isFind hZ x _⟩ (hM0 0) rfl hin ⟨congrArg some (a2 _).symm, rfl⟩) trivial (by decide) (Nat.le_of_ble_eq_true rfl), iv_answered hI⟩
      · exact ⟨ab_rd m 22 x.toNatClampNeg, _, _, ab_Kc hZ (tk_D_told_0_4 ⟨by decide, ct_Finds_has hZ x m⟩ hD0 rfl hin ⟨by decide, ct_D_answer hZ _ _⟩ ⟨rfl, rfl⟩) trivial (by decide) (Nat.le_of_ble_eq_true rfl), ab_Kc hZ (tk_M_told_0_4 ⟨by decide, ct_M_isFind hZ x _⟩ (hM0 0) rfl hin ⟨congrArg some (a4 _).symm, rfl⟩) trivial (by decide) (Nat.le_of_ble_eq_true rfl), iv_answered hI⟩
      · exact ⟨ab_rd m 23 x.toNatClampNeg, _, _, ab_Kc hZ (tk_D_told_0_5 ⟨by decide, ct_Finds_has hZ x m⟩ hD0 rfl hin ⟨by decide, ct_D_answer hZ _ _⟩ ⟨rfl, rfl⟩) trivial (by decide) (Nat.le_of_ble_eq_true rfl), ab_Kc hZ (tk_M_told_0_5 ⟨by decide, ct_M_isFind hZ x _⟩ (hM0 0) rfl hin ⟨congrArg some (a5 _).symm, rfl⟩) trivial (by decide) (Nat.le_of_ble_eq_true rfl), iv_answered hI⟩
      · exact ⟨ab_rd m 24 x.toNatClampNeg, _, _, ab_Kc hZ (tk_D_told_0_6 ⟨by decide, ct_Finds_has hZ x m⟩ hD0 rfl hin ⟨by decide, ct_D_answer hZ _ _⟩ ⟨rfl, rfl⟩) trivial (by decide) (Nat.le_of_ble_eq_true rfl), ab_Kc hZ (tk_M_told_0_6 ⟨by decide, ct_M_isFind hZ x _⟩ (hM0 0) rfl hin ⟨congrArg some (a6 _).symm, rfl⟩) trivial (by decide) (Nat.le_of_ble_eq_true rfl), iv_answered hI⟩
      · exact ⟨ab_rd m 25 x.toNatClampNeg, _, _, ab_Kc hZ (tk_D_told_0_7 ⟨by decide, ct_Finds_has hZ x m⟩ hD0 rfl hin ⟨by decide, ct_D_answer hZ _ _⟩ ⟨rfl, rfl⟩) trivial (by decide) (Nat.le_of_ble_eq_true rfl), ab_Kc hZ (tk_M_told_0_7 ⟨by decide, ct_M_isFind hZ x _⟩ (hM0 0) rfl hin ⟨congrArg some (a7 _).symm, rfl⟩) trivial (by decide) (Nat.le_of_ble_eq_true rfl), iv_answered hI⟩
      · exact ⟨ab_rd m 26 x.toNatClampNeg, _, _, ab_Kc hZ (tk_D_told_0_8 ⟨by decide, ct_Finds_has hZ x m⟩ hD0 rfl hin ⟨by decide, ct_D_answer hZ _ _⟩ ⟨rfl, rfl⟩) trivial (by decide) (Nat.le_of_ble_eq_true rfl), ab_Kc hZ (tk_M_told_0_8 ⟨by decide, ct_M_isFind hZ x _⟩ (hM0 0) rfl hin ⟨congrArg some (a8 _).symm, rfl⟩) trivial (by decide) (Nat.le_of_ble_eq_true rfl), iv_answered hI⟩
  · exact ⟨-1, _, _, ab_Kc hZ (tk_D_told_0_0 ⟨by decide, ct_Finds_has hZ x m⟩ (ab_b_0.mpr (by rw [hcD]; exact hx)) ⟨by decide, ct_D_refuse hZ 1 _⟩ ⟨rfl, rfl⟩) trivial (by decide) (Nat.le_of_ble_eq_true rfl), ab_Kc hZ (tk_M_told_0_0 ⟨by decide, ct_M_isFind hZ x _⟩ (ab_b_0.mpr (by rw [hcM]; exact hx)) ⟨by decide, ct_M_refuse hZ 1 _⟩ ⟨rfl, rfl⟩) trivial (by decide) (Nat.le_of_ble_eq_true rfl), iv_refused hI 1⟩
theorem iv_keep {m : ab_M} (hI : iv_A m) {nK : Nat} (hK : iv_K m nK) {k : Nat} (hk : k < nK) {y : Int32} (hy : y = -1 ∨ (1 ≤ y.toInt ∧ y.toInt ≤ 1000)) : iv_A (ab_wr (iv_m0 (ab_wr (ab_wr m 14 k y) 0 11 0)) 49 k y) := by
  obtain ⟨nK', nP, nF, nL, nO, hK', hN, hP, hF, hL, hC, ⟨s1, s2, s3, s4, s5, s6, s7, s8, s9⟩, hB⟩ := hI
  refine ⟨nK', nP, nF, nL, nO, ?_, hN.cong rfl rfl, hP.cong rfl rfl rfl rfl rfl rfl, hF.cong rfl rfl rfl rfl rfl rfl rfl rfl rfl rfl rfl rfl rfl rfl rfl rfl rfl rfl, hL.cong rfl rfl rfl rfl rfl rfl rfl rfl rfl rfl rfl rfl rfl rfl rfl rfl, hC.cong rfl rfl rfl, ⟨rfl, s2, s3, s4, s5, s6, s7, s8, s9⟩, hB.cong rfl rfl rfl rfl rfl rfl rfl rfl rfl rfl (fun l f _ _ => iv_cost_cong nP l f rfl rfl rfl rfl rfl rfl rfl rfl rfl rfl rfl rfl rfl rfl)⟩
  obtain ⟨g1, g2, g3, g4, g5, g6, g7, g8⟩ := hK'
  refine ⟨g1, g2, g3, g4, ?_, g6, ?_, g8⟩
  · intro j
    show ab_rd (ab_wr m 14 k y) 14 j = ab_rd (ab_wr m 49 k y) 49 j
    rw [ab_rd_p, ab_rd_p, g5 j]
  · intro j hj
    show ab_rd (ab_wr m 49 k y) 49 j = -1 ∨ (1 ≤ (ab_rd (ab_wr m 49 k y) 49 j).toInt ∧ (ab_rd (ab_wr m 49 k y) 49 j).toInt ≤ 1000)
    rw [ab_rd_p]
    by_cases q : j = k
    · rw [if_pos q]
      exact hy
    · rw [if_neg q]
      exact g7 j hj
theorem op_keeping {Z : ab_Z} (hZ : ab_okZ Z) (x y : Int32) {m : ab_M} (hI : iv_A m) : iv_Op Z 73 134 [.inl (.int x), .inl (.int y)] m := by
  have hI' := hI
  obtain ⟨nK, nP, nF, nL, nO, hK, -⟩ := hI'
  obtain ⟨hn, h1, h2, -⟩ := id hK
  have hcD : (ab_rd m 1 3).toInt = nK := iv_toI h1 (by omega)
  have hcM : (ab_rd m 8 2).toInt = nK := iv_toI h2 (by omega)
  have e1 : (1 : Int32).toInt = 1 := rfl
  have e2 : (1000 : Int32).toInt = 1000 := rfl
  by_cases hx : 0 ≤ x.toInt ∧ x.toInt < nK
  · have hin : vp_in x 40 := vp_in_iff.mpr (by omega)
    have hxM : 0 ≤ x.toInt ∧ x.toInt < (ab_rd m 8 2).toInt := by rw [hcM]; exact hx
    have hD0 : ¬ ab_b (0 ≤ x.toInt ∧ x.toInt < (ab_rd m 1 3).toInt) = 0 := ab_b_n.mpr (by rw [hcD]; exact hx)
    by_cases hy : y = -1
    · refine ⟨1, _, _, ab_Kc hZ (tk_D_keeping_0_3 ⟨by decide, ct_Kinds_has hZ x m⟩ hD0 hy hin ⟨by decide, ct_D_grant hZ _⟩ ⟨rfl, rfl⟩) (Or.inr rfl) (by decide) (Nat.le_of_ble_eq_true rfl), ab_Kc hZ (tk_M_keeping_0_4 ⟨by decide, ct_M_isKind hZ x _⟩ (ab_b_n.mpr hxM) hy hin ⟨rfl, rfl⟩) (Or.inr rfl) (by decide) (Nat.le_of_ble_eq_true rfl), iv_keep hI hK (by rw [ab_clI]; omega) (Or.inl hy)⟩
    · by_cases hz : 1 ≤ y.toInt ∧ y.toInt ≤ 1000
      · refine ⟨1, _, _, ab_Kc hZ (tk_D_keeping_0_2 ⟨by decide, ct_Kinds_has hZ x m⟩ hD0 hy ⟨by decide, ct_D_isWithin hZ y 1 1000 m⟩ (ab_b_n.mpr hz) hin ⟨by decide, ct_D_grant hZ _⟩ ⟨rfl, rfl⟩) (Or.inr rfl) (by decide) (Nat.le_of_ble_eq_true rfl), ab_Kc hZ (tk_M_keeping_0_2 ⟨by decide, ct_M_isKind hZ x _⟩ (ab_b_n.mpr hxM) hy (by rw [ab_ltI, e1]; omega) (by rw [ab_leI, e2]; omega) hin ⟨rfl, rfl⟩) (Or.inr rfl) (by decide) (Nat.le_of_ble_eq_true rfl), iv_keep hI hK (by rw [ab_clI]; omega) (Or.inr hz)⟩
      · refine ⟨0, _, _, ab_Kc hZ (tk_D_keeping_0_1 ⟨by decide, ct_Kinds_has hZ x m⟩ hD0 hy ⟨by decide, ct_D_isWithin hZ y 1 1000 m⟩ (ab_b_0.mpr hz) ⟨by decide, ct_D_deny hZ 2 _⟩ ⟨rfl, rfl⟩) (Or.inl rfl) (by decide) (Nat.le_of_ble_eq_true rfl), ab_Kc hZ ?_ (Or.inl rfl) (by decide) (Nat.le_of_ble_eq_true rfl), iv_refused hI 2⟩
        by_cases hw : y < 1
        · exact tk_M_keeping_0_3 ⟨by decide, ct_M_isKind hZ x _⟩ (ab_b_n.mpr hxM) hy hw ⟨by decide, ct_M_no hZ 2 _⟩ ⟨rfl, rfl⟩
        · exact tk_M_keeping_0_1 ⟨by decide, ct_M_isKind hZ x _⟩ (ab_b_n.mpr hxM) hy hw (by rw [ab_ltI, e1] at hw; rw [ab_leI, e2]; omega) ⟨by decide, ct_M_no hZ 2 _⟩ ⟨rfl, rfl⟩
  · exact ⟨0, _, _, ab_Kc hZ (tk_D_keeping_0_0 ⟨by decide, ct_Kinds_has hZ x m⟩ (ab_b_0.mpr (by rw [hcD]; exact hx)) ⟨by decide, ct_D_deny hZ 1 _⟩ ⟨rfl, rfl⟩) (Or.inl rfl) (by decide) (Nat.le_of_ble_eq_true rfl), ab_Kc hZ (tk_M_keeping_0_0 ⟨by decide, ct_M_isKind hZ x _⟩ (ab_b_0.mpr (show ¬ (0 ≤ x.toInt ∧ x.toInt < (ab_rd m 8 2).toInt) by rw [hcM]; exact hx)) ⟨by decide, ct_M_no hZ 1 _⟩ ⟨rfl, rfl⟩) (Or.inl rfl) (by decide) (Nat.le_of_ble_eq_true rfl), iv_refused hI 1⟩
