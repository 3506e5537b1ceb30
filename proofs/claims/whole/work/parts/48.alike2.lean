/-! ===== alike: both ===== -/
theorem cl_D_alike {Z : ab_Z} (hZ : ab_okZ Z) {m : ab_M} {nK nP nF f : Nat} (hK : iv_K m nK) (hF : iv_F m nK nP nF) (hf : f < nF) (x : Int32) : ∀ (j i : Nat), i + j = nF → ab_T Z 68 40 (52, [(0, .inl (.ref 0)), (1, .inl (.int (nI f))), (2, .inl (.int x)), (3, .inl (.int (nI (cn_of (fun g => kn_of m f g ∧ (ab_rd m 55 f ^^^ ab_rd m 55 g) &&& x = 0) i)))), (4, .inl (.int (nI i)))], [], m) (fun r m9 => r = some (nI (cn_of (fun g => kn_of m f g ∧ (ab_rd m 55 f ^^^ ab_rd m 55 g) &&& x = 0) nF)) ∧ m9 = ab_wr m 0 11 0) := by
  obtain ⟨g1, g2, g3, a1, a2, a3, a4, a5, a6, a7, a8, gg⟩ := id hF
  intro j
  induction j with
  | zero =>
    intro i hi
    have hi : i = nF := by omega
    rw [← hi]
    exact tk_D_alike_52_6 (by rw [g2, ← hi]; exact Int32.le_refl _) ⟨(by decide : 0 < 40), ct_D_answer hZ _ _⟩ ⟨rfl, rfl⟩
  | succ j ih =>
    intro i hi
    have hlt : ¬ ab_rd m 4 8 ≤ nI i := by rw [g2]; exact nI_ge (by omega) (by omega)
    have hdm := ct_D_differingMarks hZ (f := f) (g := i) (by omega) (by omega) m
    rw [a3, a3] at hdm
    have hkl := ct_D_isKeptInLine hZ hK hF hf (show i < nF by omega)
    have := ih (i + 1) (by omega)
    rw [cn_s] at this
    by_cases q : (ab_rd m 55 f ^^^ ab_rd m 55 i) &&& x = 0
    · by_cases z : kn_of m f i
      · rw [if_pos ⟨z, q⟩] at this
        refine tk_D_alike_52_0 hlt ⟨(by decide : 0 < 40), hdm⟩ q (by decide) ⟨(by decide : 2 < 40), hkl⟩ (ab_b_n.mpr z) ?_
        rw [nI_1, nI_1]
        exact this
      · rw [if_neg (fun y => z y.1)] at this
        refine tk_D_alike_52_1 hlt ⟨(by decide : 0 < 40), hdm⟩ q (by decide) ⟨(by decide : 2 < 40), hkl⟩ (ab_b_0.mpr z) ?_
        rw [nI_1]
        exact this
    · rw [if_neg (fun y => q y.2)] at this
      refine tk_D_alike_52_5 hlt ⟨(by decide : 0 < 40), hdm⟩ q rfl ?_
      rw [nI_1]
      exact this
theorem op_alike {Z : ab_Z} (hZ : ab_okZ Z) (x y : Int32) {m : ab_M} (hI : iv_A m) : iv_Op Z 68 129 [.inl (.int x), .inl (.int y)] m := by
  have hI' := hI
  obtain ⟨nK, nP, nF, nL, nO, h⟩ := hI'
  have hK := h.1
  have hF := h.2.2.2.1
  obtain ⟨g1, g2, g3, a1, a2, a3, a4, a5, a6, a7, a8, g⟩ := id hF
  have cD : (ab_rd m 4 8).toInt = nF := iv_toI g2 (by omega)
  have cM : (ab_rd m 8 4).toInt = nF := iv_toI g3 (by omega)
  by_cases hx : 0 ≤ x.toInt ∧ x.toInt < nF
  · have x1 : ¬ ab_b (0 ≤ x.toInt ∧ x.toInt < (ab_rd m 4 8).toInt) = 0 := ab_b_n.mpr (by rw [cD]; exact hx)
    have x2 : ¬ ab_b (0 ≤ x.toInt ∧ x.toInt < (ab_rd m 8 4).toInt) = 0 := ab_b_n.mpr (by rw [cM]; exact hx)
    obtain ⟨f, hf, rfl⟩ := iv_ix hx (by omega)
    have hif := ab_in (n := f) (N := 24) (by omega) (by decide)
    have hcf := ab_cl (n := f) (by omega)
    by_cases hy : 0 ≤ y.toInt ∧ y.toInt ≤ 65535
    · by_cases hs : ab_rd m 58 f = 0
      · have hD : ab_C Z 40 68 [.inl (.ref 0), .inl (.int (nI f)), .inl (.int y)] m _ _ := ab_Kc hZ (tk_D_alike_0_3 ⟨(by decide : 0 < 40), ct_Finds_has hZ _ m⟩ x1 ⟨(by decide : 1 < 40), ct_D_areMarks hZ y m⟩ (ab_b_n.mpr hy) ⟨(by decide : 0 < 40), ct_Finds_isKept hZ (by omega) m⟩ (ab_b_n.mpr (by rw [a6]; exact hs)) (cl_D_alike hZ hK hF hf y nF 0 (by omega))) trivial (by decide) (Nat.le_of_ble_eq_true rfl)
        have hK2 : iv_K (iv_m0 (ab_wr m 0 11 0)) nK := hK.cong rfl rfl rfl rfl rfl rfl rfl
        have hF2 : iv_F (iv_m0 (ab_wr m 0 11 0)) nK nP nF := hF.cong rfl rfl rfl rfl rfl rfl rfl rfl rfl rfl rfl rfl rfl rfl rfl rfl rfl rfl
        obtain ⟨r, m3, hC3, rfl, hP3⟩ := ct_M_kins hZ hK2 hF2 hf
        have hal := ct_M_alikes hZ hP3 g1 (by omega) y
        refine ⟨_, _, m3, hD, ab_Kc hZ (tk_M_alike_0_3 ⟨(by decide : 0 < 40), ct_M_isFind hZ _ _⟩ x2 ⟨(by decide : 0 < 40), ct_M_areMarks hZ y _⟩ (ab_b_n.mpr hy) hif (by rw [hcf]; exact hs) ⟨(by decide : 2 < 40), hC3⟩ ⟨(by decide : 0 < 40), hal⟩ ⟨rfl, rfl⟩) trivial (by decide) (Nat.le_of_ble_eq_true rfl), nK, nP, nF, nL, nO, h.sc (((iv_sc.d m 0).trans (iv_sc.m0 _)).trans hP3.1.sc) ?_⟩
        rw [hP3.1.rd (p := 0) (by decide) (by decide), hP3.1.rm (by decide)]
        rfl
      · refine ⟨-1, _, _, ab_Kc hZ (tk_D_alike_0_2 ⟨(by decide : 0 < 40), ct_Finds_has hZ _ m⟩ x1 ⟨(by decide : 1 < 40), ct_D_areMarks hZ y m⟩ (ab_b_n.mpr hy) ⟨(by decide : 0 < 40), ct_Finds_isKept hZ (by omega) m⟩ (ab_b_0.mpr (by rw [a6]; exact hs)) ⟨by decide, ct_D_refuse hZ 5 _⟩ ⟨rfl, rfl⟩) trivial (by decide) (Nat.le_of_ble_eq_true rfl), ab_Kc hZ (tk_M_alike_0_2 ⟨(by decide : 0 < 40), ct_M_isFind hZ _ _⟩ x2 ⟨(by decide : 0 < 40), ct_M_areMarks hZ y _⟩ (ab_b_n.mpr hy) hif (by rw [hcf]; exact hs) ⟨by decide, ct_M_refuse hZ 5 _⟩ ⟨rfl, rfl⟩) trivial (by decide) (Nat.le_of_ble_eq_true rfl), iv_refused hI 5⟩
    · exact ⟨-1, _, _, ab_Kc hZ (tk_D_alike_0_1 ⟨(by decide : 0 < 40), ct_Finds_has hZ _ m⟩ x1 ⟨(by decide : 1 < 40), ct_D_areMarks hZ y m⟩ (ab_b_0.mpr hy) ⟨by decide, ct_D_refuse hZ 2 _⟩ ⟨rfl, rfl⟩) trivial (by decide) (Nat.le_of_ble_eq_true rfl), ab_Kc hZ (tk_M_alike_0_1 ⟨(by decide : 0 < 40), ct_M_isFind hZ _ _⟩ x2 ⟨(by decide : 0 < 40), ct_M_areMarks hZ y _⟩ (ab_b_0.mpr hy) ⟨by decide, ct_M_refuse hZ 2 _⟩ ⟨rfl, rfl⟩) trivial (by decide) (Nat.le_of_ble_eq_true rfl), iv_refused hI 2⟩
  · exact ⟨-1, _, _, ab_Kc hZ (tk_D_alike_0_0 ⟨by decide, ct_Finds_has hZ x m⟩ (ab_b_0.mpr (by rw [cD]; exact hx)) ⟨by decide, ct_D_refuse hZ 1 _⟩ ⟨rfl, rfl⟩) trivial (by decide) (Nat.le_of_ble_eq_true rfl), ab_Kc hZ (tk_M_alike_0_0 ⟨by decide, ct_M_isFind hZ x _⟩ (ab_b_0.mpr (show ¬ (0 ≤ x.toInt ∧ x.toInt < (ab_rd m 8 4).toInt) by rw [cM]; exact hx)) ⟨by decide, ct_M_refuse hZ 1 _⟩ ⟨rfl, rfl⟩) trivial (by decide) (Nat.le_of_ble_eq_true rfl), iv_refused hI 1⟩
