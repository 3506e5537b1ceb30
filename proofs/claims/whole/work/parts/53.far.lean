/-! ===== far ===== -/
theorem iv_all.ch {m m1 : ab_M} {nK nP nF nL nO : Nat} (h : iv_all m nK nP nF nL nO) (g : iv_ch m m1) (hP1 : iv_P m1 nP) : iv_all m1 nK nP nF nL nO := by
  obtain ⟨hK, hN, hP, hF, hL, hC, hS, hB⟩ := h
  obtain ⟨g1, g2⟩ := g
  have q : ∀ p, p ≠ 17 → p ≠ 18 → m1.1 p = m.1 p := g1
  refine ⟨?_, ?_, hP1, ?_, ?_, ?_, ?_, ?_⟩
  · exact hK.cong (congrFun (q _ (by decide) (by decide)) _) (congrFun (q _ (by decide) (by decide)) _) (q _ (by decide) (by decide)) (q _ (by decide) (by decide)) (q _ (by decide) (by decide)) (q _ (by decide) (by decide)) (g2 _)
  · exact hN.cong (q _ (by decide) (by decide)) (q _ (by decide) (by decide))
  · exact hF.cong (congrFun (q _ (by decide) (by decide)) _) (congrFun (q _ (by decide) (by decide)) _) (q _ (by decide) (by decide)) (q _ (by decide) (by decide)) (q _ (by decide) (by decide)) (q _ (by decide) (by decide)) (q _ (by decide) (by decide)) (q _ (by decide) (by decide)) (q _ (by decide) (by decide)) (q _ (by decide) (by decide)) (q _ (by decide) (by decide)) (q _ (by decide) (by decide)) (q _ (by decide) (by decide)) (q _ (by decide) (by decide)) (q _ (by decide) (by decide)) (q _ (by decide) (by decide)) (q _ (by decide) (by decide)) (q _ (by decide) (by decide))
  · exact hL.cong (congrFun (q _ (by decide) (by decide)) _) (congrFun (q _ (by decide) (by decide)) _) (q _ (by decide) (by decide)) (q _ (by decide) (by decide)) (q _ (by decide) (by decide)) (q _ (by decide) (by decide)) (q _ (by decide) (by decide)) (q _ (by decide) (by decide)) (q _ (by decide) (by decide)) (q _ (by decide) (by decide)) (q _ (by decide) (by decide)) (q _ (by decide) (by decide)) (q _ (by decide) (by decide)) (q _ (by decide) (by decide)) (q _ (by decide) (by decide)) (q _ (by decide) (by decide))
  · exact hC.cong (q _ (by decide) (by decide)) (q _ (by decide) (by decide)) (q _ (by decide) (by decide))
  · have e0 : ab_rd m1 0 = ab_rd m 0 := q _ (by decide) (by decide)
    have e1 : ab_rd m1 8 = ab_rd m 8 := q _ (by decide) (by decide)
    have e7 : ab_rd m1 11 = ab_rd m 11 := q _ (by decide) (by decide)
    have e8 : ab_rd m1 81 = ab_rd m 81 := q _ (by decide) (by decide)
    unfold iv_S
    rw [e0, e1, e7, e8]
    exact hS
  · exact hB.cong (congrFun (q _ (by decide) (by decide)) _) (congrFun (q _ (by decide) (by decide)) _) (congrFun (q _ (by decide) (by decide)) _) (congrFun (q _ (by decide) (by decide)) _) (q _ (by decide) (by decide)) (q _ (by decide) (by decide)) (q _ (by decide) (by decide)) (q _ (by decide) (by decide)) (q _ (by decide) (by decide)) (congrFun (q _ (by decide) (by decide)) _) (fun l f _ _ => iv_cost_cong nP l f (q _ (by decide) (by decide)) (q _ (by decide) (by decide)) (q _ (by decide) (by decide)) (q _ (by decide) (by decide)) (q _ (by decide) (by decide)) (q _ (by decide) (by decide)) (q _ (by decide) (by decide)) (q _ (by decide) (by decide)) (q _ (by decide) (by decide)) (q _ (by decide) (by decide)) (q _ (by decide) (by decide)) (q _ (by decide) (by decide)) (q _ (by decide) (by decide)) (q _ (by decide) (by decide)))
theorem op_far {Z : ab_Z} (hZ : ab_okZ Z) (x y : Int32) {m : ab_M} (hI : iv_A m) : iv_Op Z 59 107 [.inl (.int x), .inl (.int y)] m := by
  have hI' := hI
  obtain ⟨nK, nP, nF, nL, nO, h⟩ := hI'
  have hP := h.2.2.1
  obtain ⟨g1, g2, g3, -⟩ := id hP
  have cD : (ab_rd m 3 3).toInt = nP := iv_toI g2 (by omega)
  have cM : (ab_rd m 8 3).toInt = nP := iv_toI g3 (by omega)
  have hasD : ∀ z : Int32, (0 ≤ z.toInt ∧ z.toInt < nP) → ¬ ab_b (0 ≤ z.toInt ∧ z.toInt < (ab_rd m 3 3).toInt) = 0 := fun z h => ab_b_n.mpr (by rw [cD]; exact h)
  have hasM : ∀ z : Int32, (0 ≤ z.toInt ∧ z.toInt < nP) → ¬ ab_b (0 ≤ z.toInt ∧ z.toInt < (ab_rd m 8 3).toInt) = 0 := fun z h => ab_b_n.mpr (by rw [cM]; exact h)
  have notD : ∀ z : Int32, ¬ (0 ≤ z.toInt ∧ z.toInt < nP) → ab_b (0 ≤ z.toInt ∧ z.toInt < (ab_rd m 3 3).toInt) = 0 := fun z h => ab_b_0.mpr (by rw [cD]; exact h)
  have notM : ∀ z : Int32, ¬ (0 ≤ z.toInt ∧ z.toInt < nP) → ab_b (0 ≤ z.toInt ∧ z.toInt < (ab_rd m 8 3).toInt) = 0 := fun z h => ab_b_0.mpr (by rw [cM]; exact h)
  by_cases hx : 0 ≤ x.toInt ∧ x.toInt < nP
  · by_cases hy : 0 ≤ y.toInt ∧ y.toInt < nP
    · have x1 := hasD x hx
      have y1 := hasD y hy
      obtain ⟨a, ha, rfl⟩ := iv_ix hx (by omega)
      obtain ⟨b, hb, rfl⟩ := iv_ix hy (by omega)
      have hin : vp_in (20 * nI a + nI b) 400 := by rw [nI_20 (by omega) (by omega)]; exact ab_in (by omega) (by decide)
      have hcl : (20 * nI a + nI b).toNatClampNeg = 20 * a + b := by rw [nI_20 (by omega) (by omega), ab_cl (by omega)]
      obtain ⟨r, m1, hC, ⟨v, hr, hv⟩, hch, hP1⟩ := ct_Places_distance hZ hP ha hb
      rw [hr] at hC
      have h1 := h.ch hch hP1
      have ew : iv_w m1 = iv_w m := iv_w_cong (hch.1 _ (by decide) (by decide))
      have eM : ab_rd m1 8 3 = ab_rd m 8 3 := congrFun (hch.1 _ (by decide) (by decide)) _
      have x2 : ¬ ab_b (0 ≤ (nI a).toInt ∧ (nI a).toInt < (ab_rd m1 8 3).toInt) = 0 := by rw [eM]; exact hasM _ hx
      have y2 : ¬ ab_b (0 ≤ (nI b).toInt ∧ (nI b).toInt < (ab_rd m1 8 3).toInt) = 0 := by rw [eM]; exact hasM _ hy
      have hP2 : ∀ s, iv_P (iv_m0 (ab_wr m1 0 11 s)) nP := fun s => hP1.cong rfl rfl rfl rfl rfl rfl
      have e8 : (100000000 : Int32).toInt = 100000000 := rfl
      by_cases q : v = -1
      · obtain ⟨r3, m3, hC3, hr3, hM3, hF3⟩ := ct_M_ways hZ (hP2 7)
        rw [hr3] at hC3
        have hf := hF3 a b ha hb
        rw [show iv_w (iv_m0 (ab_wr m1 0 11 7)) = iv_w m from (iv_w_cong rfl).trans ew, ← hv, if_pos ((dk_m1 _).mp q)] at hf
        refine ⟨-1, _, _, ab_Kc hZ (tk_D_far_0_1 ⟨(by decide : 0 < 40), ct_Places_has hZ _ m⟩ x1 ⟨(by decide : 0 < 40), ct_Places_has hZ _ m⟩ y1 ⟨(by decide : 3 < 40), hC⟩ q ⟨(by decide : 0 < 40), ct_D_refuse hZ 7 _⟩ ⟨rfl, rfl⟩) trivial (by decide) (Nat.le_of_ble_eq_true rfl), ab_Kc hZ (tk_M_far_0_1 ⟨(by decide : 0 < 40), ct_M_isPlace hZ _ _⟩ x2 ⟨(by decide : 0 < 40), ct_M_isPlace hZ _ _⟩ y2 ⟨(by decide : 1 < 40), hC3⟩ hin (by rw [hcl, ab_ltI, hf, e8]; omega) ⟨(by decide : 0 < 40), ct_M_refuse hZ 7 _⟩ ⟨rfl, rfl⟩) trivial (by decide) (Nat.le_of_ble_eq_true rfl), nK, nP, nF, nL, nO, h1.sc ((((iv_sc.d m1 7).trans (iv_sc.m0 _)).trans hM3.sk.sc).trans (iv_sc.m _ 7 (by decide))) ?_⟩
        show ab_rd m3 0 11 = 7
        rw [hM3.rd (p := 0) (by decide)]
        rfl
      · obtain ⟨r3, m3, hC3, hr3, hM3, hF3⟩ := ct_M_ways hZ (hP2 0)
        rw [hr3] at hC3
        have hf := hF3 a b ha hb
        have hbd := ct_bound hZ hP ha hb
        rw [show iv_w (iv_m0 (ab_wr m1 0 11 0)) = iv_w m from (iv_w_cong rfl).trans ew, ← hv, if_neg (fun z => q ((dk_m1 _).mpr z))] at hf
        rw [← hv] at hbd
        refine ⟨v, _, m3, ab_Kc hZ (tk_D_far_0_2 ⟨(by decide : 0 < 40), ct_Places_has hZ _ m⟩ x1 ⟨(by decide : 0 < 40), ct_Places_has hZ _ m⟩ y1 ⟨(by decide : 3 < 40), hC⟩ q ⟨(by decide : 0 < 40), ct_D_answer hZ v _⟩ ⟨rfl, rfl⟩) trivial (by decide) (Nat.le_of_ble_eq_true rfl), ab_Kc hZ (tk_M_far_0_2 ⟨(by decide : 0 < 40), ct_M_isPlace hZ _ _⟩ x2 ⟨(by decide : 0 < 40), ct_M_isPlace hZ _ _⟩ y2 ⟨(by decide : 1 < 40), hC3⟩ hin (by rw [hcl, ab_ltI, hf, e8]; omega) hin ⟨?_, rfl⟩) trivial (by decide) (Nat.le_of_ble_eq_true rfl), nK, nP, nF, nL, nO, h1.sc (((iv_sc.d m1 0).trans (iv_sc.m0 _)).trans hM3.sk.sc) ?_⟩
        · rw [hcl]
          exact congrArg some (by rw [ab_eqI, hf])
        · rw [hM3.rd (p := 0) (by decide), hM3.rd (p := 8) (by decide)]
          rfl
    · exact ⟨-1, _, _, ab_Kc hZ (tk_D_far_0_0 ⟨by decide, ct_Places_has hZ x m⟩ (hasD x hx) ⟨by decide, ct_Places_has hZ y m⟩ (notD y hy) ⟨by decide, ct_D_refuse hZ 1 _⟩ ⟨rfl, rfl⟩) trivial (by decide) (Nat.le_of_ble_eq_true rfl), ab_Kc hZ (tk_M_far_0_0 ⟨by decide, ct_M_isPlace hZ x _⟩ (hasM x hx) ⟨by decide, ct_M_isPlace hZ y _⟩ (notM y hy) ⟨by decide, ct_M_refuse hZ 1 _⟩ ⟨rfl, rfl⟩) trivial (by decide) (Nat.le_of_ble_eq_true rfl), iv_refused hI 1⟩
  · exact ⟨-1, _, _, ab_Kc hZ (tk_D_far_0_3 ⟨by decide, ct_Places_has hZ x m⟩ (notD x hx) ⟨by decide, ct_D_refuse hZ 1 _⟩ ⟨rfl, rfl⟩) trivial (by decide) (Nat.le_of_ble_eq_true rfl), ab_Kc hZ (tk_M_far_0_3 ⟨by decide, ct_M_isPlace hZ x _⟩ (notM x hx) ⟨by decide, ct_M_refuse hZ 1 _⟩ ⟨rfl, rfl⟩) trivial (by decide) (Nat.le_of_ble_eq_true rfl), iv_refused hI 1⟩
