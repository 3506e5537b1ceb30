/-! ===== cost, claim ===== -/
/-- what the costs speak of -/
def iv_D (m : ab_M) (nK nP nF nL : Nat) : Prop := iv_K m nK ∧ iv_N m ∧ iv_P m nP ∧ iv_F m nK nP nF ∧ iv_L m nK nP nL
theorem iv_all.D {m : ab_M} {nK nP nF nL nO : Nat} (h : iv_all m nK nP nF nL nO) : iv_D m nK nP nF nL := ⟨h.1, h.2.1, h.2.2.1, h.2.2.2.1, h.2.2.2.2.1⟩
theorem iv_D.sc {m m2 : ab_M} {nK nP nF nL : Nat} (h : iv_D m nK nP nF nL) (g : iv_sc m m2) : iv_D m2 nK nP nF nL := by
  obtain ⟨hK, hN, hP, hF, hL⟩ := h
  obtain ⟨g1, g2, g3, g4⟩ := g
  have q : ∀ p, p ≠ 0 → p ≠ 8 → p ∉ iv_scr → m2.1 p = m.1 p := g1
  refine ⟨?_, ?_, ?_, ?_, ?_⟩
  · exact hK.cong (congrFun (q _ (by decide) (by decide) (by decide)) _) (g4 _ (by decide)) (q _ (by decide) (by decide) (by decide)) (q _ (by decide) (by decide) (by decide)) (q _ (by decide) (by decide) (by decide)) (q _ (by decide) (by decide) (by decide)) (g2 _)
  · exact hN.cong (q _ (by decide) (by decide) (by decide)) (q _ (by decide) (by decide) (by decide))
  · exact hP.cong (congrFun (q _ (by decide) (by decide) (by decide)) _) (g4 _ (by decide)) (q _ (by decide) (by decide) (by decide)) (q _ (by decide) (by decide) (by decide)) (q _ (by decide) (by decide) (by decide)) (q _ (by decide) (by decide) (by decide))
  · exact hF.cong (congrFun (q _ (by decide) (by decide) (by decide)) _) (g4 _ (by decide)) (q _ (by decide) (by decide) (by decide)) (q _ (by decide) (by decide) (by decide)) (q _ (by decide) (by decide) (by decide)) (q _ (by decide) (by decide) (by decide)) (q _ (by decide) (by decide) (by decide)) (q _ (by decide) (by decide) (by decide)) (q _ (by decide) (by decide) (by decide)) (q _ (by decide) (by decide) (by decide)) (q _ (by decide) (by decide) (by decide)) (q _ (by decide) (by decide) (by decide)) (q _ (by decide) (by decide) (by decide)) (q _ (by decide) (by decide) (by decide)) (q _ (by decide) (by decide) (by decide)) (q _ (by decide) (by decide) (by decide)) (q _ (by decide) (by decide) (by decide)) (q _ (by decide) (by decide) (by decide))
  · exact hL.cong (congrFun (q _ (by decide) (by decide) (by decide)) _) (g4 _ (by decide)) (q _ (by decide) (by decide) (by decide)) (q _ (by decide) (by decide) (by decide)) (q _ (by decide) (by decide) (by decide)) (q _ (by decide) (by decide) (by decide)) (q _ (by decide) (by decide) (by decide)) (q _ (by decide) (by decide) (by decide)) (q _ (by decide) (by decide) (by decide)) (q _ (by decide) (by decide) (by decide)) (q _ (by decide) (by decide) (by decide)) (q _ (by decide) (by decide) (by decide)) (q _ (by decide) (by decide) (by decide)) (q _ (by decide) (by decide) (by decide)) (q _ (by decide) (by decide) (by decide)) (q _ (by decide) (by decide) (by decide))
theorem iv_sc.cost {m m2 : ab_M} (g : iv_sc m m2) (nP l f : Nat) : iv_cost m2 nP l f = iv_cost m nP l f := by
  have q : ∀ p, p ≠ 0 → p ≠ 8 → p ∉ iv_scr → m2.1 p = m.1 p := g.1
  exact iv_cost_cong nP l f (q _ (by decide) (by decide) (by decide)) (q _ (by decide) (by decide) (by decide)) (q _ (by decide) (by decide) (by decide)) (q _ (by decide) (by decide) (by decide)) (q _ (by decide) (by decide) (by decide)) (q _ (by decide) (by decide) (by decide)) (q _ (by decide) (by decide) (by decide)) (q _ (by decide) (by decide) (by decide)) (q _ (by decide) (by decide) (by decide)) (q _ (by decide) (by decide) (by decide)) (q _ (by decide) (by decide) (by decide)) (q _ (by decide) (by decide) (by decide)) (q _ (by decide) (by decide) (by decide)) (q _ (by decide) (by decide) (by decide))
theorem iv_ch.cost {m m2 : ab_M} (g : iv_ch m m2) (nP l f : Nat) : iv_cost m2 nP l f = iv_cost m nP l f := by
  have q : ∀ p, p ≠ 17 → p ≠ 18 → m2.1 p = m.1 p := g.1
  exact iv_cost_cong nP l f (q _ (by decide) (by decide)) (q _ (by decide) (by decide)) (q _ (by decide) (by decide)) (q _ (by decide) (by decide)) (q _ (by decide) (by decide)) (q _ (by decide) (by decide)) (q _ (by decide) (by decide)) (q _ (by decide) (by decide)) (q _ (by decide) (by decide)) (q _ (by decide) (by decide)) (q _ (by decide) (by decide)) (q _ (by decide) (by decide)) (q _ (by decide) (by decide)) (q _ (by decide) (by decide))
/-- the reference measures all ways, then every pair -/
theorem ct_M_measured {Z : ab_Z} (hZ : ab_okZ Z) {m : ab_M} {nK nP nF nL : Nat} (h : iv_D m nK nP nF nL) : ∃ m3, ab_C Z 1 106 [.inl (.ref 8)] m none m3 ∧ wy_M m m3 ∧ ∀ m4, iv_sk m3 m4 → ab_rd m4 52 = ab_rd m3 52 → ∀ l f, l < nL → f < nF → ∃ v : Int32, ab_C Z 1 114 [.inl (.ref 8), .inl (.int (nI l)), .inl (.int (nI f))] m4 (some v) m4 ∧ v.toInt = iv_cost m nP l f := by
  obtain ⟨r3, m3, hC3, hr3, hM3, hF3⟩ := ct_M_ways hZ h.2.2.1
  rw [hr3] at hC3
  refine ⟨m3, hC3, hM3, fun m4 h4 e4 l f hl hf => ?_⟩
  have hs : iv_sc m m4 := (hM3.sk.trans h4).sc
  obtain ⟨hK, hN, hP, hF, hL⟩ := h.sc hs
  have ew : iv_w m4 = iv_w m := iv_w_cong (hs.1 _ (by decide) (by decide) (by decide))
  obtain ⟨v, hv, ev⟩ := ct_M_costOf hZ hK hN hP.1 hF hL (fun a b ha hb => by rw [e4, ew]; exact hF3 a b ha hb) hl hf
  exact ⟨v, hv, by rw [ev, hs.cost]⟩
theorem op_cost {Z : ab_Z} (hZ : ab_okZ Z) (x y : Int32) {m : ab_M} (hI : iv_A m) : iv_Op Z 63 115 [.inl (.int x), .inl (.int y)] m := by
  have hI' := hI
  obtain ⟨nK, nP, nF, nL, nO, h⟩ := hI'
  obtain ⟨hK, hN, hP, hF, hL⟩ := h.D
  obtain ⟨f1, f2, f3, -⟩ := id hF
  obtain ⟨l1, l2, l3, -⟩ := id hL
  have cFD : (ab_rd m 4 8).toInt = nF := iv_toI f2 (by omega)
  have cFM : (ab_rd m 8 4).toInt = nF := iv_toI f3 (by omega)
  have cLD : (ab_rd m 5 7).toInt = nL := iv_toI l2 (by omega)
  have cLM : (ab_rd m 8 5).toInt = nL := iv_toI l3 (by omega)
  by_cases hx : 0 ≤ x.toInt ∧ x.toInt < nL
  · have x1 : ¬ ab_b (0 ≤ x.toInt ∧ x.toInt < (ab_rd m 5 7).toInt) = 0 := ab_b_n.mpr (by rw [cLD]; exact hx)
    have x2 : ¬ ab_b (0 ≤ x.toInt ∧ x.toInt < (ab_rd m 8 5).toInt) = 0 := ab_b_n.mpr (by rw [cLM]; exact hx)
    by_cases hy : 0 ≤ y.toInt ∧ y.toInt < nF
    · have y1 : ¬ ab_b (0 ≤ y.toInt ∧ y.toInt < (ab_rd m 4 8).toInt) = 0 := ab_b_n.mpr (by rw [cFD]; exact hy)
      have y2 : ¬ ab_b (0 ≤ y.toInt ∧ y.toInt < (ab_rd m 8 4).toInt) = 0 := ab_b_n.mpr (by rw [cFM]; exact hy)
      obtain ⟨l, hl, rfl⟩ := iv_ix hx (by omega)
      obtain ⟨f, hf, rfl⟩ := iv_ix hy (by omega)
      obtain ⟨r, m1, hC, ⟨v, hr, hv⟩, hch, hP1⟩ := ct_D_pairCost hZ hK hN hP hF hL hl hf
      rw [hr] at hC
      have h1 := h.ch hch hP1
      have eL : ab_rd m1 8 5 = ab_rd m 8 5 := congrFun (hch.1 _ (by decide) (by decide)) _
      have eF : ab_rd m1 8 4 = ab_rd m 8 4 := congrFun (hch.1 _ (by decide) (by decide)) _
      rw [← eL] at x2
      rw [← eF] at y2
      have sc2 : ∀ s, iv_sc m1 (iv_m0 (ab_wr m1 0 11 s)) := fun s => (iv_sc.d m1 s).trans (iv_sc.m0 _)
      by_cases q : v = -1
      · obtain ⟨m3, hC3, hM3, hco⟩ := ct_M_measured hZ (h1.D.sc (sc2 6))
        obtain ⟨u, hu, eu⟩ := hco m3 (iv_sk.refl _) rfl l f hl hf
        rw [(sc2 6).cost, hch.cost, ← hv] at eu
        rw [dk_m1] at q
        refine ⟨-1, _, _, ab_Kc hZ (tk_D_cost_0_1 ⟨(by decide : 0 < 40), ct_Losses_has hZ _ m⟩ x1 ⟨(by decide : 0 < 40), ct_Finds_has hZ _ m⟩ y1 ⟨(by decide : 4 < 40), hC⟩ ((dk_m1 _).mpr q) ⟨(by decide : 0 < 40), ct_D_refuse hZ 6 _⟩ ⟨rfl, rfl⟩) trivial (by decide) (Nat.le_of_ble_eq_true rfl), ab_Kc hZ (tk_M_cost_0_1 ⟨(by decide : 0 < 40), ct_M_isLoss hZ _ _⟩ x2 ⟨(by decide : 0 < 40), ct_M_isFind hZ _ _⟩ y2 ⟨(by decide : 1 < 40), hC3⟩ ⟨(by decide : 1 < 40), hu⟩ (by rw [ab_leI, eu, ab_t0]; omega) ⟨(by decide : 0 < 40), ct_M_refuse hZ 6 _⟩ ⟨rfl, rfl⟩) trivial (by decide) (Nat.le_of_ble_eq_true rfl), nK, nP, nF, nL, nO, h1.sc (((sc2 6).trans hM3.sk.sc).trans (iv_sc.m _ 6 (by decide))) ?_⟩
        show ab_rd m3 0 11 = 6
        rw [hM3.rd (p := 0) (by decide)]
        rfl
      · obtain ⟨m3, hC3, hM3, hco⟩ := ct_M_measured hZ (h1.D.sc (sc2 0))
        obtain ⟨u, hu, eu⟩ := hco m3 (iv_sk.refl _) rfl l f hl hf
        rw [(sc2 0).cost, hch.cost, ← hv] at eu
        have euv : u = v := (ab_eqI _ _).mpr eu
        have h0 : 0 ≤ v.toInt := by
          have z := q
          rw [dk_m1, hv] at z
          rw [hv]
          have : -1 ≤ iv_cost m nP l f := by
            unfold iv_cost ct_sum
            by_cases c : iv_on (kd_st (ab_rd m 48) (ab_rd m 61 l).toNatClampNeg (ab_rd m 53 f).toNatClampNeg) < 0 ∨ ct_col (fun a b => ¬ ab_rd m 50 (12 * a + b) = 0) (ab_rd m 62 l) (ab_rd m 54 f) < 0 ∨ ds_far (iv_w m nP) (ab_rd m 64 l).toNatClampNeg (ab_rd m 56 f).toNatClampNeg < 0 ∨ (ab_rd m 57 f).toInt - (ab_rd m 65 l).toInt < ds_far (iv_w m nP) (ab_rd m 64 l).toNatClampNeg (ab_rd m 56 f).toNatClampNeg
            · rw [if_pos c]
              omega
            · rw [if_neg c]
              have := ab_bc_le (ab_rd m 63 l &&& (ab_rd m 55 f ^^^ -1))
              omega
          omega
        refine ⟨v, _, m3, ab_Kc hZ (tk_D_cost_0_2 ⟨(by decide : 0 < 40), ct_Losses_has hZ _ m⟩ x1 ⟨(by decide : 0 < 40), ct_Finds_has hZ _ m⟩ y1 ⟨(by decide : 4 < 40), hC⟩ q ⟨(by decide : 0 < 40), ct_D_answer hZ v _⟩ ⟨rfl, rfl⟩) trivial (by decide) (Nat.le_of_ble_eq_true rfl), ab_Kc hZ (tk_M_cost_0_2 ⟨(by decide : 0 < 40), ct_M_isLoss hZ _ _⟩ x2 ⟨(by decide : 0 < 40), ct_M_isFind hZ _ _⟩ y2 ⟨(by decide : 1 < 40), hC3⟩ ⟨(by decide : 1 < 40), hu⟩ (by rw [ab_leI, eu, ab_t0]; exact h0) ⟨congrArg some euv, rfl⟩) trivial (by decide) (Nat.le_of_ble_eq_true rfl), nK, nP, nF, nL, nO, h1.sc ((sc2 0).trans hM3.sk.sc) ?_⟩
        rw [hM3.rd (p := 0) (by decide), hM3.rd (p := 8) (by decide)]
        rfl
    · exact ⟨-1, _, _, ab_Kc hZ (tk_D_cost_0_0 ⟨by decide, ct_Losses_has hZ x m⟩ x1 ⟨by decide, ct_Finds_has hZ y m⟩ (ab_b_0.mpr (by rw [cFD]; exact hy)) ⟨by decide, ct_D_refuse hZ 1 _⟩ ⟨rfl, rfl⟩) trivial (by decide) (Nat.le_of_ble_eq_true rfl), ab_Kc hZ (tk_M_cost_0_0 ⟨by decide, ct_M_isLoss hZ x _⟩ x2 ⟨by decide, ct_M_isFind hZ y _⟩ (ab_b_0.mpr (show ¬ (0 ≤ y.toInt ∧ y.toInt < (ab_rd m 8 4).toInt) by rw [cFM]; exact hy)) ⟨by decide, ct_M_refuse hZ 1 _⟩ ⟨rfl, rfl⟩) trivial (by decide) (Nat.le_of_ble_eq_true rfl), iv_refused hI 1⟩
  · exact ⟨-1, _, _, ab_Kc hZ (tk_D_cost_0_3 ⟨by decide, ct_Losses_has hZ x m⟩ (ab_b_0.mpr (by rw [cLD]; exact hx)) ⟨by decide, ct_D_refuse hZ 1 _⟩ ⟨rfl, rfl⟩) trivial (by decide) (Nat.le_of_ble_eq_true rfl), ab_Kc hZ (tk_M_cost_0_3 ⟨by decide, ct_M_isLoss hZ x _⟩ (ab_b_0.mpr (show ¬ (0 ≤ x.toInt ∧ x.toInt < (ab_rd m 8 5).toInt) by rw [cLM]; exact hx)) ⟨by decide, ct_M_refuse hZ 1 _⟩ ⟨rfl, rfl⟩) trivial (by decide) (Nat.le_of_ble_eq_true rfl), iv_refused hI 1⟩
theorem iv_claimed {m m1 : ab_M} {nK nP nF nL nO : Nat} (h : iv_all m nK nP nF nL nO) (g1 : ∀ p, p ≠ 0 → p ≠ 8 → p ∉ iv_scr → p ≠ 9 → p ≠ 68 → p ≠ 69 → m1.1 p = m.1 p) (g2 : ∀ p, m1.2 p = m.2 p) (g3 : ∀ j, j ≠ 11 → m1.1 0 j = m.1 0 j) (g4 : ∀ j, j ∉ [0, 1, 33, 34, 46] → m1.1 8 j = m.1 8 j) (he : ab_rd m1 0 11 = ab_rd m1 8 0) (hC : iv_C m1) : iv_all m1 nK nP nF nL nO := by
  have hs : iv_sc m (fun p => if p = 9 ∨ p = 68 ∨ p = 69 then m.1 p else m1.1 p, m1.2) := by
    refine ⟨fun p a b c => ?_, g2, g3, g4⟩
    show (if p = 9 ∨ p = 68 ∨ p = 69 then m.1 p else m1.1 p) = m.1 p
    by_cases q : p = 9 ∨ p = 68 ∨ p = 69
    · rw [if_pos q]
    · rw [if_neg q]
      exact g1 p a b c (fun z => q (Or.inl z)) (fun z => q (Or.inr (Or.inl z))) (fun z => q (Or.inr (Or.inr z)))
  obtain ⟨hK, hN, hP, hF, hL, -, hS, hB⟩ := h.sc hs he
  exact ⟨hK.cong rfl rfl rfl rfl rfl rfl rfl, hN.cong rfl rfl, hP.cong rfl rfl rfl rfl rfl rfl, hF.cong rfl rfl rfl rfl rfl rfl rfl rfl rfl rfl rfl rfl rfl rfl rfl rfl rfl rfl, hL.cong rfl rfl rfl rfl rfl rfl rfl rfl rfl rfl rfl rfl rfl rfl rfl rfl, hC, hS, hB.cong rfl rfl rfl rfl rfl rfl rfl rfl rfl rfl (fun l f _ _ => iv_cost_cong nP l f rfl rfl rfl rfl rfl rfl rfl rfl rfl rfl rfl rfl rfl rfl)⟩
theorem iv_C_one {m1 m' : ab_M} (h : iv_C m1) {i : Nat} {b : Int32} (hb : 0 ≤ b.toInt) (e1 : ∀ j, ab_rd m' 9 j = if j = i then b else ab_rd m1 9 j) (e2 : ∀ j, ab_rd m' 68 j = if j = i then 1 else ab_rd m1 68 j) (e3 : ∀ j, ab_rd m' 69 j = if j = i then b else ab_rd m1 69 j) : iv_C m' := by
  intro j hj
  rw [e1, e2, e3]
  by_cases q : j = i
  · rw [if_pos q, if_pos q, if_pos q]
    exact Or.inr ⟨rfl, rfl, hb⟩
  · rw [if_neg q, if_neg q, if_neg q]
    exact h j hj
