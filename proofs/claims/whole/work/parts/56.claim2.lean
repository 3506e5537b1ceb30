/-! ===== claim: both ===== -/
theorem bc_pos {a : Int32} (h1 : 1 ≤ a.toInt) (h2 : a.toInt ≤ 65535) : 1 ≤ (ab_bc a).toInt := by
  have e := nn_of (x := a) (by omega)
  have h := pp_int (n := a.toInt.toNat) (by omega)
  rw [← e] at h
  have hp := pp_pos (n := a.toInt.toNat) (N := 32) (by omega) (by omega)
  have hl := pp_8 a.toInt.toNat 32
  rw [h, nI_toInt (by omega)]
  omega
theorem op_claim {Z : ab_Z} (hZ : ab_okZ Z) (x y a b : Int32) {m : ab_M} (hI : iv_A m) : iv_Op Z 70 131 [.inl (.int x), .inl (.int y), .inl (.int a), .inl (.int b)] m := by
  have hI' := hI
  obtain ⟨nK, nP, nF, nL, nO, h⟩ := hI'
  obtain ⟨hK, hN, hP, hF, hL⟩ := h.D
  have hCC := h.2.2.2.2.2.1
  obtain ⟨f1, f2, f3, a1, a2, a3, a4, a5, a6, a7, a8, ff⟩ := id hF
  obtain ⟨l1, l2, l3, b1, b2, b3, b4, b5, b6, b7, b8, b9, ll⟩ := id hL
  have cFD : (ab_rd m 4 8).toInt = nF := iv_toI f2 (by omega)
  have cFM : (ab_rd m 8 4).toInt = nF := iv_toI f3 (by omega)
  have cLD : (ab_rd m 5 7).toInt = nL := iv_toI l2 (by omega)
  have cLM : (ab_rd m 8 5).toInt = nL := iv_toI l3 (by omega)
  have e5 : (65535 : Int32).toInt = 65535 := rfl
  by_cases hx : 0 ≤ x.toInt ∧ x.toInt < nL
  · have x1 : ¬ ab_b (0 ≤ x.toInt ∧ x.toInt < (ab_rd m 5 7).toInt) = 0 := ab_b_n.mpr (by rw [cLD]; exact hx)
    have x2 : ¬ ab_b (0 ≤ x.toInt ∧ x.toInt < (ab_rd m 8 5).toInt) = 0 := ab_b_n.mpr (by rw [cLM]; exact hx)
    by_cases hy : 0 ≤ y.toInt ∧ y.toInt < nF
    · have y1 : ¬ ab_b (0 ≤ y.toInt ∧ y.toInt < (ab_rd m 4 8).toInt) = 0 := ab_b_n.mpr (by rw [cFD]; exact hy)
      have y2 : ¬ ab_b (0 ≤ y.toInt ∧ y.toInt < (ab_rd m 8 4).toInt) = 0 := ab_b_n.mpr (by rw [cFM]; exact hy)
      obtain ⟨l, hl, rfl⟩ := iv_ix hx (by omega)
      obtain ⟨f, hf, rfl⟩ := iv_ix hy (by omega)
      have lh := ct_Losses_has hZ (nI l) m
      have fh := ct_Finds_has hZ (nI f) m
      by_cases ha : 1 ≤ a.toInt ∧ a.toInt ≤ 65535
      · have na : ¬ a = 0 := fun z => by rw [ab_eqI, ab_t0] at z; omega
        have am := ct_D_areMarks hZ a m
        have am1 : ¬ ab_b (0 ≤ a.toInt ∧ a.toInt ≤ 65535) = 0 := ab_b_n.mpr (by omega)
        have ma1 : ¬ a < 1 := by rw [ab_ltI, ab_t1]; omega
        have ma2 : ¬ 65535 < a := by rw [ab_ltI, e5]; omega
        by_cases hb : b &&& (a ^^^ -1) = 0
        · have il := ab_in (n := l) (N := 24) (by omega) (by decide)
          have ifi := ab_in (n := f) (N := 24) (by omega) (by decide)
          have xl := ab_cl (n := l) (by omega)
          have xf := ab_cl (n := f) (by omega)
          have hlf : l * 24 + f = 24 * l + f := by omega
          have hin : vp_in (24 * nI l + nI f) 576 := by rw [nI_24 (by omega) (by omega)]; exact ab_in (by omega) (by decide)
          have hci : (24 * nI l + nI f).toNatClampNeg = 24 * l + f := by rw [nI_24 (by omega) (by omega), ab_cl (by omega)]
          by_cases q1 : ab_rd m 9 (24 * l + f) = -1
          · have q2 : ab_rd m 68 (24 * l + f) = 0 := by
              rcases hCC (24 * l + f) (by omega) with ⟨z, -⟩ | ⟨z1, z2, z3⟩
              · exact z
              · rw [q1] at z2
                rw [← z2, ab_m1] at z3
                omega
            have q1' : ab_rd m 9 ((nI l).toNatClampNeg * 24 + (nI f).toNatClampNeg) = -1 := by rw [xl, xf, hlf]; exact q1
            by_cases q3 : ab_rd m 67 l = 0
            · have q3' : ab_rd m 33 (nI l).toNatClampNeg = 0 := by rw [xl, b7]; exact q3
              by_cases q4 : ab_rd m 58 f = 0
              · have hk := ct_Finds_isKept hZ (f := f) (by omega) m
                have q4' : ¬ ab_b (ab_rd m 24 f = 0) = 0 := ab_b_n.mpr (by rw [a6]; exact q4)
                obtain ⟨r, m1, hC, ⟨v, hr, hv⟩, hch, hP1⟩ := ct_D_pairCost hZ hK hN hP hF hL hl hf
                rw [hr] at hC
                have h1 := h.ch hch hP1
                have eM : ab_rd m1 8 = ab_rd m 8 := hch.rd (by decide) (by decide)
                rw [show ab_rd m 8 5 = ab_rd m1 8 5 from (congrFun eM _).symm] at x2
                rw [show ab_rd m 8 4 = ab_rd m1 8 4 from (congrFun eM _).symm] at y2
                have k2 : ab_rd m1 68 (24 * nI l + nI f).toNatClampNeg = 0 := by rw [hci, hch.rd (p := 68) (by decide) (by decide)]; exact q2
                have k3 : ab_rd m1 67 (nI l).toNatClampNeg = 0 := by rw [xl, hch.rd (p := 67) (by decide) (by decide)]; exact q3
                have k4 : ab_rd m1 58 (nI f).toNatClampNeg = 0 := by rw [xf, hch.rd (p := 58) (by decide) (by decide)]; exact q4
                by_cases q5 : v = -1
                · have sc2 : iv_sc m1 (iv_m0 (ab_wr m1 0 11 6)) := (iv_sc.d m1 6).trans (iv_sc.m0 _)
                  obtain ⟨m3, hC3, hM3, hco⟩ := ct_M_measured hZ (h1.D.sc sc2)
                  obtain ⟨u, hu, eu⟩ := hco m3 (iv_sk.refl _) rfl l f hl hf
                  rw [sc2.cost, hch.cost, ← hv] at eu
                  refine ⟨-1, _, _, ab_Kc hZ (tk_D_claim_0_4 ⟨(by decide : 0 < 40), lh⟩ x1 ⟨(by decide : 0 < 40), fh⟩ y1 na ⟨(by decide : 1 < 40), am⟩ am1 hb il ⟨il, ifi⟩ q1' il q3' ⟨(by decide : 0 < 40), hk⟩ q4' ⟨(by decide : 4 < 40), hC⟩ q5 ⟨(by decide : 0 < 40), ct_D_refuse hZ 6 _⟩ ⟨rfl, rfl⟩) trivial (by decide) (Nat.le_of_ble_eq_true rfl), ab_Kc hZ (tk_M_claim_0_4 ⟨(by decide : 0 < 40), ct_M_isLoss hZ _ _⟩ x2 ⟨(by decide : 0 < 40), ct_M_isFind hZ _ _⟩ y2 ma1 ma2 hb hin k2 il k3 ifi k4 ⟨(by decide : 1 < 40), hC3⟩ ⟨(by decide : 1 < 40), hu⟩ (by rw [dk_m1] at q5; rw [ab_leI, eu, ab_t0]; omega) ⟨(by decide : 0 < 40), ct_M_refuse hZ 6 _⟩ ⟨rfl, rfl⟩) trivial (by decide) (Nat.le_of_ble_eq_true rfl), nK, nP, nF, nL, nO, h1.sc ((sc2.trans hM3.sk.sc).trans (iv_sc.m _ 6 (by decide))) ?_⟩
                  show ab_rd m3 0 11 = 6
                  rw [hM3.rd (p := 0) (by decide)]
                  rfl
                · have h0 : 0 ≤ v.toInt := by
                    have z := q5
                    rw [dk_m1, hv] at z
                    rw [hv]
                    have : -1 ≤ iv_cost m nP l f := by
                      unfold iv_cost ct_sum
                      by_cases c : iv_on (kd_st (ab_rd m 48) (ab_rd m 61 l).toNatClampNeg (ab_rd m 53 f).toNatClampNeg) < 0 ∨ ct_col (fun a b => ¬ ab_rd m 50 (12 * a + b) = 0) (ab_rd m 62 l) (ab_rd m 54 f) < 0 ∨ ds_far (iv_w m nP) (ab_rd m 64 l).toNatClampNeg (ab_rd m 56 f).toNatClampNeg < 0 ∨ (ab_rd m 57 f).toInt - (ab_rd m 65 l).toInt < ds_far (iv_w m nP) (ab_rd m 64 l).toNatClampNeg (ab_rd m 56 f).toNatClampNeg
                      · rw [if_pos c]
                        omega
                      · rw [if_neg c]
                        have := ab_bc_le (ab_rd m 63 l &&& (ab_rd m 55 f ^^^ -1))
                        omega
                    omega
                  have eD : ab_rd m1 21 (nI f).toNatClampNeg = ab_rd m 55 f := by rw [xf, hch.rd (p := 21) (by decide) (by decide), a3]
                  -- what is left when v is noted
                  have fin : ∀ (w : Int32) (m3 : ab_M), 0 ≤ w.toInt → wy_M (iv_m0 (ab_wr (ab_wr m1 9 (24 * l + f) w) 0 11 0)) m3 → iv_A (ab_wr (ab_wr m3 68 (24 * l + f) 1) 69 (24 * l + f) w) := by
                    intro w m3 hw hM3
                    have hs : iv_sc (ab_wr m1 9 (24 * l + f) w) m3 := ((iv_sc.d _ 0).trans (iv_sc.m0 _)).trans hM3.sk.sc
                    refine ⟨nK, nP, nF, nL, nO, iv_claimed h1 (fun p c1 c2 c3 c4 c5 c6 => ?_) (fun p => hs.2.1 p) (fun j hj => hs.2.2.1 j hj) (fun j hj => hs.2.2.2 j hj) ?_ (iv_C_one h1.2.2.2.2.2.1 hw (i := 24 * l + f) (fun j => ?_) (fun j => ?_) (fun j => ?_))⟩
                    · exact (ab_wr_n _ _ _ c6).trans ((ab_wr_n _ _ _ c5).trans ((hs.1 p c1 c2 c3).trans (ab_wr_n _ _ _ c4)))
                    · show ab_rd m3 0 11 = ab_rd m3 8 0
                      rw [hM3.rd (p := 0) (by decide), hM3.rd (p := 8) (by decide)]
                      rfl
                    · show ab_rd m3 9 j = _
                      rw [hM3.rd (p := 9) (by decide)]
                      exact ab_rd_p m1 9 (24 * l + f) j w
                    · show ab_rd (ab_wr m3 68 (24 * l + f) 1) 68 j = _
                      rw [ab_rd_p, hM3.rd (p := 68) (by decide)]
                      rfl
                    · rw [ab_rd_p]
                      show (if j = 24 * l + f then w else ab_rd m3 69 j) = _
                      rw [hM3.rd (p := 69) (by decide)]
                      rfl
                  have D1 : ∀ w : Int32, iv_D (iv_m0 (ab_wr (ab_wr m1 9 (24 * l + f) w) 0 11 0)) nK nP nF nL := fun w => ⟨h1.1.cong rfl rfl rfl rfl rfl rfl rfl, h1.2.1.cong rfl rfl, h1.2.2.1.cong rfl rfl rfl rfl rfl rfl, h1.2.2.2.1.cong rfl rfl rfl rfl rfl rfl rfl rfl rfl rfl rfl rfl rfl rfl rfl rfl rfl rfl, h1.2.2.2.2.1.cong rfl rfl rfl rfl rfl rfl rfl rfl rfl rfl rfl rfl rfl rfl rfl rfl⟩
                  have C1 : ∀ w : Int32, iv_cost (iv_m0 (ab_wr (ab_wr m1 9 (24 * l + f) w) 0 11 0)) nP l f = v.toInt := fun w => by
                    rw [hv, ← hch.cost]
                    exact iv_cost_cong nP l f rfl rfl rfl rfl rfl rfl rfl rfl rfl rfl rfl rfl rfl rfl
                  by_cases q6 : ab_rd m 55 f &&& a = b
                  · obtain ⟨m3, hC3, hM3, hco⟩ := ct_M_measured hZ (D1 (ab_bc a))
                    obtain ⟨u, hu, eu⟩ := hco m3 (iv_sk.refl _) rfl l f hl hf
                    rw [C1] at eu
                    have em : ab_rd m3 55 (nI f).toNatClampNeg = ab_rd m 55 f := by
                      rw [xf, hM3.rd (p := 55) (by decide), ← hch.rd (p := 55) (by decide) (by decide)]
                      rfl
                    have hbp := bc_pos ha.1 ha.2
                    have hD : ab_C Z 40 70 [.inl (.ref 0), .inl (.int (nI l)), .inl (.int (nI f)), .inl (.int a), .inl (.int b)] m (some 1) (ab_wr (ab_wr m1 9 (24 * l + f) (ab_bc a)) 0 11 0) := by
                      refine ab_Kc hZ (tk_D_claim_0_5 ⟨(by decide : 0 < 40), lh⟩ x1 ⟨(by decide : 0 < 40), fh⟩ y1 na ⟨(by decide : 1 < 40), am⟩ am1 hb il ⟨il, ifi⟩ q1' il q3' ⟨(by decide : 0 < 40), hk⟩ q4' ⟨(by decide : 4 < 40), hC⟩ q5 ifi (by rw [eD]; exact q6) il (by decide) ⟨(by decide : 0 < 40), ct_J_bitCount hZ a m1⟩ ⟨il, ifi⟩ (by decide) ⟨(by decide : 0 < 40), ct_D_answer hZ 1 _⟩ ⟨rfl, ?_⟩) trivial (by decide) (Nat.le_of_ble_eq_true rfl)
                      rw [xl, xf, hlf]
                    refine ⟨1, _, _, hD, ab_Kc hZ (tk_M_claim_0_5 ⟨(by decide : 0 < 40), ct_M_isLoss hZ _ _⟩ x2 ⟨(by decide : 0 < 40), ct_M_isFind hZ _ _⟩ y2 ma1 ma2 hb hin k2 il k3 ifi k4 ⟨(by decide : 1 < 40), hC3⟩ ⟨(by decide : 1 < 40), hu⟩ (by rw [ab_leI, eu, ab_t0]; exact h0) ⟨hin, Or.inr rfl⟩ ifi (by rw [em, Int32.and_comm]; exact q6.symm) ⟨(by decide : 0 < 40), ct_J_bitCount hZ a _⟩ hin hin (by rw [ab_rd_s, ab_leI, ab_t0]; omega) ⟨rfl, rfl⟩) trivial (by decide) (Nat.le_of_ble_eq_true rfl), ?_⟩
                    rw [hci]
                    exact fin _ m3 (by omega) hM3
                  · obtain ⟨m3, hC3, hM3, hco⟩ := ct_M_measured hZ (D1 0)
                    obtain ⟨u, hu, eu⟩ := hco m3 (iv_sk.refl _) rfl l f hl hf
                    rw [C1] at eu
                    have em : ab_rd m3 55 (nI f).toNatClampNeg = ab_rd m 55 f := by
                      rw [xf, hM3.rd (p := 55) (by decide), ← hch.rd (p := 55) (by decide) (by decide)]
                      rfl
                    have hD : ab_C Z 40 70 [.inl (.ref 0), .inl (.int (nI l)), .inl (.int (nI f)), .inl (.int a), .inl (.int b)] m (some 0) (ab_wr (ab_wr m1 9 (24 * l + f) 0) 0 11 0) := by
                      refine ab_Kc hZ (tk_D_claim_0_12 ⟨(by decide : 0 < 40), lh⟩ x1 ⟨(by decide : 0 < 40), fh⟩ y1 na ⟨(by decide : 1 < 40), am⟩ am1 hb il ⟨il, ifi⟩ q1' il q3' ⟨(by decide : 0 < 40), hk⟩ q4' ⟨(by decide : 4 < 40), hC⟩ q5 ifi (by rw [eD]; exact q6) il rfl ⟨il, ifi⟩ rfl ⟨(by decide : 0 < 40), ct_D_answer hZ 0 _⟩ ⟨rfl, ?_⟩) trivial (by decide) (Nat.le_of_ble_eq_true rfl)
                      rw [xl, xf, hlf]
                    refine ⟨0, _, _, hD, ab_Kc hZ (tk_M_claim_0_8 ⟨(by decide : 0 < 40), ct_M_isLoss hZ _ _⟩ x2 ⟨(by decide : 0 < 40), ct_M_isFind hZ _ _⟩ y2 ma1 ma2 hb hin k2 il k3 ifi k4 ⟨(by decide : 1 < 40), hC3⟩ ⟨(by decide : 1 < 40), hu⟩ (by rw [ab_leI, eu, ab_t0]; exact h0) ⟨hin, Or.inr rfl⟩ ifi (by rw [em, Int32.and_comm]; exact fun z => q6 z.symm) hin hin (by rw [ab_rd_s]; decide) ⟨rfl, rfl⟩) trivial (by decide) (Nat.le_of_ble_eq_true rfl), ?_⟩
                    rw [hci]
                    exact fin 0 m3 (by decide) hM3
              · refine ⟨-1, _, _, ab_Kc hZ (tk_D_claim_0_3 ⟨(by decide : 0 < 40), lh⟩ x1 ⟨(by decide : 0 < 40), fh⟩ y1 na ⟨(by decide : 1 < 40), am⟩ am1 hb il ⟨il, ifi⟩ q1' il q3' ⟨(by decide : 0 < 40), ct_Finds_isKept hZ (f := f) (by omega) m⟩ (ab_b_0.mpr (by rw [a6]; exact q4)) ⟨(by decide : 0 < 40), ct_D_refuse hZ 5 _⟩ ⟨rfl, rfl⟩) trivial (by decide) (Nat.le_of_ble_eq_true rfl), ab_Kc hZ (tk_M_claim_0_3 ⟨(by decide : 0 < 40), ct_M_isLoss hZ _ _⟩ x2 ⟨(by decide : 0 < 40), ct_M_isFind hZ _ _⟩ y2 ma1 ma2 hb hin (by rw [hci]; exact q2) il (by rw [xl]; exact q3) ifi (by rw [xf]; exact q4) ⟨(by decide : 0 < 40), ct_M_refuse hZ 5 _⟩ ⟨rfl, rfl⟩) trivial (by decide) (Nat.le_of_ble_eq_true rfl), iv_refused hI 5⟩
            · refine ⟨-1, _, _, ab_Kc hZ (tk_D_claim_0_13 ⟨(by decide : 0 < 40), lh⟩ x1 ⟨(by decide : 0 < 40), fh⟩ y1 na ⟨(by decide : 1 < 40), am⟩ am1 hb il ⟨il, ifi⟩ q1' il (by rw [xl, b7]; exact q3) ⟨(by decide : 0 < 40), ct_D_refuse hZ 5 _⟩ ⟨rfl, rfl⟩) trivial (by decide) (Nat.le_of_ble_eq_true rfl), ab_Kc hZ (tk_M_claim_0_9 ⟨(by decide : 0 < 40), ct_M_isLoss hZ _ _⟩ x2 ⟨(by decide : 0 < 40), ct_M_isFind hZ _ _⟩ y2 ma1 ma2 hb hin (by rw [hci]; exact q2) il (by rw [xl]; exact q3) ⟨(by decide : 0 < 40), ct_M_refuse hZ 5 _⟩ ⟨rfl, rfl⟩) trivial (by decide) (Nat.le_of_ble_eq_true rfl), iv_refused hI 5⟩
          · have q2 : ¬ ab_rd m 68 (24 * l + f) = 0 := by
              rcases hCC (24 * l + f) (by omega) with ⟨-, -, z⟩ | ⟨z1, -⟩
              · exact absurd z q1
              · rw [z1]
                decide
            refine ⟨-1, _, _, ab_Kc hZ (tk_D_claim_0_2 ⟨(by decide : 0 < 40), lh⟩ x1 ⟨(by decide : 0 < 40), fh⟩ y1 na ⟨(by decide : 1 < 40), am⟩ am1 hb il ⟨il, ifi⟩ (by rw [xl, xf, hlf]; exact q1) ⟨(by decide : 0 < 40), ct_D_refuse hZ 4 _⟩ ⟨rfl, rfl⟩) trivial (by decide) (Nat.le_of_ble_eq_true rfl), ab_Kc hZ (tk_M_claim_0_2 ⟨(by decide : 0 < 40), ct_M_isLoss hZ _ _⟩ x2 ⟨(by decide : 0 < 40), ct_M_isFind hZ _ _⟩ y2 ma1 ma2 hb hin (by rw [hci]; exact q2) ⟨(by decide : 0 < 40), ct_M_refuse hZ 4 _⟩ ⟨rfl, rfl⟩) trivial (by decide) (Nat.le_of_ble_eq_true rfl), iv_refused hI 4⟩
        · exact ⟨-1, _, _, ab_Kc hZ (tk_D_claim_0_1 ⟨(by decide : 0 < 40), lh⟩ x1 ⟨(by decide : 0 < 40), fh⟩ y1 na ⟨(by decide : 1 < 40), am⟩ am1 hb ⟨(by decide : 0 < 40), ct_D_refuse hZ 2 _⟩ ⟨rfl, rfl⟩) trivial (by decide) (Nat.le_of_ble_eq_true rfl), ab_Kc hZ (tk_M_claim_0_1 ⟨(by decide : 0 < 40), ct_M_isLoss hZ _ _⟩ x2 ⟨(by decide : 0 < 40), ct_M_isFind hZ _ _⟩ y2 ma1 ma2 hb ⟨(by decide : 0 < 40), ct_M_refuse hZ 2 _⟩ ⟨rfl, rfl⟩) trivial (by decide) (Nat.le_of_ble_eq_true rfl), iv_refused hI 2⟩
      · refine ⟨-1, _, _, (?_ : ab_C Z 40 70 [.inl (.ref 0), .inl (.int (nI l)), .inl (.int (nI f)), .inl (.int a), .inl (.int b)] m (some (-1)) (ab_wr m 0 11 2)), (?_ : ab_C Z 40 131 [.inl (.ref 8), .inl (.int (nI l)), .inl (.int (nI f)), .inl (.int a), .inl (.int b)] (ab_wr m 0 11 2) (some (-1)) (ab_wr (iv_m0 (ab_wr m 0 11 2)) 8 0 2)), iv_refused hI 2⟩
        · refine ab_Kc hZ ?_ trivial (by decide) (Nat.le_of_ble_eq_true rfl)
          by_cases z : a = 0
          · exact tk_D_claim_0_15 ⟨(by decide : 0 < 40), lh⟩ x1 ⟨(by decide : 0 < 40), fh⟩ y1 z ⟨(by decide : 0 < 40), ct_D_refuse hZ 2 _⟩ ⟨rfl, rfl⟩
          · refine tk_D_claim_0_14 ⟨(by decide : 0 < 40), lh⟩ x1 ⟨(by decide : 0 < 40), fh⟩ y1 z ⟨(by decide : 1 < 40), ct_D_areMarks hZ a m⟩ (ab_b_0.mpr ?_) ⟨(by decide : 0 < 40), ct_D_refuse hZ 2 _⟩ ⟨rfl, rfl⟩
            rw [ab_eqI, ab_t0] at z
            omega
        · refine ab_Kc hZ ?_ trivial (by decide) (Nat.le_of_ble_eq_true rfl)
          by_cases z : a < 1
          · exact tk_M_claim_0_11 ⟨(by decide : 0 < 40), ct_M_isLoss hZ _ _⟩ x2 ⟨(by decide : 0 < 40), ct_M_isFind hZ _ _⟩ y2 z ⟨(by decide : 0 < 40), ct_M_refuse hZ 2 _⟩ ⟨rfl, rfl⟩
          · refine tk_M_claim_0_10 ⟨(by decide : 0 < 40), ct_M_isLoss hZ _ _⟩ x2 ⟨(by decide : 0 < 40), ct_M_isFind hZ _ _⟩ y2 z ?_ ⟨(by decide : 0 < 40), ct_M_refuse hZ 2 _⟩ ⟨rfl, rfl⟩
            rw [ab_ltI, ab_t1] at z
            rw [ab_ltI, e5]
            omega
    · exact ⟨-1, _, _, ab_Kc hZ (tk_D_claim_0_0 ⟨by decide, ct_Losses_has hZ x m⟩ x1 ⟨by decide, ct_Finds_has hZ y m⟩ (ab_b_0.mpr (by rw [cFD]; exact hy)) ⟨by decide, ct_D_refuse hZ 1 _⟩ ⟨rfl, rfl⟩) trivial (by decide) (Nat.le_of_ble_eq_true rfl), ab_Kc hZ (tk_M_claim_0_0 ⟨by decide, ct_M_isLoss hZ x _⟩ x2 ⟨by decide, ct_M_isFind hZ y _⟩ (ab_b_0.mpr (show ¬ (0 ≤ y.toInt ∧ y.toInt < (ab_rd m 8 4).toInt) by rw [cFM]; exact hy)) ⟨by decide, ct_M_refuse hZ 1 _⟩ ⟨rfl, rfl⟩) trivial (by decide) (Nat.le_of_ble_eq_true rfl), iv_refused hI 1⟩
  · exact ⟨-1, _, _, ab_Kc hZ (tk_D_claim_0_16 ⟨by decide, ct_Losses_has hZ x m⟩ (ab_b_0.mpr (by rw [cLD]; exact hx)) ⟨by decide, ct_D_refuse hZ 1 _⟩ ⟨rfl, rfl⟩) trivial (by decide) (Nat.le_of_ble_eq_true rfl), ab_Kc hZ (tk_M_claim_0_12 ⟨by decide, ct_M_isLoss hZ x _⟩ (ab_b_0.mpr (show ¬ (0 ≤ x.toInt ∧ x.toInt < (ab_rd m 8 5).toInt) by rw [cLM]; exact hx)) ⟨by decide, ct_M_refuse hZ 1 _⟩ ⟨rfl, rfl⟩) trivial (by decide) (Nat.le_of_ble_eq_true rfl), iv_refused hI 1⟩
