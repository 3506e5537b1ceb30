/-! ===== hand: both ===== -/
theorem iv_handed {m : ab_M} {nK nP nF nL nO : Nat} (h : iv_all m nK nP nF nL nO) {l f : Nat} (hl : l < nL) (hf : f < nF) : iv_A (hd_m (ab_wr (iv_m0 (ab_wr (ab_wr (ab_wr (hd_m m 24 25 (ab_rd m 26) f nF (nI l)) 33 l 1) 0 14 1) 0 11 0)) 67 l 1) 58 59 (ab_rd m 60) f nF (nI l)) := by
  obtain ⟨hK, hN, hP, hF, hL, hC, ⟨s1, s2, s3, s4, s5, s6, s7, s8, s9⟩, hB⟩ := h
  refine ⟨nK, nP, nF, nL, nO, hK.cong rfl rfl rfl rfl rfl rfl rfl, hN.cong rfl rfl, hP.cong rfl rfl rfl rfl rfl rfl, ?_, ?_, hC.cong rfl rfl rfl, ⟨rfl, s2, s3, s4, s5, s6, s7, s8, s9⟩, iv_B.old rfl⟩
  · refine iv_handF hF (f := f) (l := nI l) (fun j => ?_) (fun j => ?_) (fun j => ?_) (fun j => ?_) (fun p hp => ?_) rfl
    · exact hd_p m (p := 24) (q := 25) (ab_rd m 26) f nF (nI l) (by decide) j
    · exact hd_q m (p := 24) (q := 25) (ab_rd m 26) f nF (nI l) (by decide) j
    · exact hd_p (ab_wr (iv_m0 (ab_wr (ab_wr (ab_wr (hd_m m 24 25 (ab_rd m 26) f nF (nI l)) 33 l 1) 0 14 1) 0 11 0)) 67 l 1) (ab_rd m 60) f nF (nI l) (by decide) j
    · exact hd_q (ab_wr (iv_m0 (ab_wr (ab_wr (ab_wr (hd_m m 24 25 (ab_rd m 26) f nF (nI l)) 33 l 1) 0 14 1) 0 11 0)) 67 l 1) (ab_rd m 60) f nF (nI l) (by decide) j
    · simp only [List.mem_cons, List.not_mem_nil, or_false] at hp
      rcases hp with rfl | rfl | rfl | rfl | rfl | rfl | rfl | rfl | rfl | rfl | rfl | rfl | rfl <;> rfl
  · obtain ⟨g1, g2, g3, a1, a2, a3, a4, a5, a6, a7, a8, a9, g⟩ := hL
    refine ⟨g1, g2, g3, a1, a2, a3, a4, a5, a6, fun j => ?_, fun j => ?_, fun j hj => ?_, g⟩
    · show ab_rd (ab_wr m 33 l 1) 33 j = ab_rd (ab_wr m 67 l 1) 67 j
      rw [ab_rd_p, ab_rd_p, a7]
    · show ab_zk (ab_rd (ab_wr m 67 l 1) 67 j)
      rw [ab_rd_p]
      by_cases e : j = l
      · rw [if_pos e]; exact Or.inr rfl
      · rw [if_neg e]; exact a8 j
    · show ab_rd (ab_wr m 67 l 1) 67 j = 0
      rw [ab_rd_p, if_neg (by omega)]
      exact a9 j hj
theorem op_hand {Z : ab_Z} (hZ : ab_okZ Z) (x y : Int32) {m : ab_M} (hI : iv_A m) : iv_Op Z 71 132 [.inl (.int x), .inl (.int y)] m := by
  have hI' := hI
  obtain ⟨nK, nP, nF, nL, nO, h⟩ := hI'
  have hF := h.2.2.2.1
  have hL := h.2.2.2.2.1
  have hC := h.2.2.2.2.2.1
  obtain ⟨g1, g2, g3, a1, a2, a3, a4, a5, a6, a7, a8, g⟩ := id hF
  obtain ⟨k1, k2, k3, b1, b2, b3, b4, b5, b6, b7, b8, b9, k⟩ := id hL
  have cD : (ab_rd m 4 8).toInt = nF := iv_toI g2 (by omega)
  have cM : (ab_rd m 8 4).toInt = nF := iv_toI g3 (by omega)
  have lD : (ab_rd m 5 7).toInt = nL := iv_toI k2 (by omega)
  have lM : (ab_rd m 8 5).toInt = nL := iv_toI k3 (by omega)
  by_cases hx : 0 ≤ x.toInt ∧ x.toInt < nL
  · have x1 : ¬ ab_b (0 ≤ x.toInt ∧ x.toInt < (ab_rd m 5 7).toInt) = 0 := ab_b_n.mpr (by rw [lD]; exact hx)
    have x2 : ¬ ab_b (0 ≤ x.toInt ∧ x.toInt < (ab_rd m 8 5).toInt) = 0 := ab_b_n.mpr (by rw [lM]; exact hx)
    by_cases hy : 0 ≤ y.toInt ∧ y.toInt < nF
    · have y1 : ¬ ab_b (0 ≤ y.toInt ∧ y.toInt < (ab_rd m 4 8).toInt) = 0 := ab_b_n.mpr (by rw [cD]; exact hy)
      have y2 : ¬ ab_b (0 ≤ y.toInt ∧ y.toInt < (ab_rd m 8 4).toInt) = 0 := ab_b_n.mpr (by rw [cM]; exact hy)
      obtain ⟨l, hl, rfl⟩ := iv_ix hx (by omega)
      obtain ⟨f, hf, rfl⟩ := iv_ix hy (by omega)
      have hil := ab_in (n := l) (N := 24) (by omega) (by decide)
      have hif := ab_in (n := f) (N := 24) (by omega) (by decide)
      have hcl := ab_cl (n := l) (by omega)
      have hcf := ab_cl (n := f) (by omega)
      have c1 : 24 * nI l + nI f = nI (24 * l + f) := nI_24 (by omega) (by omega)
      have hin : vp_in (24 * nI l + nI f) 576 := by rw [c1]; exact ab_in (by omega) (by decide)
      have hcc : (24 * nI l + nI f).toNatClampNeg = 24 * l + f := by rw [c1, ab_cl (by omega)]
      have hix : ∀ j, j * 24 + f = 24 * j + f := fun j => by omega
      by_cases hh : ab_rd m 67 l = 0
      · have hhD : ab_rd m 33 (nI l).toNatClampNeg = 0 := by rw [hcl, b7]; exact hh
        have hhM : ab_rd m 67 (nI l).toNatClampNeg = 0 := by rw [hcl]; exact hh
        have hkD := ct_Finds_isKept hZ (f := f) (by omega) m
        by_cases hs : ab_rd m 58 f = 0
        · have hsD : ab_rd m 24 f = 0 := (a6 f).trans hs
          have hsM : ab_rd m 58 (nI f).toNatClampNeg = 0 := by rw [hcf]; exact hs
          have hri : (ab_rd m 69 (24 * l + f) = 0 ∧ ¬ 1 ≤ ab_rd m 9 (l * 24 + f)) ∨ (¬ ab_rd m 69 (24 * l + f) = 0 ∧ 1 ≤ ab_rd m 9 (l * 24 + f) ∧ ab_rd m 9 (l * 24 + f) = ab_rd m 69 (24 * l + f) ∧ 1 ≤ (ab_rd m 69 (24 * l + f)).toInt) := by
            rw [hix]
            rcases hC (24 * l + f) (by omega) with ⟨-, p2, p3⟩ | ⟨-, p2, p3⟩
            · exact Or.inl ⟨p2, by rw [p3]; decide⟩
            · rw [p2]
              by_cases z : ab_rd m 69 (24 * l + f) = 0
              · exact Or.inl ⟨z, by rw [z]; decide⟩
              · have z2 : (ab_rd m 69 (24 * l + f)).toInt ≠ 0 := fun q => z (by rw [ab_eqI, q, ab_t0])
                exact Or.inr ⟨z, by rw [ab_leI, ab_t1]; omega, rfl, by omega⟩
          rcases hri with ⟨r1, r2⟩ | ⟨r1, r2, r3, r4⟩
          · exact ⟨0, _, _, ab_Kc hZ (tk_D_hand_0_2 ⟨by decide, ct_Losses_has hZ _ m⟩ x1 ⟨by decide, ct_Finds_has hZ _ m⟩ y1 hil hhD ⟨by decide, hkD⟩ (ab_b_n.mpr hsD) hil ⟨hil, hif⟩ (by rw [hcl, hcf]; exact r2) ⟨by decide, ct_D_deny hZ 7 _⟩ ⟨rfl, rfl⟩) (Or.inl rfl) (by decide) (Nat.le_of_ble_eq_true rfl), ab_Kc hZ (tk_M_hand_0_2 ⟨by decide, ct_M_isLoss hZ _ _⟩ x2 ⟨by decide, ct_M_isFind hZ _ _⟩ y2 hil hhM hif hsM hin (by rw [hcc]; exact r1) ⟨by decide, ct_M_no hZ 7 _⟩ ⟨rfl, rfl⟩) (Or.inl rfl) (by decide) (Nat.le_of_ble_eq_true rfl), iv_refused hI 7⟩
          · have hrv := ct_D_hasRival hZ (l := l) (f := f) (m := m) (by omega) (by omega) k1 k2
            have heq : hd_rv m nL l f ↔ hd_rm m nL l f (ab_rd m 69 (24 * l + f)) := by
              have key : ∀ j, j < nL → (ab_rd m 9 (j * 24 + f) < ab_rd m 9 (l * 24 + f) ↔ ab_rd m 69 (24 * j + f) < ab_rd m 69 (24 * l + f)) := by
                intro j hj
                rw [r3, hix j]
                rcases hC (24 * j + f) (by omega) with ⟨-, p2, p3⟩ | ⟨-, p2, p3⟩
                · rw [p2, p3, ab_ltI, ab_ltI, ab_m1, ab_t0]
                  omega
                · rw [p2]
              constructor
              · rintro ⟨j, q1, q2, q3, q4⟩
                exact ⟨j, q1, q2, (b7 j).symm.trans q3, fun z => q4 ((key j q1).mpr z)⟩
              · rintro ⟨j, q1, q2, q3, q4⟩
                exact ⟨j, q1, q2, (b7 j).trans q3, fun z => q4 ((key j q1).mp z)⟩
            have hMT := fun (M1 : ab_M) (e1 : ab_rd M1 8 5 = nI nL) (e2 : ab_rd M1 8 4 = nI nF) => cl_M_hand1 hZ (f := f) (l := l) (x3 := ab_rd m 69 (24 * l + f)) (m := M1) (by omega) (by omega) k1 g1 e1 e2 nL 0 (by omega) (fun j hj => absurd hj (by omega))
            rcases Classical.em (hd_rv m nL l f) with hr | hr
            · have hD : ab_C Z 40 71 [.inl (.ref 0), .inl (.int (nI l)), .inl (.int (nI f))] m (some 0) (ab_wr m 0 11 8) := ab_Kc hZ (tk_D_hand_0_3 ⟨by decide, ct_Losses_has hZ _ m⟩ x1 ⟨by decide, ct_Finds_has hZ _ m⟩ y1 hil hhD ⟨by decide, hkD⟩ (ab_b_n.mpr hsD) hil ⟨hil, hif⟩ (by rw [hcl, hcf]; exact r2) ⟨by decide, hrv.1 hr⟩ (by decide) ⟨by decide, ct_D_deny hZ 8 _⟩ ⟨rfl, rfl⟩) (Or.inl rfl) (by decide) (Nat.le_of_ble_eq_true rfl)
              refine ⟨0, _, _, hD, ab_Kc hZ (tk_M_hand_0_3 ⟨by decide, ct_M_isLoss hZ _ _⟩ x2 ⟨by decide, ct_M_isFind hZ _ _⟩ y2 hil hhM hif hsM hin (by rw [hcc]; exact r1) ?_) (Or.inl rfl) (by decide) (Nat.le_of_ble_eq_true rfl), iv_refused hI 8⟩
              rw [hcc]
              refine (hMT (iv_m0 (ab_wr m 0 11 8)) k3 g3).mono (fun r m9 q => ?_)
              rcases q with ⟨-, q1, q2⟩ | ⟨q1, -⟩
              · exact ⟨q1, q2⟩
              · exact absurd (heq.mp hr) q1
            · have hD : ab_C Z 40 71 [.inl (.ref 0), .inl (.int (nI l)), .inl (.int (nI f))] m (some 1) (ab_wr (ab_wr (ab_wr (hd_m m 24 25 (ab_rd m 26) f nF (nI l)) 33 l 1) 0 14 1) 0 11 0) := by
                refine ab_Kc hZ (tk_D_hand_0_4 ⟨by decide, ct_Losses_has hZ _ m⟩ x1 ⟨by decide, ct_Finds_has hZ _ m⟩ y1 hil hhD ⟨by decide, hkD⟩ (ab_b_n.mpr hsD) hil ⟨hil, hif⟩ (by rw [hcl, hcf]; exact r2) ⟨by decide, hrv.2 hr⟩ rfl ⟨by decide, ct_Finds_handBag hZ (by omega) g1 g2⟩ ⟨hil, Or.inr rfl⟩ (Or.inr rfl) ⟨by decide, ct_D_grant hZ _⟩ ⟨rfl, ?_⟩) (Or.inr rfl) (by decide) (Nat.le_of_ble_eq_true rfl)
                rw [hcl]
              refine ⟨1, _, _, hD, ab_Kc hZ (tk_M_hand_0_3 ⟨by decide, ct_M_isLoss hZ _ _⟩ x2 ⟨by decide, ct_M_isFind hZ _ _⟩ y2 hil hhM hif hsM hin (by rw [hcc]; exact r1) ?_) (Or.inr rfl) (by decide) (Nat.le_of_ble_eq_true rfl), iv_handed h hl hf⟩
              rw [hcc]
              refine (hMT (iv_m0 (ab_wr (ab_wr (ab_wr (hd_m m 24 25 (ab_rd m 26) f nF (nI l)) 33 l 1) 0 14 1) 0 11 0)) k3 g3).mono (fun r m9 q => ?_)
              rcases q with ⟨q1, -⟩ | ⟨-, q1, q2⟩
              · exact absurd (heq.mpr q1) hr
              · exact ⟨q1, q2⟩
        · have hsD : ¬ ab_rd m 24 f = 0 := fun z => hs ((a6 f).symm.trans z)
          exact ⟨0, _, _, ab_Kc hZ (tk_D_hand_0_1 ⟨by decide, ct_Losses_has hZ _ m⟩ x1 ⟨by decide, ct_Finds_has hZ _ m⟩ y1 hil hhD ⟨by decide, hkD⟩ (ab_b_0.mpr hsD) ⟨by decide, ct_D_deny hZ 5 _⟩ ⟨rfl, rfl⟩) (Or.inl rfl) (by decide) (Nat.le_of_ble_eq_true rfl), ab_Kc hZ (tk_M_hand_0_1 ⟨by decide, ct_M_isLoss hZ _ _⟩ x2 ⟨by decide, ct_M_isFind hZ _ _⟩ y2 hil hhM hif (by rw [hcf]; exact hs) ⟨by decide, ct_M_no hZ 5 _⟩ ⟨rfl, rfl⟩) (Or.inl rfl) (by decide) (Nat.le_of_ble_eq_true rfl), iv_refused hI 5⟩
      · exact ⟨0, _, _, ab_Kc hZ (tk_D_hand_0_5 ⟨by decide, ct_Losses_has hZ _ m⟩ x1 ⟨by decide, ct_Finds_has hZ _ m⟩ y1 hil (by rw [hcl, b7]; exact hh) ⟨by decide, ct_D_deny hZ 5 _⟩ ⟨rfl, rfl⟩) (Or.inl rfl) (by decide) (Nat.le_of_ble_eq_true rfl), ab_Kc hZ (tk_M_hand_0_4 ⟨by decide, ct_M_isLoss hZ _ _⟩ x2 ⟨by decide, ct_M_isFind hZ _ _⟩ y2 hil (by rw [hcl]; exact hh) ⟨by decide, ct_M_no hZ 5 _⟩ ⟨rfl, rfl⟩) (Or.inl rfl) (by decide) (Nat.le_of_ble_eq_true rfl), iv_refused hI 5⟩
    · exact ⟨0, _, _, ab_Kc hZ (tk_D_hand_0_0 ⟨by decide, ct_Losses_has hZ x m⟩ x1 ⟨by decide, ct_Finds_has hZ y m⟩ (ab_b_0.mpr (by rw [cD]; exact hy)) ⟨by decide, ct_D_deny hZ 1 _⟩ ⟨rfl, rfl⟩) (Or.inl rfl) (by decide) (Nat.le_of_ble_eq_true rfl), ab_Kc hZ (tk_M_hand_0_0 ⟨by decide, ct_M_isLoss hZ x _⟩ x2 ⟨by decide, ct_M_isFind hZ y _⟩ (ab_b_0.mpr (show ¬ (0 ≤ y.toInt ∧ y.toInt < (ab_rd m 8 4).toInt) by rw [cM]; exact hy)) ⟨by decide, ct_M_no hZ 1 _⟩ ⟨rfl, rfl⟩) (Or.inl rfl) (by decide) (Nat.le_of_ble_eq_true rfl), iv_refused hI 1⟩
  · exact ⟨0, _, _, ab_Kc hZ (tk_D_hand_0_6 ⟨by decide, ct_Losses_has hZ x m⟩ (ab_b_0.mpr (by rw [lD]; exact hx)) ⟨by decide, ct_D_deny hZ 1 _⟩ ⟨rfl, rfl⟩) (Or.inl rfl) (by decide) (Nat.le_of_ble_eq_true rfl), ab_Kc hZ (tk_M_hand_0_5 ⟨by decide, ct_M_isLoss hZ x _⟩ (ab_b_0.mpr (show ¬ (0 ≤ x.toInt ∧ x.toInt < (ab_rd m 8 5).toInt) by rw [lM]; exact hx)) ⟨by decide, ct_M_no hZ 1 _⟩ ⟨rfl, rfl⟩) (Or.inl rfl) (by decide) (Nat.le_of_ble_eq_true rfl), iv_refused hI 1⟩
