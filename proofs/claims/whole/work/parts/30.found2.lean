/-! ===== found, lost: both ===== -/
theorem iv_qI {x : Int32} (h : 0 ≤ x.toInt ∧ x.toInt ≤ 65535) : ∃ q : Nat, q ≤ 65535 ∧ x = nI q := ⟨x.toInt.toNat, by omega, by rw [ab_eqI, nI_toInt (by omega)]; omega⟩
theorem iv_found {m : ab_M} {nK nP nF nL nO : Nat} (h : iv_all m nK nP nF nL nO) (hn : nF < 24) {x1 x2 x3 x4 x5 : Int32} (q1 : 0 ≤ x1.toInt ∧ x1.toInt < nK) (q4 : 0 ≤ x4.toInt ∧ x4.toInt < nP) (q2 : -1 ≤ x2.toInt ∧ x2.toInt < 12) (q3 : 0 ≤ x3.toInt ∧ x3.toInt ≤ 65535) (q5 : 0 ≤ x5.toInt ∧ x5.toInt ≤ 100000) : iv_all (fd_r (iv_m0 (ab_wr (fd_c (ab_wr m 0 14 1) nF x1 x2 x3 x4 x5) 0 11 0)) nF x1 x2 x3 x4 x5) nK nP (nF + 1) nL nO := by
  obtain ⟨hK, hN, hP, hF, hL, hC, ⟨s1, s2, s3, s4, s5, s6, s7, s8, s9⟩, hB⟩ := h
  refine ⟨hK.cong rfl rfl rfl rfl rfl rfl rfl, hN.cong rfl rfl, hP.cong rfl rfl rfl rfl rfl rfl, ?_, hL.cong rfl rfl rfl rfl rfl rfl rfl rfl rfl rfl rfl rfl rfl rfl rfl rfl, hC.cong rfl rfl rfl, ⟨rfl, s2, s3, s4, s5, s6, s7, s8, s9⟩, iv_B.old rfl⟩
  obtain ⟨g1, g2, g3, a1, a2, a3, a4, a5, a6, a7, a8, g⟩ := hF
  have c1 : ∀ f, ab_rd (fd_r (iv_m0 (ab_wr (fd_c (ab_wr m 0 14 1) nF x1 x2 x3 x4 x5) 0 11 0)) nF x1 x2 x3 x4 x5) 19 f = if f = nF then x1 else ab_rd m 19 f := fun f => rfl
  have r1 : ∀ f, ab_rd (fd_r (iv_m0 (ab_wr (fd_c (ab_wr m 0 14 1) nF x1 x2 x3 x4 x5) 0 11 0)) nF x1 x2 x3 x4 x5) 53 f = if f = nF then x1 else ab_rd m 53 f := fun f => rfl
  have c2 : ∀ f, ab_rd (fd_r (iv_m0 (ab_wr (fd_c (ab_wr m 0 14 1) nF x1 x2 x3 x4 x5) 0 11 0)) nF x1 x2 x3 x4 x5) 20 f = if f = nF then x2 else ab_rd m 20 f := fun f => rfl
  have r2 : ∀ f, ab_rd (fd_r (iv_m0 (ab_wr (fd_c (ab_wr m 0 14 1) nF x1 x2 x3 x4 x5) 0 11 0)) nF x1 x2 x3 x4 x5) 54 f = if f = nF then x2 else ab_rd m 54 f := fun f => rfl
  have c3 : ∀ f, ab_rd (fd_r (iv_m0 (ab_wr (fd_c (ab_wr m 0 14 1) nF x1 x2 x3 x4 x5) 0 11 0)) nF x1 x2 x3 x4 x5) 21 f = if f = nF then x3 else ab_rd m 21 f := fun f => rfl
  have r3 : ∀ f, ab_rd (fd_r (iv_m0 (ab_wr (fd_c (ab_wr m 0 14 1) nF x1 x2 x3 x4 x5) 0 11 0)) nF x1 x2 x3 x4 x5) 55 f = if f = nF then x3 else ab_rd m 55 f := fun f => rfl
  have c4 : ∀ f, ab_rd (fd_r (iv_m0 (ab_wr (fd_c (ab_wr m 0 14 1) nF x1 x2 x3 x4 x5) 0 11 0)) nF x1 x2 x3 x4 x5) 22 f = if f = nF then x4 else ab_rd m 22 f := fun f => rfl
  have r4 : ∀ f, ab_rd (fd_r (iv_m0 (ab_wr (fd_c (ab_wr m 0 14 1) nF x1 x2 x3 x4 x5) 0 11 0)) nF x1 x2 x3 x4 x5) 56 f = if f = nF then x4 else ab_rd m 56 f := fun f => rfl
  have c5 : ∀ f, ab_rd (fd_r (iv_m0 (ab_wr (fd_c (ab_wr m 0 14 1) nF x1 x2 x3 x4 x5) 0 11 0)) nF x1 x2 x3 x4 x5) 23 f = if f = nF then x5 else ab_rd m 23 f := fun f => rfl
  have r5 : ∀ f, ab_rd (fd_r (iv_m0 (ab_wr (fd_c (ab_wr m 0 14 1) nF x1 x2 x3 x4 x5) 0 11 0)) nF x1 x2 x3 x4 x5) 57 f = if f = nF then x5 else ab_rd m 57 f := fun f => rfl
  have c6 : ∀ f, ab_rd (fd_r (iv_m0 (ab_wr (fd_c (ab_wr m 0 14 1) nF x1 x2 x3 x4 x5) 0 11 0)) nF x1 x2 x3 x4 x5) 24 f = if f = nF then 0 else ab_rd m 24 f := fun f => rfl
  have r6 : ∀ f, ab_rd (fd_r (iv_m0 (ab_wr (fd_c (ab_wr m 0 14 1) nF x1 x2 x3 x4 x5) 0 11 0)) nF x1 x2 x3 x4 x5) 58 f = if f = nF then 0 else ab_rd m 58 f := fun f => rfl
  have c7 : ∀ f, ab_rd (fd_r (iv_m0 (ab_wr (fd_c (ab_wr m 0 14 1) nF x1 x2 x3 x4 x5) 0 11 0)) nF x1 x2 x3 x4 x5) 25 f = if f = nF then (-1) else ab_rd m 25 f := fun f => rfl
  have r7 : ∀ f, ab_rd (fd_r (iv_m0 (ab_wr (fd_c (ab_wr m 0 14 1) nF x1 x2 x3 x4 x5) 0 11 0)) nF x1 x2 x3 x4 x5) 59 f = if f = nF then (-1) else ab_rd m 59 f := fun f => rfl
  have c8 : ∀ f, ab_rd (fd_r (iv_m0 (ab_wr (fd_c (ab_wr m 0 14 1) nF x1 x2 x3 x4 x5) 0 11 0)) nF x1 x2 x3 x4 x5) 26 f = if f = nF then (nI nF) else ab_rd m 26 f := fun f => rfl
  have r8 : ∀ f, ab_rd (fd_r (iv_m0 (ab_wr (fd_c (ab_wr m 0 14 1) nF x1 x2 x3 x4 x5) 0 11 0)) nF x1 x2 x3 x4 x5) 60 f = if f = nF then (nI nF) else ab_rd m 60 f := fun f => rfl
  refine ⟨by omega, nI_1 nF, nI_1 nF, fun f => by rw [c1, r1, a1 f], fun f => by rw [c2, r2, a2 f], fun f => by rw [c3, r3, a3 f], fun f => by rw [c4, r4, a4 f], fun f => by rw [c5, r5, a5 f], fun f => by rw [c6, r6, a6 f], fun f => by rw [c7, r7, a7 f], fun f => by rw [c8, r8, a8 f], fun f hf => ?_⟩
  by_cases e : f = nF
  · subst e
    rw [r1, r2, r3, r4, r5, r6, r8, if_pos rfl, if_pos rfl, if_pos rfl, if_pos rfl, if_pos rfl, if_pos rfl, if_pos rfl]
    obtain ⟨k, hk, ek⟩ := iv_ix q1 (by have := hK.1; omega)
    obtain ⟨p, hp, ep⟩ := iv_ix q4 (by have := hP.1; omega)
    exact ⟨⟨k, hk, ek⟩, q2, iv_qI q3, ⟨p, hp, ep⟩, q5, Or.inl rfl, f, Nat.le_refl f, rfl, by rw [r8, if_pos rfl], by rw [r6, if_pos rfl]⟩
  · obtain ⟨e1, e2, e3, e4, e5, e6, b, hb, e7, e8, e9⟩ := g f (by omega)
    rw [r1, r2, r3, r4, r5, r6, r8, if_neg e, if_neg e, if_neg e, if_neg e, if_neg e, if_neg e, if_neg e]
    exact ⟨e1, e2, e3, e4, e5, e6, b, hb, e7, by rw [r8, if_neg (by omega)]; exact e8, by rw [r6, if_neg (by omega)]; exact e9⟩
theorem iv_lost {m : ab_M} {nK nP nF nL nO : Nat} (h : iv_all m nK nP nF nL nO) (hn : nL < 24) {x1 x2 x3 x4 x5 x6 : Int32} (q1 : 0 ≤ x1.toInt ∧ x1.toInt < nK) (q4 : 0 ≤ x4.toInt ∧ x4.toInt < nP) (q2 : -1 ≤ x2.toInt ∧ x2.toInt < 12) (q3 : 0 ≤ x3.toInt ∧ x3.toInt ≤ 65535) (q5 : 0 ≤ x5.toInt ∧ x5.toInt ≤ x6.toInt ∧ x6.toInt ≤ 100000) : iv_all (ls_r (iv_m0 (ab_wr (ls_c (ab_wr m 0 14 1) nL x1 x2 x3 x4 x5 x6) 0 11 0)) nL x1 x2 x3 x4 x5 x6) nK nP nF (nL + 1) nO := by
  obtain ⟨hK, hN, hP, hF, hL, hC, ⟨s1, s2, s3, s4, s5, s6, s7, s8, s9⟩, hB⟩ := h
  refine ⟨hK.cong rfl rfl rfl rfl rfl rfl rfl, hN.cong rfl rfl, hP.cong rfl rfl rfl rfl rfl rfl, hF.cong rfl rfl rfl rfl rfl rfl rfl rfl rfl rfl rfl rfl rfl rfl rfl rfl rfl rfl, ?_, hC.cong rfl rfl rfl, ⟨rfl, s2, s3, s4, s5, s6, s7, s8, s9⟩, iv_B.old rfl⟩
  obtain ⟨g1, g2, g3, a1, a2, a3, a4, a5, a6, a7, a8, a9, g⟩ := hL
  have c1 : ∀ f, ab_rd (ls_r (iv_m0 (ab_wr (ls_c (ab_wr m 0 14 1) nL x1 x2 x3 x4 x5 x6) 0 11 0)) nL x1 x2 x3 x4 x5 x6) 27 f = if f = nL then x1 else ab_rd m 27 f := fun f => rfl
  have r1 : ∀ f, ab_rd (ls_r (iv_m0 (ab_wr (ls_c (ab_wr m 0 14 1) nL x1 x2 x3 x4 x5 x6) 0 11 0)) nL x1 x2 x3 x4 x5 x6) 61 f = if f = nL then x1 else ab_rd m 61 f := fun f => rfl
  have c2 : ∀ f, ab_rd (ls_r (iv_m0 (ab_wr (ls_c (ab_wr m 0 14 1) nL x1 x2 x3 x4 x5 x6) 0 11 0)) nL x1 x2 x3 x4 x5 x6) 28 f = if f = nL then x2 else ab_rd m 28 f := fun f => rfl
  have r2 : ∀ f, ab_rd (ls_r (iv_m0 (ab_wr (ls_c (ab_wr m 0 14 1) nL x1 x2 x3 x4 x5 x6) 0 11 0)) nL x1 x2 x3 x4 x5 x6) 62 f = if f = nL then x2 else ab_rd m 62 f := fun f => rfl
  have c3 : ∀ f, ab_rd (ls_r (iv_m0 (ab_wr (ls_c (ab_wr m 0 14 1) nL x1 x2 x3 x4 x5 x6) 0 11 0)) nL x1 x2 x3 x4 x5 x6) 29 f = if f = nL then x3 else ab_rd m 29 f := fun f => rfl
  have r3 : ∀ f, ab_rd (ls_r (iv_m0 (ab_wr (ls_c (ab_wr m 0 14 1) nL x1 x2 x3 x4 x5 x6) 0 11 0)) nL x1 x2 x3 x4 x5 x6) 63 f = if f = nL then x3 else ab_rd m 63 f := fun f => rfl
  have c4 : ∀ f, ab_rd (ls_r (iv_m0 (ab_wr (ls_c (ab_wr m 0 14 1) nL x1 x2 x3 x4 x5 x6) 0 11 0)) nL x1 x2 x3 x4 x5 x6) 30 f = if f = nL then x4 else ab_rd m 30 f := fun f => rfl
  have r4 : ∀ f, ab_rd (ls_r (iv_m0 (ab_wr (ls_c (ab_wr m 0 14 1) nL x1 x2 x3 x4 x5 x6) 0 11 0)) nL x1 x2 x3 x4 x5 x6) 64 f = if f = nL then x4 else ab_rd m 64 f := fun f => rfl
  have c5 : ∀ f, ab_rd (ls_r (iv_m0 (ab_wr (ls_c (ab_wr m 0 14 1) nL x1 x2 x3 x4 x5 x6) 0 11 0)) nL x1 x2 x3 x4 x5 x6) 31 f = if f = nL then x5 else ab_rd m 31 f := fun f => rfl
  have r5 : ∀ f, ab_rd (ls_r (iv_m0 (ab_wr (ls_c (ab_wr m 0 14 1) nL x1 x2 x3 x4 x5 x6) 0 11 0)) nL x1 x2 x3 x4 x5 x6) 65 f = if f = nL then x5 else ab_rd m 65 f := fun f => rfl
  have c6 : ∀ f, ab_rd (ls_r (iv_m0 (ab_wr (ls_c (ab_wr m 0 14 1) nL x1 x2 x3 x4 x5 x6) 0 11 0)) nL x1 x2 x3 x4 x5 x6) 32 f = if f = nL then x6 else ab_rd m 32 f := fun f => rfl
  have r6 : ∀ f, ab_rd (ls_r (iv_m0 (ab_wr (ls_c (ab_wr m 0 14 1) nL x1 x2 x3 x4 x5 x6) 0 11 0)) nL x1 x2 x3 x4 x5 x6) 66 f = if f = nL then x6 else ab_rd m 66 f := fun f => rfl
  have c7 : ∀ f, ab_rd (ls_r (iv_m0 (ab_wr (ls_c (ab_wr m 0 14 1) nL x1 x2 x3 x4 x5 x6) 0 11 0)) nL x1 x2 x3 x4 x5 x6) 33 f = if f = nL then 0 else ab_rd m 33 f := fun f => rfl
  have r7 : ∀ f, ab_rd (ls_r (iv_m0 (ab_wr (ls_c (ab_wr m 0 14 1) nL x1 x2 x3 x4 x5 x6) 0 11 0)) nL x1 x2 x3 x4 x5 x6) 67 f = ab_rd m 67 f := fun f => rfl
  refine ⟨by omega, nI_1 nL, nI_1 nL, fun f => by rw [c1, r1, a1 f], fun f => by rw [c2, r2, a2 f], fun f => by rw [c3, r3, a3 f], fun f => by rw [c4, r4, a4 f], fun f => by rw [c5, r5, a5 f], fun f => by rw [c6, r6, a6 f], fun f => ?_, a8, fun f hf => a9 f (by omega), fun f hf => ?_⟩
  · rw [c7, r7]
    by_cases e : f = nL
    · rw [if_pos e, a9 f (by omega)]
    · rw [if_neg e]
      exact a7 f
  by_cases e : f = nL
  · subst e
    rw [r1, r2, r3, r4, r5, r6, if_pos rfl, if_pos rfl, if_pos rfl, if_pos rfl, if_pos rfl, if_pos rfl]
    obtain ⟨k, hk, ek⟩ := iv_ix q1 (by have := hK.1; omega)
    obtain ⟨p, hp, ep⟩ := iv_ix q4 (by have := hP.1; omega)
    exact ⟨⟨k, hk, ek⟩, q2, iv_qI q3, ⟨p, hp, ep⟩, q5⟩
  · rw [r1, r2, r3, r4, r5, r6, if_neg e, if_neg e, if_neg e, if_neg e, if_neg e, if_neg e]
    exact g f (by omega)
theorem op_found {Z : ab_Z} (hZ : ab_okZ Z) (x1 x2 x3 x4 x5 : Int32) {m : ab_M} (hI : iv_A m) : iv_Op Z 60 110 [.inl (.int x1), .inl (.int x2), .inl (.int x3), .inl (.int x4), .inl (.int x5)] m := by
  have hI' := hI
  obtain ⟨nK, nP, nF, nL, nO, h⟩ := hI'
  have hK := h.1
  have hP := h.2.2.1
  have hF := h.2.2.2.1
  have hL := h.2.2.2.2.1
  have kD := iv_toI hK.2.1 (by have := hK.1; omega)
  have kM := iv_toI hK.2.2.1 (by have := hK.1; omega)
  have pD := iv_toI hP.2.1 (by have := hP.1; omega)
  have pM := iv_toI hP.2.2.1 (by have := hP.1; omega)
  have fD := iv_toI hF.2.1 (by have := hF.1; omega)
  have fM := iv_toI hF.2.2.1 (by have := hF.1; omega)
  have hD := ct_D_found hZ x1 x2 x3 x4 x5 (nF := nF) (nL := nL) (m := m) hF.1 kD pD hF.2.1 fD
  by_cases e : fd_st x1 x2 x3 x4 x5 nK nP nF = 0
  · have hq : ((0 ≤ x1.toInt ∧ x1.toInt < nK) ∧ (0 ≤ x4.toInt ∧ x4.toInt < nP)) ∧ ((-1 ≤ x2.toInt ∧ x2.toInt < 12) ∧ (0 ≤ x3.toInt ∧ x3.toInt ≤ 65535) ∧ (0 ≤ x5.toInt ∧ x5.toInt ≤ 100000)) ∧ ¬ 24 ≤ (nF : Int) := by
      unfold fd_st at e
      by_cases a : (0 ≤ x1.toInt ∧ x1.toInt < nK) ∧ (0 ≤ x4.toInt ∧ x4.toInt < nP)
      · rw [if_neg (fun z => z a)] at e
        by_cases b : (-1 ≤ x2.toInt ∧ x2.toInt < 12) ∧ (0 ≤ x3.toInt ∧ x3.toInt ≤ 65535) ∧ (0 ≤ x5.toInt ∧ x5.toInt ≤ 100000)
        · rw [if_neg (fun z => z b)] at e
          by_cases c : 24 ≤ (nF : Int)
          · rw [if_pos c] at e
            exact absurd e (by decide)
          · exact ⟨a, b, c⟩
        · rw [if_pos b] at e
          exact absurd e (by decide)
      · rw [if_pos a] at e
        exact absurd e (by decide)
    rw [if_pos e, if_pos e] at hD
    have hM := ct_M_found hZ x1 x2 x3 x4 x5 (nK := nK) (nP := nP) (nF := nF) (nL := nL) hF.1 kM pM hF.2.2.1 fM (m := ab_wr (fd_c (ab_wr m 0 14 1) nF x1 x2 x3 x4 x5) 0 11 0)
    rw [if_pos e, if_pos e] at hM
    exact ⟨_, _, _, hD, hM, nK, nP, _, _, nO, iv_found h (by omega) hq.1.1 hq.1.2 hq.2.1.1 hq.2.1.2.1 hq.2.1.2.2⟩
  · rw [if_neg e, if_neg e] at hD
    have hM := ct_M_found hZ x1 x2 x3 x4 x5 (nK := nK) (nP := nP) (nF := nF) (nL := nL) (m := ab_wr m 0 11 (fd_st x1 x2 x3 x4 x5 nK nP nF)) hF.1 kM pM hF.2.2.1 fM
    rw [if_neg e, if_neg e] at hM
    exact ⟨_, _, _, hD, hM, iv_refused hI _⟩
theorem op_lost {Z : ab_Z} (hZ : ab_okZ Z) (x1 x2 x3 x4 x5 x6 : Int32) {m : ab_M} (hI : iv_A m) : iv_Op Z 61 111 [.inl (.int x1), .inl (.int x2), .inl (.int x3), .inl (.int x4), .inl (.int x5), .inl (.int x6)] m := by
  have hI' := hI
  obtain ⟨nK, nP, nF, nL, nO, h⟩ := hI'
  have hK := h.1
  have hP := h.2.2.1
  have hF := h.2.2.2.1
  have hL := h.2.2.2.2.1
  have kD := iv_toI hK.2.1 (by have := hK.1; omega)
  have kM := iv_toI hK.2.2.1 (by have := hK.1; omega)
  have pD := iv_toI hP.2.1 (by have := hP.1; omega)
  have pM := iv_toI hP.2.2.1 (by have := hP.1; omega)
  have fD := iv_toI hL.2.1 (by have := hL.1; omega)
  have fM := iv_toI hL.2.2.1 (by have := hL.1; omega)
  have hD := ct_D_lost hZ x1 x2 x3 x4 x5 x6 (nF := nF) (nL := nL) (m := m) hL.1 kD pD hL.2.1 fD
  by_cases e : ls_st x1 x2 x3 x4 x5 x6 nK nP nL = 0
  · have hq : ((0 ≤ x1.toInt ∧ x1.toInt < nK) ∧ (0 ≤ x4.toInt ∧ x4.toInt < nP)) ∧ ((-1 ≤ x2.toInt ∧ x2.toInt < 12) ∧ (0 ≤ x3.toInt ∧ x3.toInt ≤ 65535) ∧ (0 ≤ x5.toInt ∧ x5.toInt ≤ x6.toInt ∧ x6.toInt ≤ 100000)) ∧ ¬ 24 ≤ (nL : Int) := by
      unfold ls_st at e
      by_cases a : (0 ≤ x1.toInt ∧ x1.toInt < nK) ∧ (0 ≤ x4.toInt ∧ x4.toInt < nP)
      · rw [if_neg (fun z => z a)] at e
        by_cases b : (-1 ≤ x2.toInt ∧ x2.toInt < 12) ∧ (0 ≤ x3.toInt ∧ x3.toInt ≤ 65535) ∧ (0 ≤ x5.toInt ∧ x5.toInt ≤ x6.toInt ∧ x6.toInt ≤ 100000)
        · rw [if_neg (fun z => z b)] at e
          by_cases c : 24 ≤ (nL : Int)
          · rw [if_pos c] at e
            exact absurd e (by decide)
          · exact ⟨a, b, c⟩
        · rw [if_pos b] at e
          exact absurd e (by decide)
      · rw [if_pos a] at e
        exact absurd e (by decide)
    rw [if_pos e, if_pos e] at hD
    have hM := ct_M_lost hZ x1 x2 x3 x4 x5 x6 (nK := nK) (nP := nP) (nF := nF) (nL := nL) hL.1 kM pM hL.2.2.1 fM (m := ab_wr (ls_c (ab_wr m 0 14 1) nL x1 x2 x3 x4 x5 x6) 0 11 0)
    rw [if_pos e, if_pos e] at hM
    exact ⟨_, _, _, hD, hM, nK, nP, _, _, nO, iv_lost h (by omega) hq.1.1 hq.1.2 hq.2.1.1 hq.2.1.2.1 hq.2.1.2.2⟩
  · rw [if_neg e, if_neg e] at hD
    have hM := ct_M_lost hZ x1 x2 x3 x4 x5 x6 (nK := nK) (nP := nP) (nF := nF) (nL := nL) (m := ab_wr m 0 11 (ls_st x1 x2 x3 x4 x5 x6 nK nP nL)) hL.1 kM pM hL.2.2.1 fM
    rw [if_neg e, if_neg e] at hM
    exact ⟨_, _, _, hD, hM, iv_refused hI _⟩
