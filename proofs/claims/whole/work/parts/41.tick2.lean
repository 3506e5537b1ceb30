/-! ===== tick: both ===== -/
theorem iv_tickF {m : ab_M} {nK nP n : Nat} (hF : iv_F m nK nP n) {t : Int32} {m1 : ab_M} (e1 : ∀ j, ab_rd m1 24 j = if 0 ≤ j ∧ j < 0 + n then tc_g (tc_S m n t) (tc_dS m n t) j (ab_rd m 24 j) else ab_rd m 24 j) (e3 : ∀ j, ab_rd m1 58 j = if 0 ≤ j ∧ j < 0 + n then tc_g (tc_S m n t) (tc_dS m n t) j (ab_rd m 58 j) else ab_rd m 58 j) (q : ∀ p, p ∈ [4, 19, 20, 21, 22, 23, 25, 26, 53, 54, 55, 56, 57, 59, 60] → ab_rd m1 p = ab_rd m p) (hc : ab_rd m1 8 4 = ab_rd m 8 4) : iv_F m1 nK nP n := by
  obtain ⟨g1, g2, g3, a1, a2, a3, a4, a5, a6, a7, a8, g⟩ := hF
  refine ⟨g1, (congrFun (q 4 (by decide)) _).trans g2, hc.trans g3, ?_, ?_, ?_, ?_, ?_, fun j => by rw [e1, e3, a6], ?_, ?_, fun j hj => ?_⟩
  · rw [q 19 (by decide), q 53 (by decide)]; exact a1
  · rw [q 20 (by decide), q 54 (by decide)]; exact a2
  · rw [q 21 (by decide), q 55 (by decide)]; exact a3
  · rw [q 22 (by decide), q 56 (by decide)]; exact a4
  · rw [q 23 (by decide), q 57 (by decide)]; exact a5
  · rw [q 25 (by decide), q 59 (by decide)]; exact a7
  · rw [q 26 (by decide), q 60 (by decide)]; exact a8
  · obtain ⟨t1, t2, t3, t4, t5, t6, u, hu, u1, u2, u3⟩ := g j hj
    rw [q 53 (by decide), q 54 (by decide), q 55 (by decide), q 56 (by decide), q 57 (by decide), q 60 (by decide)]
    have hSS : tc_S m n t j ↔ tc_S m n t u := by
      unfold tc_S tc_du
      rw [u3, u1, u2]
    refine ⟨t1, t2, t3, t4, t5, ?_, u, hu, u1, u2, ?_⟩
    · rw [e3, if_pos (by omega)]
      unfold tc_g
      by_cases z : tc_S m n t j
      · rw [if_pos z]; exact Or.inr (Or.inr rfl)
      · rw [if_neg z]; exact t6
    · rw [e3, e3, if_pos (by omega), if_pos (by omega)]
      unfold tc_g
      by_cases z : tc_S m n t j
      · rw [if_pos z, if_pos (hSS.mp z)]
      · rw [if_neg z, if_neg (fun y => z (hSS.mpr y))]
        exact u3
theorem op_tick {Z : ab_Z} (hZ : ab_okZ Z) (x : Int32) {m : ab_M} (hI : iv_A m) : iv_Op Z 75 137 [.inl (.int x)] m := by
  have hI' := hI
  obtain ⟨nK, nP, nF, nL, nO, hK, hN, hP, hF, hL, hC, ⟨s1, s2, s3, s4, s5, s6, s7, s8, s9⟩, hB⟩ := hI'
  obtain ⟨k1, k2, k3, k4, k5, k6, k7, -⟩ := id hK
  obtain ⟨g1, g2, g3, a1, a2, a3, a4, a5, a6, a7, a8, g⟩ := id hF
  have e2 : (200000 : Int32).toInt = 200000 := rfl
  by_cases hx : (ab_rd m 0 12).toInt ≤ x.toInt ∧ x.toInt ≤ (200000 : Int32).toInt
  · have hle := @cn_le (tc_S m nF x) (tc_dS m nF x) nF
    have hstart : ∀ P, ab_T Z 75 40 (28, [(0, .inl (.ref 0)), (1, .inl (.int x)), (2, .inl (.int (nI (@cn_of (tc_S m nF x) (tc_dS m nF x) nF)))), (3, .inl (.int (nI nF)))], [], lp_f (ab_wr m 0 12 x) 24 0 nF (tc_g (tc_S m nF x) (tc_dS m nF x))) P → ab_T Z 75 40 (28, [(0, .inl (.ref 0)), (1, .inl (.int x)), (2, .inl (.int 0)), (3, .inl (.int 0))], [], ab_wr m 0 12 x) P := by
      intro P hfin
      have := cl_D_tick hZ hK hF rfl hfin nF 0 (by omega)
      rw [@cn_0 (tc_R m nF x 0) (tc_dR m nF x 0) nF (fun j _ z => by have := z.2; omega), lp_f_id (ab_wr m 0 12 x) 24 0 nF (tc_g (tc_R m nF x 0) (tc_dR m nF x 0)) (fun j _ _ => if_neg (fun z : tc_R m nF x 0 j => by have := z.2; omega))] at this
      exact this
    have hcnt : ab_rd (lp_f (ab_wr m 0 12 x) 24 0 nF (tc_g (tc_S m nF x) (tc_dS m nF x))) 4 8 ≤ nI nF := by
      rw [lp_f_rn _ 0 nF _ (by decide)]
      show ab_rd m 4 8 ≤ nI nF
      rw [g2]
      exact nI_le (Nat.le_refl _) (by omega)
    have hM : ∀ M1 : ab_M, ab_rd M1 8 7 = ab_rd m 8 7 → (∀ p, p ∈ [48, 49, 53, 57, 60, 58] → ab_rd M1 p = ab_rd m p) → ab_rd M1 8 4 = ab_rd m 8 4 → ab_C Z 40 137 [.inl (.ref 8), .inl (.int x)] M1 (some (nI (@cn_of (tc_S m nF x) (tc_dS m nF x) nF))) (lp_f (ab_wr (iv_m0 M1) 8 7 x) 58 0 nF (tc_g (tc_S m nF x) (tc_dS m nF x))) := by
      intro M1 hw hp hf
      refine ab_Kc hZ (tk_M_tick_0_1 ?_ ?_ ?_) trivial (by decide) (Nat.le_of_ble_eq_true rfl)
      · show ¬ x < ab_rd M1 8 7
        rw [hw, ← s4, ab_ltI]
        omega
      · rw [ab_leI]
        omega
      · have := cl_M_tick hZ (n := nF) (nK := nK) (t := x) (m := m) (M := ab_wr (iv_m0 M1) 8 7 x) g1 k1 (hf.trans g3) (by show kd_ok (ab_rd M1 48) nK; rw [hp _ (by decide)]; exact k6) (by have e : ab_rd (ab_wr (iv_m0 M1) 8 7 x) 49 = ab_rd m 49 := hp 49 (by decide); rw [e]; exact k7) (fun f hf' => by show ∃ k, k < nK ∧ ab_rd M1 53 f = nI k; rw [hp _ (by decide)]; exact (g f hf').1) (hp 60 (by decide)) (hp 53 (by decide)) (hp 57 (by decide)) (hp 48 (by decide)) (hp 49 (by decide)) (hp 58 (by decide)) nF 0 (by omega)
        rw [lp_f_0] at this
        exact this
    have hrng : 0 ≤ x.toInt ∧ x.toInt ≤ 200000 := by
      rw [s4] at hx
      omega
    by_cases hz : @cn_of (tc_S m nF x) (tc_dS m nF x) nF = 0
    · have hno : ∀ j, j < nF → ¬ tc_S m nF x j := fun j hj hs => by
        have := @cn_pos (tc_S m nF x) (tc_dS m nF x) nF j hj hs
        omega
      have hid : ∀ (M : ab_M) (p : Nat), lp_f M p 0 nF (tc_g (tc_S m nF x) (tc_dS m nF x)) = M := fun M p => lp_f_id M p 0 nF _ (fun j _ hj => if_neg (hno j (by omega)))
      have hD : ab_C Z 40 75 [.inl (.ref 0), .inl (.int x)] m (some (nI (@cn_of (tc_S m nF x) (tc_dS m nF x) nF))) (ab_wr (ab_wr m 0 12 x) 0 11 0) := by
        refine ab_Kc hZ (tk_D_tick_0_1 ⟨by decide, ct_D_isWithin hZ x (ab_rd m 0 12) 200000 m⟩ (ab_b_n.mpr hx) (hstart _ ?_)) trivial (by decide) (Nat.le_of_ble_eq_true rfl)
        refine tk_D_tick_28_9 hcnt (by rw [hz]; decide) ⟨by decide, ct_D_answer hZ _ _⟩ ⟨rfl, ?_⟩
        rw [hid]
      have hM1 := hM (ab_wr (ab_wr m 0 12 x) 0 11 0) rfl (fun p hp => by
        simp only [List.mem_cons, List.not_mem_nil, or_false] at hp
        rcases hp with rfl | rfl | rfl | rfl | rfl | rfl <;> rfl) rfl
      rw [hid] at hM1
      exact ⟨_, _, _, hD, hM1, nK, nP, nF, nL, nO, hK.cong rfl rfl rfl rfl rfl rfl rfl, hN.cong rfl rfl, hP.cong rfl rfl rfl rfl rfl rfl, hF.cong rfl rfl rfl rfl rfl rfl rfl rfl rfl rfl rfl rfl rfl rfl rfl rfl rfl rfl, hL.cong rfl rfl rfl rfl rfl rfl rfl rfl rfl rfl rfl rfl rfl rfl rfl rfl, hC.cong rfl rfl rfl, ⟨rfl, s2, s3, rfl, hrng, s6, s7, s8, s9⟩, hB.cong rfl rfl rfl rfl rfl rfl rfl rfl rfl rfl (fun l f _ _ => iv_cost_cong nP l f rfl rfl rfl rfl rfl rfl rfl rfl rfl rfl rfl rfl rfl rfl)⟩
    · have hD : ab_C Z 40 75 [.inl (.ref 0), .inl (.int x)] m (some (nI (@cn_of (tc_S m nF x) (tc_dS m nF x) nF))) (ab_wr (ab_wr (lp_f (ab_wr m 0 12 x) 24 0 nF (tc_g (tc_S m nF x) (tc_dS m nF x))) 0 14 1) 0 11 0) := by
        refine ab_Kc hZ (tk_D_tick_0_1 ⟨by decide, ct_D_isWithin hZ x (ab_rd m 0 12) 200000 m⟩ (ab_b_n.mpr hx) (hstart _ ?_)) trivial (by decide) (Nat.le_of_ble_eq_true rfl)
        exact tk_D_tick_28_8 hcnt (nI_nle (by omega) (by omega)) (Or.inr rfl) ⟨by decide, ct_D_answer hZ _ _⟩ ⟨rfl, rfl⟩
      have hM1 := hM (ab_wr (ab_wr (lp_f (ab_wr m 0 12 x) 24 0 nF (tc_g (tc_S m nF x) (tc_dS m nF x))) 0 14 1) 0 11 0) rfl (fun p hp => by
        simp only [List.mem_cons, List.not_mem_nil, or_false] at hp
        rcases hp with rfl | rfl | rfl | rfl | rfl | rfl <;> rfl) rfl
      refine ⟨_, _, _, hD, hM1, nK, nP, nF, nL, nO, hK.cong rfl rfl rfl rfl rfl rfl rfl, hN.cong rfl rfl, hP.cong rfl rfl rfl rfl rfl rfl, ?_, hL.cong rfl rfl rfl rfl rfl rfl rfl rfl rfl rfl rfl rfl rfl rfl rfl rfl, hC.cong rfl rfl rfl, ⟨rfl, s2, s3, rfl, hrng, s6, s7, s8, s9⟩, iv_B.old rfl⟩
      refine iv_tickF hF (t := x) (fun j => ?_) (fun j => ?_) (fun p hp => ?_) rfl
      · exact lp_f_rd (ab_wr m 0 12 x) 24 0 nF (tc_g (tc_S m nF x) (tc_dS m nF x)) j
      · exact lp_f_rd (ab_wr (iv_m0 (ab_wr (ab_wr (lp_f (ab_wr m 0 12 x) 24 0 nF (tc_g (tc_S m nF x) (tc_dS m nF x))) 0 14 1) 0 11 0)) 8 7 x) 58 0 nF (tc_g (tc_S m nF x) (tc_dS m nF x)) j
      · simp only [List.mem_cons, List.not_mem_nil, or_false] at hp
        rcases hp with rfl | rfl | rfl | rfl | rfl | rfl | rfl | rfl | rfl | rfl | rfl | rfl | rfl | rfl | rfl <;> rfl
  · refine ⟨-1, _, _, ab_Kc hZ (tk_D_tick_0_0 ⟨by decide, ct_D_isWithin hZ x (ab_rd m 0 12) 200000 m⟩ (ab_b_0.mpr hx) ⟨by decide, ct_D_refuse hZ 2 _⟩ ⟨rfl, rfl⟩) trivial (by decide) (Nat.le_of_ble_eq_true rfl), ab_Kc hZ ?_ trivial (by decide) (Nat.le_of_ble_eq_true rfl), iv_refused hI 2⟩
    by_cases h0 : x < ab_rd m 8 7
    · exact tk_M_tick_0_2 h0 ⟨by decide, ct_M_refuse hZ 2 _⟩ ⟨rfl, rfl⟩
    · refine tk_M_tick_0_0 h0 ?_ ⟨by decide, ct_M_refuse hZ 2 _⟩ ⟨rfl, rfl⟩
      rw [ab_leI]
      rw [ab_ltI, ← s4] at h0
      omega
