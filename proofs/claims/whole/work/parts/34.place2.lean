/-! ===== place: both ===== -/
theorem ds_out {w : Nat → Nat → Nat → Prop} {n : Nat} (hw : ∀ a b e, w a b e → a < n ∧ b < n) {b : Nat} (hb : n ≤ b) : ∀ (k a d : Nat), a < n → ¬ ds_wk w k a b d
  | 0, a, d, ha, h => by
    obtain ⟨h1, -⟩ := h
    omega
  | k + 1, a, d, ha, h => by
    obtain ⟨c, e, h1, -, h2⟩ := h
    exact ds_out hw hb k c (d - e) (hw a c e h1).2 h2
theorem ds_far_out {w : Nat → Nat → Nat → Prop} {n : Nat} (hw : ∀ a b e, w a b e → a < n ∧ b < n) {a b : Nat} (ha : a < n) (hb : n ≤ b) : ds_far w a b = -1 := ds_far_eq (Or.inl ⟨rfl, fun d hd => by
  obtain ⟨k, hk⟩ := hd
  exact ds_out hw hb k a d ha hk⟩)
theorem iv_w_lt {m : ab_M} {n a b e : Nat} (h : iv_w m n a b e) : a < n ∧ b < n := ⟨h.1, h.2.1⟩
theorem iv_cost_w {m m1 : ab_M} {nP nP1 : Nat} (l f : Nat) (hw : iv_w m1 nP1 = iv_w m nP) (h1 : m1.1 48 = m.1 48) (h2 : m1.1 50 = m.1 50) (b1 : m1.1 53 = m.1 53) (b2 : m1.1 54 = m.1 54) (b3 : m1.1 55 = m.1 55) (b4 : m1.1 56 = m.1 56) (b5 : m1.1 57 = m.1 57) (c1 : m1.1 61 = m.1 61) (c2 : m1.1 62 = m.1 62) (c3 : m1.1 63 = m.1 63) (c4 : m1.1 64 = m.1 64) (c5 : m1.1 65 = m.1 65) (c6 : m1.1 66 = m.1 66) : iv_cost m1 nP1 l f = iv_cost m nP l f := by
  unfold iv_cost
  rw [hw, iv_rdc h1, iv_rdc h2, iv_rdc b1, iv_rdc b2, iv_rdc b3, iv_rdc b4, iv_rdc b5, iv_rdc c1, iv_rdc c2, iv_rdc c3, iv_rdc c4, iv_rdc c5, iv_rdc c6]
theorem iv_place {m : ab_M} {n : Nat} (hP : iv_P m n) (hn : n < 20) {m1 : ab_M} (e1 : m1.1 16 = (pl_c m n).1 16) (e2 : m1.1 51 = (pl_r m n (n + 1)).1 51) (e3 : m1.1 18 = m.1 18) (e4 : m1.1 17 = m.1 17) (c1 : ab_rd m1 3 3 = nI n + 1) (c2 : ab_rd m1 8 3 = nI n + 1) : iv_P m1 (n + 1) ∧ iv_w m1 (n + 1) = iv_w m n := by
  obtain ⟨g1, g2, g3, g4, g5, g6, g7, g8, g9⟩ := hP
  have r1 : ∀ i, (pl_T n i → ab_rd m1 16 i = -1) ∧ (¬ pl_T n i → ab_rd m1 16 i = ab_rd m 16 i) := by
    intro i
    have := @lp_w_rd m 16 (pl_T n) (pl_dec n) (-1) i
    rw [iv_rdc e1]
    refine ⟨fun h => this.trans (if_pos h), fun h => this.trans (if_neg h)⟩
  have r2 : ∀ i, (pl_U n (n + 1) i → ab_rd m1 51 i = 100000000) ∧ (¬ pl_U n (n + 1) i → ab_rd m1 51 i = ab_rd m 51 i) := by
    intro i
    have := @lp_w_rd m 51 (pl_U n (n + 1)) (pl_decU n (n + 1)) 100000000 i
    rw [iv_rdc e2]
    refine ⟨fun h => this.trans (if_pos h), fun h => this.trans (if_neg h)⟩
  have t1 : ∀ c d, c < n → d < n → ¬ pl_T n (c * 20 + d) := by
    intro c d hc hd h
    unfold pl_T at h
    omega
  have t2 : ∀ c d, c < n → d < n → ¬ pl_U n (n + 1) (20 * c + d) := by
    intro c d hc hd h
    unfold pl_U at h
    omega
  have t5 : ∀ c d, c < n + 1 → d < 20 → d = c ∨ n ≤ d → ab_rd m1 16 (c * 20 + d) = -1 := by
    intro c d hc hd h
    by_cases q : c = n
    · exact (r1 _).1 (by unfold pl_T; omega)
    · rw [(r1 _).2 (by unfold pl_T; omega)]
      exact g6 c d (by omega) hd h
  have t3 : ∀ c d, c < n + 1 → d < n + 1 → ¬ (c < n ∧ d < n) → ab_rd m1 16 (c * 20 + d) = -1 := by
    intro c d hc hd h
    by_cases q : c = n
    · exact (r1 _).1 (by unfold pl_T; omega)
    · exact t5 c d hc (by omega) (Or.inr (by omega))
  have t4 : ∀ c d, c < n + 1 → d < n + 1 → ¬ (c < n ∧ d < n) → pl_U n (n + 1) (20 * c + d) := by
    intro c d hc hd h
    unfold pl_U
    omega
  have hww : iv_w m1 (n + 1) = iv_w m n := by
    funext a b e
    refine propext ⟨fun h => ?_, fun h => ?_⟩
    · obtain ⟨h1, h2, h3, h4, h5⟩ := h
      by_cases q : a < n ∧ b < n
      · rw [(r1 _).2 (t1 a b q.1 q.2)] at h3
        exact ⟨q.1, q.2, h3, h4, h5⟩
      · rw [t3 a b h1 h2 q, ab_eqI, nI_toInt (by omega), ab_m1] at h3
        omega
    · obtain ⟨h1, h2, h3, h4, h5⟩ := h
      refine ⟨by omega, by omega, ?_, h4, h5⟩
      rw [(r1 _).2 (t1 a b h1 h2)]
      exact h3
  refine ⟨⟨by omega, c1.trans (nI_1 n), c2.trans (nI_1 n), fun c d hc hd => ?_, fun c d hc hd => ?_, fun c d hc h20 hd => ?_, ?_, fun c h1 h2 => ?_, fun c hc hz b hb => ?_⟩, hww⟩
  · by_cases q : c < n ∧ d < n
    · rw [(r1 _).2 (t1 c d q.1 q.2), (r2 _).2 (t2 c d q.1 q.2)]
      exact g4 c d q.1 q.2
    · exact Or.inl ⟨t3 c d hc hd q, (r2 _).1 (t4 c d hc hd q)⟩
  · by_cases q : c < n ∧ d < n
    · rw [(r1 _).2 (t1 c d q.1 q.2), (r1 _).2 (t1 d c q.2 q.1)]
      exact g5 c d q.1 q.2
    · rw [t3 c d hc hd q, t3 d c hd hc (fun z => q ⟨z.2, z.1⟩)]
  · exact t5 c d hc h20 (by omega)
  · rw [iv_rdc e3]
    exact g7
  · rw [iv_rdc e3]
    exact g8 c (by omega) h2
  · rw [iv_rdc e3] at hz
    have hcn : c < n := by
      by_cases q : c < n
      · exact q
      · exact absurd (g8 c (by omega) (by omega)) hz
    rw [iv_rdc e4, hww, g9 c hcn hz b hb]
    by_cases q : b < n
    · rw [if_pos q, if_pos (by omega)]
    · rw [if_neg q]
      by_cases q2 : b < n + 1
      · rw [if_pos q2, ds_far_out (fun a b e h => iv_w_lt h) hcn (by omega)]
      · rw [if_neg q2]
theorem op_place {Z : ab_Z} (hZ : ab_okZ Z) {m : ab_M} (hI : iv_A m) : iv_Op Z 57 104 [] m := by
  have hI' := hI
  obtain ⟨nK, nP, nF, nL, nO, hK, hN, hP, hF, hL, hC, ⟨s1, s2, s3, s4, s5, s6, s7, s8, s9⟩, hB⟩ := hI'
  have g1 := hP.1
  have g2 := hP.2.1
  have g3 := hP.2.2.1
  have cD : (ab_rd m 3 3).toInt = nP := iv_toI g2 (by omega)
  have cM : (ab_rd m 8 3).toInt = nP := iv_toI g3 (by omega)
  have e20 : (20 : Int32).toInt = 20 := rfl
  by_cases hf : nP = 20
  · refine ⟨-1, _, _, ab_Kc hZ (tk_D_place_0_0 ⟨by decide, ct_Places_isFull hZ m⟩ (ab_b_n.mpr (by rw [cD]; omega)) ⟨by decide, ct_D_refuse hZ 3 _⟩ ⟨rfl, rfl⟩) trivial (by decide) (Nat.le_of_ble_eq_true rfl), ab_Kc hZ (tk_M_place_0_0 (show ab_rd m 8 3 = 20 by rw [ab_eqI, cM, e20]; omega) ⟨by decide, ct_M_refuse hZ 3 _⟩ ⟨rfl, rfl⟩) trivial (by decide) (Nat.le_of_ble_eq_true rfl), iv_refused hI 3⟩
  · have hn : nP < 20 := by omega
    have hD : ab_C Z 40 57 [.inl (.ref 0)] m (some (nI nP)) (ab_wr (ab_wr (pl_c m nP) 3 3 (nI nP + 1)) 0 11 0) := ab_Kc hZ (tk_D_place_0_1 ⟨by decide, ct_Places_isFull hZ m⟩ (ab_b_f (by rw [cD]; omega)) ⟨by decide, ct_Places_add hZ hn g2⟩ ⟨by decide, ct_D_answer hZ _ _⟩ ⟨rfl, rfl⟩) trivial (by decide) (Nat.le_of_ble_eq_true rfl)
    have hM := ct_M_place hZ (m := ab_wr (ab_wr (pl_c m nP) 3 3 (nI nP + 1)) 0 11 0) hn g3
    obtain ⟨k1, k2⟩ := iv_place (m1 := ab_wr (pl_r (iv_m0 (ab_wr (ab_wr (pl_c m nP) 3 3 (nI nP + 1)) 0 11 0)) nP (nP + 1)) 8 3 (nI nP + 1)) hP hn rfl rfl rfl rfl rfl rfl
    exact ⟨nI nP, _, _, hD, hM, nK, nP + 1, nF, nL, nO, hK.cong rfl rfl rfl rfl rfl rfl rfl, hN.cong rfl rfl, k1, (hF.more (Nat.le_refl nK) (Nat.le_succ nP)).cong rfl rfl rfl rfl rfl rfl rfl rfl rfl rfl rfl rfl rfl rfl rfl rfl rfl rfl, (hL.more (Nat.le_refl nK) (Nat.le_succ nP)).cong rfl rfl rfl rfl rfl rfl rfl rfl rfl rfl rfl rfl rfl rfl rfl rfl, hC.cong rfl rfl rfl, ⟨rfl, s2, s3, s4, s5, s6, s7, s8, s9⟩, hB.cong rfl rfl rfl rfl rfl rfl rfl rfl rfl rfl (fun l f _ _ => iv_cost_w l f k2 rfl rfl rfl rfl rfl rfl rfl rfl rfl rfl rfl rfl rfl)⟩
