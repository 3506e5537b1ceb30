/-! ===== the law's loop ===== -/
theorem lw_sub7 {L : Nat} (hL : L ≤ 3584) : (Int32.ofNat L - 7).toInt = (L : Int) - 7 := by
  have h1 : (nI L).toInt = (L : Int) := nI_toInt (by omega)
  have h2 : (7 : Int32).toInt = 7 := rfl
  have := ab_subI (x := nI L) (y := 7) (by rw [h1, h2]; omega) (by rw [h1, h2]; omega)
  rw [h1, h2] at this
  exact this
set_option maxHeartbeats 4000000 in
theorem lw_loop {Z : ab_Z} (hZ : ab_okZ Z) {X : ab_X} (hX : ab_okX Z X ∧ ab_xk X = 147) (hd : ab_xd X = 41) (hs : ab_scr X) (hL : ab_xL X ≤ 3584) (hE : ∀ (x3 : Int32) (m : ab_M), ab_G Z X (971, [(0, .inl (.ref 999)), (1, .inl (.ref 0)), (2, .inl (.ref 8)), (3, .inl (.int x3))], [.inl (.int 1)], m)) : ∀ (r q : Nat) (m : ab_M), iv_A m → q ≤ ab_xL X + 7 → ab_xL X + 7 ≤ q + r → ab_G Z X (18, [(0, .inl (.ref 999)), (1, .inl (.ref 0)), (2, .inl (.ref 8)), (3, .inl (.int (nI q)))], [], m) := by
  intro r
  induction r with
  | zero =>
    intro q m hI h1 h2
    refine bk_L_law_55 hX hs ?_ (hE _ m)
    rw [ab_ltI, lw_sub7 hL, nI_toInt (by omega)]
    omega
  | succ r ih =>
    intro q m hI h1 h2
    by_cases hc : Int32.ofNat (ab_xL X) - 7 < nI q
    · exact bk_L_law_55 hX hs hc (hE _ m)
    · have hc2 := hc
      rw [ab_ltI, lw_sub7 hL, nI_toInt (by omega)] at hc2
      have hlt : 40 < ab_xd X := by rw [hd]; decide
      have hnext : ∀ m2, iv_A m2 → ab_G Z X (18, [(0, .inl (.ref 999)), (1, .inl (.ref 0)), (2, .inl (.ref 8)), (3, .inl (.int (nI q + 7)))], [], m2) := fun m2 hI2 => by
        have h9 := ih (q + 7) m2 hI2 (by omega) (by omega)
        rw [← nI_add q 7] at h9
        exact h9
      have v0 : vp_in (nI q) (ab_xL X) := ab_in (by omega) (by omega)
      have v1 : vp_in (nI q + 1) (ab_xL X) := by
        have h9 : vp_in (nI (q + 1)) (ab_xL X) := ab_in (by omega) (by omega)
        rw [← nI_add q 1] at h9
        exact h9
      have v2 : vp_in (nI q + 2) (ab_xL X) := by
        have h9 : vp_in (nI (q + 2)) (ab_xL X) := ab_in (by omega) (by omega)
        rw [← nI_add q 2] at h9
        exact h9
      have v3 : vp_in (nI q + 3) (ab_xL X) := by
        have h9 : vp_in (nI (q + 3)) (ab_xL X) := ab_in (by omega) (by omega)
        rw [← nI_add q 3] at h9
        exact h9
      have v4 : vp_in (nI q + 4) (ab_xL X) := by
        have h9 : vp_in (nI (q + 4)) (ab_xL X) := ab_in (by omega) (by omega)
        rw [← nI_add q 4] at h9
        exact h9
      have v5 : vp_in (nI q + 5) (ab_xL X) := by
        have h9 : vp_in (nI (q + 5)) (ab_xL X) := ab_in (by omega) (by omega)
        rw [← nI_add q 5] at h9
        exact h9
      have v6 : vp_in (nI q + 6) (ab_xL X) := by
        have h9 : vp_in (nI (q + 6)) (ab_xL X) := ab_in (by omega) (by omega)
        rw [← nI_add q 6] at h9
        exact h9
      have hw := hs
      by_cases h0 : (ab_xs X (nI q).toNatClampNeg &&& 31).toInt < 0 ∨ ((23 : Nat) : Int) < (ab_xs X (nI q).toNatClampNeg &&& 31).toInt
      · exact bk_L_law_0 hX hs hc ⟨hs, v0⟩ h0 (hnext m hI)
      · have h24 : ab_xs X (nI q).toNatClampNeg &&& 31 = 0 ∨ ab_xs X (nI q).toNatClampNeg &&& 31 = 1 ∨ ab_xs X (nI q).toNatClampNeg &&& 31 = 2 ∨ ab_xs X (nI q).toNatClampNeg &&& 31 = 3 ∨ ab_xs X (nI q).toNatClampNeg &&& 31 = 4 ∨ ab_xs X (nI q).toNatClampNeg &&& 31 = 5 ∨ ab_xs X (nI q).toNatClampNeg &&& 31 = 6 ∨ ab_xs X (nI q).toNatClampNeg &&& 31 = 7 ∨ ab_xs X (nI q).toNatClampNeg &&& 31 = 8 ∨ ab_xs X (nI q).toNatClampNeg &&& 31 = 9 ∨ ab_xs X (nI q).toNatClampNeg &&& 31 = 10 ∨ ab_xs X (nI q).toNatClampNeg &&& 31 = 11 ∨ ab_xs X (nI q).toNatClampNeg &&& 31 = 12 ∨ ab_xs X (nI q).toNatClampNeg &&& 31 = 13 ∨ ab_xs X (nI q).toNatClampNeg &&& 31 = 14 ∨ ab_xs X (nI q).toNatClampNeg &&& 31 = 15 ∨ ab_xs X (nI q).toNatClampNeg &&& 31 = 16 ∨ ab_xs X (nI q).toNatClampNeg &&& 31 = 17 ∨ ab_xs X (nI q).toNatClampNeg &&& 31 = 18 ∨ ab_xs X (nI q).toNatClampNeg &&& 31 = 19 ∨ ab_xs X (nI q).toNatClampNeg &&& 31 = 20 ∨ ab_xs X (nI q).toNatClampNeg &&& 31 = 21 ∨ ab_xs X (nI q).toNatClampNeg &&& 31 = 22 ∨ ab_xs X (nI q).toNatClampNeg &&& 31 = 23 := by
          have e : ∀ (z : Int32) (k : Int), z.toInt = k → (ab_xs X (nI q).toNatClampNeg &&& 31).toInt = k → ab_xs X (nI q).toNatClampNeg &&& 31 = z := fun z k e1 e2 => (ab_eqI _ _).mpr (e2.trans e1.symm)
          generalize (ab_xs X (nI q).toNatClampNeg &&& 31).toInt = u at h0 e
          have hu : 0 ≤ u ∧ u ≤ 23 := by
            have e9 : ((23 : Nat) : Int) = 23 := rfl
            rw [e9] at h0
            omega
          rcases (by omega : u = 0 ∨ u = 1 ∨ u = 2 ∨ u = 3 ∨ u = 4 ∨ u = 5 ∨ u = 6 ∨ u = 7 ∨ u = 8 ∨ u = 9 ∨ u = 10 ∨ u = 11 ∨ u = 12 ∨ u = 13 ∨ u = 14 ∨ u = 15 ∨ u = 16 ∨ u = 17 ∨ u = 18 ∨ u = 19 ∨ u = 20 ∨ u = 21 ∨ u = 22 ∨ u = 23) with h | h | h | h | h | h | h | h | h | h | h | h | h | h | h | h | h | h | h | h | h | h | h | h
          · exact Or.inl (e 0 0 rfl h)
          · exact Or.inr (Or.inl (e 1 1 rfl h))
          · exact Or.inr (Or.inr (Or.inl (e 2 2 rfl h)))
          · exact Or.inr (Or.inr (Or.inr (Or.inl (e 3 3 rfl h))))
          · exact Or.inr (Or.inr (Or.inr (Or.inr (Or.inl (e 4 4 rfl h)))))
          · exact Or.inr (Or.inr (Or.inr (Or.inr (Or.inr (Or.inl (e 5 5 rfl h))))))
          · exact Or.inr (Or.inr (Or.inr (Or.inr (Or.inr (Or.inr (Or.inl (e 6 6 rfl h)))))))
          · exact Or.inr (Or.inr (Or.inr (Or.inr (Or.inr (Or.inr (Or.inr (Or.inl (e 7 7 rfl h))))))))
          · exact Or.inr (Or.inr (Or.inr (Or.inr (Or.inr (Or.inr (Or.inr (Or.inr (Or.inl (e 8 8 rfl h)))))))))
          · exact Or.inr (Or.inr (Or.inr (Or.inr (Or.inr (Or.inr (Or.inr (Or.inr (Or.inr (Or.inl (e 9 9 rfl h))))))))))
          · exact Or.inr (Or.inr (Or.inr (Or.inr (Or.inr (Or.inr (Or.inr (Or.inr (Or.inr (Or.inr (Or.inl (e 10 10 rfl h)))))))))))
          · exact Or.inr (Or.inr (Or.inr (Or.inr (Or.inr (Or.inr (Or.inr (Or.inr (Or.inr (Or.inr (Or.inr (Or.inl (e 11 11 rfl h))))))))))))
          · exact Or.inr (Or.inr (Or.inr (Or.inr (Or.inr (Or.inr (Or.inr (Or.inr (Or.inr (Or.inr (Or.inr (Or.inr (Or.inl (e 12 12 rfl h)))))))))))))
          · exact Or.inr (Or.inr (Or.inr (Or.inr (Or.inr (Or.inr (Or.inr (Or.inr (Or.inr (Or.inr (Or.inr (Or.inr (Or.inr (Or.inl (e 13 13 rfl h))))))))))))))
          · exact Or.inr (Or.inr (Or.inr (Or.inr (Or.inr (Or.inr (Or.inr (Or.inr (Or.inr (Or.inr (Or.inr (Or.inr (Or.inr (Or.inr (Or.inl (e 14 14 rfl h)))))))))))))))
          · exact Or.inr (Or.inr (Or.inr (Or.inr (Or.inr (Or.inr (Or.inr (Or.inr (Or.inr (Or.inr (Or.inr (Or.inr (Or.inr (Or.inr (Or.inr (Or.inl (e 15 15 rfl h))))))))))))))))
          · exact Or.inr (Or.inr (Or.inr (Or.inr (Or.inr (Or.inr (Or.inr (Or.inr (Or.inr (Or.inr (Or.inr (Or.inr (Or.inr (Or.inr (Or.inr (Or.inr (Or.inl (e 16 16 rfl h)))))))))))))))))
          · exact Or.inr (Or.inr (Or.inr (Or.inr (Or.inr (Or.inr (Or.inr (Or.inr (Or.inr (Or.inr (Or.inr (Or.inr (Or.inr (Or.inr (Or.inr (Or.inr (Or.inr (Or.inl (e 17 17 rfl h))))))))))))))))))
          · exact Or.inr (Or.inr (Or.inr (Or.inr (Or.inr (Or.inr (Or.inr (Or.inr (Or.inr (Or.inr (Or.inr (Or.inr (Or.inr (Or.inr (Or.inr (Or.inr (Or.inr (Or.inr (Or.inl (e 18 18 rfl h)))))))))))))))))))
          · exact Or.inr (Or.inr (Or.inr (Or.inr (Or.inr (Or.inr (Or.inr (Or.inr (Or.inr (Or.inr (Or.inr (Or.inr (Or.inr (Or.inr (Or.inr (Or.inr (Or.inr (Or.inr (Or.inr (Or.inl (e 19 19 rfl h))))))))))))))))))))
          · exact Or.inr (Or.inr (Or.inr (Or.inr (Or.inr (Or.inr (Or.inr (Or.inr (Or.inr (Or.inr (Or.inr (Or.inr (Or.inr (Or.inr (Or.inr (Or.inr (Or.inr (Or.inr (Or.inr (Or.inr (Or.inl (e 20 20 rfl h)))))))))))))))))))))
          · exact Or.inr (Or.inr (Or.inr (Or.inr (Or.inr (Or.inr (Or.inr (Or.inr (Or.inr (Or.inr (Or.inr (Or.inr (Or.inr (Or.inr (Or.inr (Or.inr (Or.inr (Or.inr (Or.inr (Or.inr (Or.inr (Or.inl (e 21 21 rfl h))))))))))))))))))))))
          · exact Or.inr (Or.inr (Or.inr (Or.inr (Or.inr (Or.inr (Or.inr (Or.inr (Or.inr (Or.inr (Or.inr (Or.inr (Or.inr (Or.inr (Or.inr (Or.inr (Or.inr (Or.inr (Or.inr (Or.inr (Or.inr (Or.inr (Or.inl (e 22 22 rfl h)))))))))))))))))))))))
          · exact Or.inr (Or.inr (Or.inr (Or.inr (Or.inr (Or.inr (Or.inr (Or.inr (Or.inr (Or.inr (Or.inr (Or.inr (Or.inr (Or.inr (Or.inr (Or.inr (Or.inr (Or.inr (Or.inr (Or.inr (Or.inr (Or.inr (Or.inr ((e 23 23 rfl h))))))))))))))))))))))))
        rcases h24 with hk | hk | hk | hk | hk | hk | hk | hk | hk | hk | hk | hk | hk | hk | hk | hk | hk | hk | hk | hk | hk | hk | hk | hk
        · obtain ⟨r9, m1, m2, g1, g2, hI2⟩ := op_status hZ hI
          exact bk_L_law_2 hX hs hc ⟨hs, v0⟩ hk ⟨hlt, g1⟩ ⟨hlt, g2⟩ rfl (hnext m2 hI2)
        · obtain ⟨r9, m1, m2, g1, g2, hI2⟩ := op_kind hZ ((ab_xs X (nI q + 1).toNatClampNeg)) hI
          exact bk_L_law_4 hX hs hc ⟨hs, v0⟩ hk ⟨hs, v1⟩ ⟨hlt, g1⟩ ⟨hs, v1⟩ ⟨hlt, g2⟩ rfl (hnext m2 hI2)
        · by_cases hz : ab_xs X (nI q + 3).toNatClampNeg = 0
          · obtain ⟨r9, m1, m2, g1, g2, hI2⟩ := op_near hZ ((ab_xs X (nI q + 1).toNatClampNeg)) ((ab_xs X (nI q + 2).toNatClampNeg)) (0) (Or.inl rfl) hI
            exact bk_L_law_12 hX hs hc ⟨hs, v0⟩ hk ⟨hs, v1⟩ ⟨hs, v2⟩ ⟨hs, v3⟩ hz ⟨hlt, g1⟩ ⟨hs, v1⟩ ⟨hs, v2⟩ ⟨hs, v3⟩ hz ⟨hlt, g2⟩ rfl (hnext m2 hI2)
          · obtain ⟨r9, m1, m2, g1, g2, hI2⟩ := op_near hZ ((ab_xs X (nI q + 1).toNatClampNeg)) ((ab_xs X (nI q + 2).toNatClampNeg)) (1) (Or.inr rfl) hI
            exact bk_L_law_6 hX hs hc ⟨hs, v0⟩ hk ⟨hs, v1⟩ ⟨hs, v2⟩ ⟨hs, v3⟩ hz ⟨hlt, g1⟩ ⟨hs, v1⟩ ⟨hs, v2⟩ ⟨hs, v3⟩ hz ⟨hlt, g2⟩ rfl (hnext m2 hI2)
        · obtain ⟨r9, m1, m2, g1, g2, hI2⟩ := op_place hZ hI
          exact bk_L_law_14 hX hs hc ⟨hs, v0⟩ hk ⟨hlt, g1⟩ ⟨hlt, g2⟩ rfl (hnext m2 hI2)
        · obtain ⟨r9, m1, m2, g1, g2, hI2⟩ := op_way hZ ((ab_xs X (nI q + 1).toNatClampNeg)) ((ab_xs X (nI q + 2).toNatClampNeg)) ((ab_xs X (nI q + 3).toNatClampNeg)) hI
          exact bk_L_law_16 hX hs hc ⟨hs, v0⟩ hk ⟨hs, v1⟩ ⟨hs, v2⟩ ⟨hs, v3⟩ ⟨hlt, g1⟩ ⟨hs, v1⟩ ⟨hs, v2⟩ ⟨hs, v3⟩ ⟨hlt, g2⟩ rfl (hnext m2 hI2)
        · obtain ⟨r9, m1, m2, g1, g2, hI2⟩ := op_far hZ ((ab_xs X (nI q + 1).toNatClampNeg)) ((ab_xs X (nI q + 2).toNatClampNeg)) hI
          exact bk_L_law_18 hX hs hc ⟨hs, v0⟩ hk ⟨hs, v1⟩ ⟨hs, v2⟩ ⟨hlt, g1⟩ ⟨hs, v1⟩ ⟨hs, v2⟩ ⟨hlt, g2⟩ rfl (hnext m2 hI2)
        · obtain ⟨r9, m1, m2, g1, g2, hI2⟩ := op_found hZ ((ab_xs X (nI q + 1).toNatClampNeg)) ((ab_xs X (nI q + 2).toNatClampNeg)) ((ab_xs X (nI q + 3).toNatClampNeg)) ((ab_xs X (nI q + 4).toNatClampNeg)) ((ab_xs X (nI q + 5).toNatClampNeg)) hI
          exact bk_L_law_20 hX hs hc ⟨hs, v0⟩ hk ⟨hs, v1⟩ ⟨hs, v2⟩ ⟨hs, v3⟩ ⟨hs, v4⟩ ⟨hs, v5⟩ ⟨hlt, g1⟩ ⟨hs, v1⟩ ⟨hs, v2⟩ ⟨hs, v3⟩ ⟨hs, v4⟩ ⟨hs, v5⟩ ⟨hlt, g2⟩ rfl (hnext m2 hI2)
        · obtain ⟨r9, m1, m2, g1, g2, hI2⟩ := op_lost hZ ((ab_xs X (nI q + 1).toNatClampNeg)) ((ab_xs X (nI q + 2).toNatClampNeg)) ((ab_xs X (nI q + 3).toNatClampNeg)) ((ab_xs X (nI q + 4).toNatClampNeg)) ((ab_xs X (nI q + 5).toNatClampNeg)) ((ab_xs X (nI q + 6).toNatClampNeg)) hI
          exact bk_L_law_22 hX hs hc ⟨hs, v0⟩ hk ⟨hs, v1⟩ ⟨hs, v2⟩ ⟨hs, v3⟩ ⟨hs, v4⟩ ⟨hs, v5⟩ ⟨hs, v6⟩ ⟨hlt, g1⟩ ⟨hs, v1⟩ ⟨hs, v2⟩ ⟨hs, v3⟩ ⟨hs, v4⟩ ⟨hs, v5⟩ ⟨hs, v6⟩ ⟨hlt, g2⟩ rfl (hnext m2 hI2)
        · obtain ⟨r9, m1, m2, g1, g2, hI2⟩ := op_told hZ ((ab_xs X (nI q + 1).toNatClampNeg)) ((ab_xs X (nI q + 2).toNatClampNeg)) hI
          exact bk_L_law_24 hX hs hc ⟨hs, v0⟩ hk ⟨hs, v1⟩ ⟨hs, v2⟩ ⟨hlt, g1⟩ ⟨hs, v1⟩ ⟨hs, v2⟩ ⟨hlt, g2⟩ rfl (hnext m2 hI2)
        · obtain ⟨r9, m1, m2, g1, g2, hI2⟩ := op_cost hZ ((ab_xs X (nI q + 1).toNatClampNeg)) ((ab_xs X (nI q + 2).toNatClampNeg)) hI
          exact bk_L_law_26 hX hs hc ⟨hs, v0⟩ hk ⟨hs, v1⟩ ⟨hs, v2⟩ ⟨hlt, g1⟩ ⟨hs, v1⟩ ⟨hs, v2⟩ ⟨hlt, g2⟩ rfl (hnext m2 hI2)
        · obtain ⟨r9, m1, m2, g1, g2, hI2⟩ := op_gap hZ ((ab_xs X (nI q + 1).toNatClampNeg)) hI
          exact bk_L_law_28 hX hs hc ⟨hs, v0⟩ hk ⟨hs, v1⟩ ⟨hlt, g1⟩ ⟨hs, v1⟩ ⟨hlt, g2⟩ rfl (hnext m2 hI2)
        · obtain ⟨r9, m1, m2, g1, g2, hI2⟩ := op_match hZ hI
          exact bk_L_law_30 hX hs hc ⟨hs, v0⟩ hk ⟨hlt, g1⟩ ⟨hlt, g2⟩ rfl (hnext m2 hI2)
        · obtain ⟨r9, m1, m2, g1, g2, hI2⟩ := op_matched hZ ((ab_xs X (nI q + 1).toNatClampNeg)) hI
          exact bk_L_law_32 hX hs hc ⟨hs, v0⟩ hk ⟨hs, v1⟩ ⟨hlt, g1⟩ ⟨hs, v1⟩ ⟨hlt, g2⟩ rfl (hnext m2 hI2)
        · obtain ⟨r9, m1, m2, g1, g2, hI2⟩ := op_sure hZ ((ab_xs X (nI q + 1).toNatClampNeg)) ((ab_xs X (nI q + 2).toNatClampNeg)) hI
          exact bk_L_law_34 hX hs hc ⟨hs, v0⟩ hk ⟨hs, v1⟩ ⟨hs, v2⟩ ⟨hlt, g1⟩ ⟨hs, v1⟩ ⟨hs, v2⟩ ⟨hlt, g2⟩ rfl (hnext m2 hI2)
        · obtain ⟨r9, m1, m2, g1, g2, hI2⟩ := op_alike hZ ((ab_xs X (nI q + 1).toNatClampNeg)) ((ab_xs X (nI q + 2).toNatClampNeg)) hI
          exact bk_L_law_36 hX hs hc ⟨hs, v0⟩ hk ⟨hs, v1⟩ ⟨hs, v2⟩ ⟨hlt, g1⟩ ⟨hs, v1⟩ ⟨hs, v2⟩ ⟨hlt, g2⟩ rfl (hnext m2 hI2)
        · obtain ⟨r9, m1, m2, g1, g2, hI2⟩ := op_questions hZ ((ab_xs X (nI q + 1).toNatClampNeg)) ((ab_xs X (nI q + 2).toNatClampNeg)) hI
          exact bk_L_law_38 hX hs hc ⟨hs, v0⟩ hk ⟨hs, v1⟩ ⟨hs, v2⟩ ⟨hlt, g1⟩ ⟨hs, v1⟩ ⟨hs, v2⟩ ⟨hlt, g2⟩ rfl (hnext m2 hI2)
        · obtain ⟨r9, m1, m2, g1, g2, hI2⟩ := op_claim hZ ((ab_xs X (nI q + 1).toNatClampNeg)) ((ab_xs X (nI q + 2).toNatClampNeg)) ((ab_xs X (nI q + 3).toNatClampNeg)) ((ab_xs X (nI q + 4).toNatClampNeg)) hI
          exact bk_L_law_40 hX hs hc ⟨hs, v0⟩ hk ⟨hs, v1⟩ ⟨hs, v2⟩ ⟨hs, v3⟩ ⟨hs, v4⟩ ⟨hlt, g1⟩ ⟨hs, v1⟩ ⟨hs, v2⟩ ⟨hs, v3⟩ ⟨hs, v4⟩ ⟨hlt, g2⟩ rfl (hnext m2 hI2)
        · obtain ⟨r9, m1, m2, g1, g2, hI2⟩ := op_hand hZ ((ab_xs X (nI q + 1).toNatClampNeg)) ((ab_xs X (nI q + 2).toNatClampNeg)) hI
          exact bk_L_law_42 hX hs hc ⟨hs, v0⟩ hk ⟨hs, v1⟩ ⟨hs, v2⟩ ⟨hlt, g1⟩ ⟨hs, v1⟩ ⟨hs, v2⟩ ⟨hlt, g2⟩ rfl (hnext m2 hI2)
        · obtain ⟨r9, m1, m2, g1, g2, hI2⟩ := op_bag hZ ((ab_xs X (nI q + 1).toNatClampNeg)) ((ab_xs X (nI q + 2).toNatClampNeg)) hI
          exact bk_L_law_44 hX hs hc ⟨hs, v0⟩ hk ⟨hs, v1⟩ ⟨hs, v2⟩ ⟨hlt, g1⟩ ⟨hs, v1⟩ ⟨hs, v2⟩ ⟨hlt, g2⟩ rfl (hnext m2 hI2)
        · obtain ⟨r9, m1, m2, g1, g2, hI2⟩ := op_keeping hZ ((ab_xs X (nI q + 1).toNatClampNeg)) ((ab_xs X (nI q + 2).toNatClampNeg)) hI
          exact bk_L_law_46 hX hs hc ⟨hs, v0⟩ hk ⟨hs, v1⟩ ⟨hs, v2⟩ ⟨hlt, g1⟩ ⟨hs, v1⟩ ⟨hs, v2⟩ ⟨hlt, g2⟩ rfl (hnext m2 hI2)
        · obtain ⟨r9, m1, m2, g1, g2, hI2⟩ := op_due hZ ((ab_xs X (nI q + 1).toNatClampNeg)) hI
          exact bk_L_law_48 hX hs hc ⟨hs, v0⟩ hk ⟨hs, v1⟩ ⟨hlt, g1⟩ ⟨hs, v1⟩ ⟨hlt, g2⟩ rfl (hnext m2 hI2)
        · obtain ⟨r9, m1, m2, g1, g2, hI2⟩ := op_tick hZ ((ab_xs X (nI q + 1).toNatClampNeg)) hI
          exact bk_L_law_50 hX hs hc ⟨hs, v0⟩ hk ⟨hs, v1⟩ ⟨hlt, g1⟩ ⟨hs, v1⟩ ⟨hlt, g2⟩ rfl (hnext m2 hI2)
        · obtain ⟨r9, m1, m2, g1, g2, hI2⟩ := op_reward hZ ((ab_xs X (nI q + 1).toNatClampNeg)) ((ab_xs X (nI q + 2).toNatClampNeg)) ((ab_xs X (nI q + 3).toNatClampNeg)) ((ab_xs X (nI q + 4).toNatClampNeg)) hI
          exact bk_L_law_52 hX hs hc ⟨hs, v0⟩ hk ⟨hs, v1⟩ ⟨hs, v2⟩ ⟨hs, v3⟩ ⟨hs, v4⟩ ⟨hlt, g1⟩ ⟨hs, v1⟩ ⟨hs, v2⟩ ⟨hs, v3⟩ ⟨hs, v4⟩ ⟨hlt, g2⟩ rfl (hnext m2 hI2)
        · obtain ⟨r9, m1, m2, g1, g2, hI2⟩ := op_out hZ ((ab_xs X (nI q + 1).toNatClampNeg)) hI
          exact bk_L_law_54 hX hs hc ⟨hs, v0⟩ hk ⟨hs, v1⟩ ⟨hlt, g1⟩ ⟨hs, v1⟩ ⟨hlt, g2⟩ rfl (hnext m2 hI2)
