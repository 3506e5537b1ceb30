/-! ===== what a pair costs ===== -/
theorem nn_of {x : Int32} (h : 0 ≤ x.toInt) : x = nI x.toInt.toNat := by
  have := ab_rng x
  rw [ab_eqI, nI_toInt (by omega)]
  omega
theorem nn_sum {x r z : Int32} (hx : 0 ≤ x.toInt ∧ x.toInt ≤ 1000) (hr : 0 ≤ r.toInt ∧ r.toInt ≤ 63) (hz : z.toInt ≤ 300000) : ((x + 3 * r) + (ab_max 0 z / 10)).toInt = x.toInt + 3 * r.toInt + (max 0 z.toInt) / 10 ∧ (max 0 z.toInt) / 10 ≤ 30000 ∧ 0 ≤ (max 0 z.toInt) / 10 := by
  have hm := ab_max_I 0 z
  rw [ab_t0] at hm
  have e1 := nn_of hx.1
  have e2 := nn_of hr.1
  have e3 : ab_max 0 z = nI (max 0 z.toInt).toNat := by rw [nn_of (x := ab_max 0 z) (by omega), hm]
  rw [e3, e1, e2, show (3 : Int32) = nI 3 from rfl, show (10 : Int32) = nI 10 from rfl, pk_mul, nI_add, pk_div (by omega) (by decide) (by decide), nI_add, nI_toInt (by omega), nI_toInt (by omega), nI_toInt (by omega)]
  omega
theorem nn_2 {x y : Int32} (hx : 0 ≤ x.toInt ∧ x.toInt ≤ 100) (hy : 0 ≤ y.toInt ∧ y.toInt ≤ 2) : (2 * x + y).toInt = 2 * x.toInt + y.toInt := by
  have e1 := nn_of hx.1
  have e2 := nn_of hy.1
  rw [e1, e2, show (2 : Int32) = nI 2 from rfl, pk_mul, nI_add, nI_toInt (by omega), nI_toInt (by omega), nI_toInt (by omega)]
  omega
theorem ct_Colours_shades {Z : ab_Z} (hZ : ab_okZ Z) {m : ab_M} {x y : Int32} (hN : iv_N m) (hx : -1 ≤ x.toInt ∧ x.toInt < 12) (hy : -1 ≤ y.toInt ∧ y.toInt < 12) : ∃ v : Int32, ab_C Z 1 2 [.inl (.ref 2), .inl (.int x), .inl (.int y)] m (some v) m ∧ v.toInt = ct_col (fun a b => ¬ ab_rd m 50 (12 * a + b) = 0) x y := by
  unfold ct_col
  by_cases e : x = y
  · exact ⟨0, ab_Kc hZ (tk_Colours_shades_0_0 e ⟨rfl, rfl⟩) trivial (by decide) (Nat.le_of_ble_eq_true rfl), by rw [if_pos e]; rfl⟩
  · rw [if_neg e]
    by_cases q1 : x = -1
    · exact ⟨2, ab_Kc hZ (tk_Colours_shades_0_4 e q1 ⟨rfl, rfl⟩) trivial (by decide) (Nat.le_of_ble_eq_true rfl), by rw [if_pos (Or.inl q1)]; rfl⟩
    · by_cases q2 : y = -1
      · exact ⟨2, ab_Kc hZ (tk_Colours_shades_0_1 e q1 q2 ⟨rfl, rfl⟩) trivial (by decide) (Nat.le_of_ble_eq_true rfl), by rw [if_pos (Or.inr q2)]; rfl⟩
      · rw [if_neg (fun z => z.elim q1 q2)]
        rw [dk_m1] at q1 q2
        obtain ⟨a, ha, rfl⟩ := iv_ix (x := x) (n := 12) (by omega) (by decide)
        obtain ⟨b, hb, rfl⟩ := iv_ix (x := y) (n := 12) (by omega) (by decide)
        obtain ⟨w, hw, ew, hb2⟩ := hN.1 a ha
        have hn := ct_Colours_areNear hZ ha hb hw m ew
        rw [ab_cl (by omega), ab_cl (by omega)]
        show ∃ v : Int32, ab_C Z 1 2 [.inl (.ref 2), .inl (.int (nI a)), .inl (.int (nI b))] m (some v) m ∧ v.toInt = if ¬ ab_rd m 50 (12 * a + b) = 0 then 1 else -1
        rw [hb2 b hb]
        have n1 : ¬ nI a = -1 := fun z => q1 ((dk_m1 _).mp z)
        have n2 : ¬ nI b = -1 := fun z => q2 ((dk_m1 _).mp z)
        by_cases t : w.testBit b = true
        · exact ⟨1, ab_Kc hZ (tk_Colours_shades_0_2 e n1 n2 ⟨(by decide : 0 < 1), hn⟩ (ab_b_n.mpr t) ⟨rfl, rfl⟩) trivial (by decide) (Nat.le_of_ble_eq_true rfl), by rw [if_pos t, if_pos (by decide)]; rfl⟩
        · exact ⟨-1, ab_Kc hZ (tk_Colours_shades_0_3 e n1 n2 ⟨(by decide : 0 < 1), hn⟩ (ab_b_0.mpr t) ⟨rfl, rfl⟩) trivial (by decide) (Nat.le_of_ble_eq_true rfl), by rw [if_neg t, if_neg (by decide)]; rfl⟩
theorem cc_le (near : Nat → Nat → Prop) [∀ a b, Decidable (near a b)] (x y : Int32) : -1 ≤ ct_col near x y ∧ ct_col near x y ≤ 2 := by
  unfold ct_col
  by_cases e : x = y
  · rw [if_pos e]
    omega
  · rw [if_neg e]
    by_cases q : x = -1 ∨ y = -1
    · rw [if_pos q]
      omega
    · rw [if_neg q]
      by_cases t : near x.toNatClampNeg y.toNatClampNeg
      · rw [if_pos t]
        omega
      · rw [if_neg t]
        omega
theorem iv_on_le {up : Nat → Int32} {a b : Nat} : -1 ≤ iv_on (kd_st up a b) ∧ iv_on (kd_st up a b) ≤ 40 := by
  cases e : kd_st up a b with
  | none => exact ⟨Int.le_refl _, by decide⟩
  | some s =>
    have := kd_st_lt e
    show -1 ≤ (s : Int) ∧ (s : Int) ≤ 40
    omega
theorem ct_D_pairCost {Z : ab_Z} (hZ : ab_okZ Z) {m : ab_M} {nK nP nF nL l f : Nat} (hK : iv_K m nK) (hN : iv_N m) (hP : iv_P m nP) (hF : iv_F m nK nP nF) (hL : iv_L m nK nP nL) (hl : l < nL) (hf : f < nF) : ab_K Z 4 86 [.inl (.ref 0), .inl (.int (nI l)), .inl (.int (nI f))] m (fun r m9 => (∃ v : Int32, r = some v ∧ v.toInt = iv_cost m nP l f) ∧ iv_ch m m9 ∧ iv_P m9 nP) := by
  obtain ⟨k1, k2, k3, k4, k5, k6, k7, k8⟩ := id hK
  obtain ⟨f1, f2, f3, a1, a2, a3, a4, a5, a6, a7, a8, ff⟩ := id hF
  obtain ⟨l1, l2, l3, b1, b2, b3, b4, b5, b6, b7, b8, b9, ll⟩ := id hL
  obtain ⟨⟨kf, hkf, ekf⟩, cf, -, ⟨pf, hpf, epf⟩, tf, -, -⟩ := ff f hf
  obtain ⟨⟨kl, hkl, ekl⟩, cl, -, ⟨pl, hpl, epl⟩, tl⟩ := ll l hl
  have p1 : nP ≤ 20 := hP.1
  have il := ab_in (n := l) (N := 24) (by omega) (by decide)
  have ifi := ab_in (n := f) (N := 24) (by omega) (by decide)
  have xl := ab_cl (n := l) (by omega)
  have xf := ab_cl (n := f) (by omega)
  have hst := ct_Kinds_steps hZ (m := m) k1 k6 k8 hkl hkf
  obtain ⟨c, hsh, hc⟩ := ct_Colours_shades hZ (m := m) hN cl cf
  have hcost : iv_cost m nP l f = ct_sum (iv_on (kd_st (ab_rd m 48) kl kf)) c.toInt (ds_far (iv_w m nP) pl pf) (ab_bc (ab_rd m 63 l &&& (ab_rd m 55 f ^^^ -1))).toInt (ab_rd m 57 f).toInt (ab_rd m 65 l).toInt (ab_rd m 66 l).toInt := by
    unfold iv_cost
    rw [ekl, ekf, epl, epf, ab_cl (by omega), ab_cl (by omega), ab_cl (by omega), ab_cl (by omega), hc]
  have hsI : (kd_i (kd_st (ab_rd m 48) kl kf)).toInt = iv_on (kd_st (ab_rd m 48) kl kf) := kd_i_I (fun s hs => kd_st_lt hs)
  have hsl := iv_on_le (up := ab_rd m 48) (a := kl) (b := kf)
  have hcl : -1 ≤ c.toInt ∧ c.toInt ≤ 2 := by rw [hc]; exact cc_le (fun a b => ¬ ab_rd m 50 (12 * a + b) = 0) _ _
  have hst' : ab_C Z 1 14 [.inl (.ref 1), .inl (.int (ab_rd m 27 (nI l).toNatClampNeg)), .inl (.int (ab_rd m 19 (nI f).toNatClampNeg))] m (some (kd_i (kd_st (ab_rd m 48) kl kf))) m := by
    rw [xl, xf, b1, a1, ekl, ekf]
    exact hst
  have hsh' : ab_C Z 1 2 [.inl (.ref 2), .inl (.int (ab_rd m 28 (nI l).toNatClampNeg)), .inl (.int (ab_rd m 20 (nI f).toNatClampNeg))] m (some c) m := by
    rw [xl, xf, b2, a2]
    exact hsh
  refine ab_Ki hZ ?_ (fun r m1 h => by obtain ⟨⟨v, rfl, -⟩, -⟩ := h; trivial) (by decide) (Nat.le_of_ble_eq_true rfl)
  by_cases q1 : kd_i (kd_st (ab_rd m 48) kl kf) = -1
  · refine tk_D_pairCost_0_2 il ifi ⟨(by decide : 1 < 4), hst'⟩ il ifi ⟨(by decide : 1 < 4), hsh'⟩ q1 ⟨⟨-1, rfl, ?_⟩, iv_ch.refl m, hP⟩
    rw [dk_m1, hsI] at q1
    rw [hcost]
    unfold ct_sum
    rw [if_pos (Or.inl (by omega))]
    rfl
  · by_cases q2 : c = -1
    · refine tk_D_pairCost_0_0 il ifi ⟨(by decide : 1 < 4), hst'⟩ il ifi ⟨(by decide : 1 < 4), hsh'⟩ q1 q2 ⟨⟨-1, rfl, ?_⟩, iv_ch.refl m, hP⟩
      rw [dk_m1] at q2
      rw [hcost]
      unfold ct_sum
      rw [if_pos (Or.inr (Or.inl (by omega)))]
      rfl
    · refine tk_D_pairCost_0_1 il ifi ⟨(by decide : 1 < 4), hst'⟩ il ifi ⟨(by decide : 1 < 4), hsh'⟩ q1 q2 ?_
      rw [dk_m1] at q1 q2
      rw [hsI] at q1
      obtain ⟨r, m1, hC, ⟨u, hr, hu⟩, hch, hP1⟩ := ct_Places_distance hZ hP hpl hpf
      rw [hr] at hC
      have hC' : ab_C Z 3 49 [.inl (.ref 3), .inl (.int (ab_rd m 30 (nI l).toNatClampNeg)), .inl (.int (ab_rd m 22 (nI f).toNatClampNeg))] m (some u) m1 := by
        rw [xl, xf, b4, a4, epl, epf]
        exact hC
      have r1 : ab_rd m1 23 f = ab_rd m 57 f := by rw [hch.rd (p := 23) (by decide) (by decide), a5]
      have r2 : ab_rd m1 31 l = ab_rd m 65 l := by rw [hch.rd (p := 31) (by decide) (by decide), b5]
      have r3 : ab_rd m1 32 l = ab_rd m 66 l := by rw [hch.rd (p := 32) (by decide) (by decide), b6]
      have r4 : ab_rd m1 29 l = ab_rd m 63 l := by rw [hch.rd (p := 29) (by decide) (by decide), b3]
      have r5 : ab_rd m1 21 f = ab_rd m 55 f := by rw [hch.rd (p := 21) (by decide) (by decide), a3]
      have hs : (ab_rd m 57 f - ab_rd m 65 l).toInt = (ab_rd m 57 f).toInt - (ab_rd m 65 l).toInt := ab_subI (by omega) (by omega)
      rw [← hu] at hcost
      have hum := ds_far_m1 (iv_w m nP) pl pf
      rw [← hu] at hum
      by_cases q3 : u = -1
      · refine tk_D_pairCost_66_2 il ifi ⟨(by decide : 3 < 4), hC'⟩ ifi q3 ⟨⟨-1, rfl, ?_⟩, hch, hP1⟩
        rw [dk_m1] at q3
        rw [hcost]
        unfold ct_sum
        rw [if_pos (Or.inr (Or.inr (Or.inl (by omega))))]
        rfl
      · by_cases q4 : u ≤ ab_rd m 57 f - ab_rd m 65 l
        · refine tk_D_pairCost_66_1 il ifi ⟨(by decide : 3 < 4), hC'⟩ ifi q3 il (by rw [xl, xf, r1, r2]; exact q4) ?_
          refine tk_D_pairCost_129_0 il ifi ⟨(by decide : 0 < 4), ct_J_bitCount hZ _ m1⟩ il ⟨(by decide : 0 < 4), ct_J_max hZ _ _ m1⟩ (by decide) ⟨⟨_, rfl, ?_⟩, hch, hP1⟩
          rw [xl, xf, r1, r3, r4, r5]
          rw [ab_leI, hs] at q4
          rw [dk_m1] at q3
          have z1 : (ab_rd m 57 f - ab_rd m 66 l).toInt = (ab_rd m 57 f).toInt - (ab_rd m 66 l).toInt := ab_subI (by omega) (by omega)
          have z2 : (ab_rd m 57 f - ab_rd m 66 l - u).toInt = (ab_rd m 57 f).toInt - (ab_rd m 66 l).toInt - u.toInt := by rw [ab_subI (by omega) (by omega), z1]
          have z3 := nn_2 (x := kd_i (kd_st (ab_rd m 48) kl kf)) (y := c) (by rw [hsI]; omega) (by omega)
          have z4 := nn_sum (x := 2 * kd_i (kd_st (ab_rd m 48) kl kf) + c) (z := ab_rd m 57 f - ab_rd m 66 l - u) (by rw [z3, hsI]; omega) (ab_bc_le (ab_rd m 63 l &&& (ab_rd m 55 f ^^^ -1))) (by rw [z2]; omega)
          rw [z4.1, z3, hsI, z2, hcost]
          unfold ct_sum
          rw [if_neg (by omega)]
        · refine tk_D_pairCost_66_0 il ifi ⟨(by decide : 3 < 4), hC'⟩ ifi q3 il (by rw [xl, xf, r1, r2]; exact q4) ⟨⟨-1, rfl, ?_⟩, hch, hP1⟩
          rw [ab_leI, hs] at q4
          rw [hcost]
          unfold ct_sum
          rw [if_pos (Or.inr (Or.inr (Or.inr (by omega))))]
          rfl
/-! the reference's -/
theorem kd_up_le {up : Nat → Int32} {n : Nat} (h : kd_ok up n) (hn : n ≤ 2 ^ 30) (t : Nat) : ∀ (f k s : Nat), k < n → kd_up up f k t = some s → t ≤ k
  | 0, _, _, _, e0 => by cases e0
  | f + 1, k, s, hk, e0 => by
    unfold kd_up at e0
    by_cases e : k = t
    · omega
    · rw [if_neg e] at e0
      rcases kd_cases h hk hn with ⟨h1, -⟩ | ⟨h1, j, hj, -, h2⟩
      · rw [if_pos h1] at e0
        cases e0
      · rw [if_neg h1, h2] at e0
        cases e1 : kd_up up f j t with
        | none =>
          rw [e1] at e0
          cases e0
        | some s' =>
          have := kd_up_le h hn t f j s' (by omega) e1
          omega
theorem kd_max {up : Nat → Int32} {n a b : Nat} (h : kd_ok up n) (hn : n ≤ 40) (ha : a < n) (hb : b < n) : (ab_max (kd_i (kd_up up 41 a b)) (kd_i (kd_up up 41 b a))).toInt = iv_on (kd_st up a b) := by
  rw [ab_max_I, kd_i_I (fun s hs => kd_up_lt _ _ _ s hs), kd_i_I (fun s hs => kd_up_lt _ _ _ s hs)]
  unfold kd_st
  cases e1 : kd_up up 41 a b with
  | none =>
    cases e2 : kd_up up 41 b a with
    | none => rfl
    | some s =>
      show max (-1) (s : Int) = (s : Int)
      omega
  | some s =>
    cases e2 : kd_up up 41 b a with
    | none =>
      show max (s : Int) (-1) = (s : Int)
      omega
    | some s' =>
      have h1 := kd_up_le h (by omega) b 41 a s ha e1
      have h2 := kd_up_le h (by omega) a 41 b s' hb e2
      have e : a = b := by omega
      subst e
      rw [e1] at e2
      injection e2 with e2
      subst e2
      show max (s : Int) (s : Int) = (s : Int)
      omega
theorem ct_M_costOf {Z : ab_Z} (hZ : ab_okZ Z) {m : ab_M} {nK nP nF nL l f : Nat} (hK : iv_K m nK) (hN : iv_N m) (hP : nP ≤ 20) (hF : iv_F m nK nP nF) (hL : iv_L m nK nP nL) (hfar : ∀ a b, a < nP → b < nP → (ab_rd m 52 (20 * a + b)).toInt = if ds_far (iv_w m nP) a b = -1 then 100000000 else ds_far (iv_w m nP) a b) (hl : l < nL) (hf : f < nF) : ∃ v : Int32, ab_C Z 1 114 [.inl (.ref 8), .inl (.int (nI l)), .inl (.int (nI f))] m (some v) m ∧ v.toInt = iv_cost m nP l f := by
  have key : ab_K Z 1 114 [.inl (.ref 8), .inl (.int (nI l)), .inl (.int (nI f))] m (fun r m9 => (∃ v : Int32, r = some v ∧ v.toInt = iv_cost m nP l f) ∧ m9 = m) := by
    obtain ⟨k1, k2, k3, k4, k5, k6, k7, k8⟩ := id hK
    obtain ⟨f1, f2, f3, a1, a2, a3, a4, a5, a6, a7, a8, ff⟩ := id hF
    obtain ⟨l1, l2, l3, b1, b2, b3, b4, b5, b6, b7, b8, b9, ll⟩ := id hL
    obtain ⟨⟨kf, hkf, ekf⟩, cf, -, ⟨pf, hpf, epf⟩, tf, -, -⟩ := ff f hf
    obtain ⟨⟨kl, hkl, ekl⟩, cl, -, ⟨pl, hpl, epl⟩, tl⟩ := ll l hl
    have il := ab_in (n := l) (N := 24) (by omega) (by decide)
    have ifi := ab_in (n := f) (N := 24) (by omega) (by decide)
    have xl := ab_cl (n := l) (by omega)
    have xf := ab_cl (n := f) (by omega)
    have h1 := ct_M_below hZ (m := m) k1 k6 hkl hkf
    have h2 := ct_M_below hZ (m := m) k1 k6 hkf hkl
    have hmx := kd_max (up := ab_rd m 48) k6 k1 hkl hkf
    have hcost : iv_cost m nP l f = ct_sum (iv_on (kd_st (ab_rd m 48) kl kf)) (ct_col (fun a b => ¬ ab_rd m 50 (12 * a + b) = 0) (ab_rd m 62 l) (ab_rd m 54 f)) (ds_far (iv_w m nP) pl pf) (ab_bc (ab_rd m 63 l &&& (ab_rd m 55 f ^^^ -1))).toInt (ab_rd m 57 f).toInt (ab_rd m 65 l).toInt (ab_rd m 66 l).toInt := by
      unfold iv_cost
      rw [ekl, ekf, epl, epf, ab_cl (by omega), ab_cl (by omega), ab_cl (by omega), ab_cl (by omega)]
    have hsl := iv_on_le (up := ab_rd m 48) (a := kl) (b := kf)
    have h1' : ab_C Z 0 113 [.inl (.ref 8), .inl (.int (ab_rd m 61 (nI l).toNatClampNeg)), .inl (.int (ab_rd m 53 (nI f).toNatClampNeg))] m (some (kd_i (kd_up (ab_rd m 48) 41 kl kf))) m := by
      rw [xl, xf, ekl, ekf]
      exact h1
    have h2' : ab_C Z 0 113 [.inl (.ref 8), .inl (.int (ab_rd m 53 (nI f).toNatClampNeg)), .inl (.int (ab_rd m 61 (nI l).toNatClampNeg))] m (some (kd_i (kd_up (ab_rd m 48) 41 kf kl))) m := by
      rw [xl, xf, ekl, ekf]
      exact h2
    refine ab_Ki hZ ?_ (fun r m1 h => by obtain ⟨⟨v, rfl, -⟩, -⟩ := h; trivial) (by decide) (Nat.le_of_ble_eq_true rfl)
    by_cases q1 : 0 ≤ ab_max (kd_i (kd_up (ab_rd m 48) 41 kl kf)) (kd_i (kd_up (ab_rd m 48) 41 kf kl))
    · refine tk_M_costOf_0_1 il ifi ⟨(by decide : 0 < 1), h1'⟩ ifi il ⟨(by decide : 0 < 1), h2'⟩ ⟨(by decide : 0 < 1), ct_J_max hZ _ _ m⟩ q1 ?_
      rw [ab_leI, hmx, ab_t0] at q1
      have fin : ∀ x4 x5 x6 : Int32, 0 ≤ ct_col (fun a b => ¬ ab_rd m 50 (12 * a + b) = 0) (ab_rd m 62 l) (ab_rd m 54 f) → x6.toInt = 2 * iv_on (kd_st (ab_rd m 48) kl kf) + ct_col (fun a b => ¬ ab_rd m 50 (12 * a + b) = 0) (ab_rd m 62 l) (ab_rd m 54 f) → ab_T Z 114 1 (118, [(0, .inl (.ref 8)), (1, .inl (.int (nI l))), (2, .inl (.int (nI f))), (3, .inl (.int (ab_max (kd_i (kd_up (ab_rd m 48) 41 kl kf)) (kd_i (kd_up (ab_rd m 48) 41 kf kl))))), (4, .inl (.int x4)), (5, .inl (.int x5)), (6, .inl (.int x6))], [], m) (fun r m9 => (∃ v : Int32, r = some v ∧ v.toInt = iv_cost m nP l f) ∧ m9 = m) := by
        intro x4 x5 x6 hc0 h6
        have hc2 := (cc_le (fun a b => ¬ ab_rd m 50 (12 * a + b) = 0) (ab_rd m 62 l) (ab_rd m 54 f)).2
        have hin : vp_in (20 * ab_rd m 64 (nI l).toNatClampNeg + ab_rd m 56 (nI f).toNatClampNeg) 400 := by
          rw [xl, xf, epl, epf, nI_20 (by omega) (by omega)]
          exact ab_in (by omega) (by decide)
        have hci : (20 * ab_rd m 64 (nI l).toNatClampNeg + ab_rd m 56 (nI f).toNatClampNeg).toNatClampNeg = 20 * pl + pf := by
          rw [xl, xf, epl, epf, nI_20 (by omega) (by omega)]
          exact ab_cl (by omega)
        have hs : (ab_rd m 57 f - ab_rd m 65 l).toInt = (ab_rd m 57 f).toInt - (ab_rd m 65 l).toInt := ab_subI (by omega) (by omega)
        have hum := ds_far_m1 (iv_w m nP) pl pf
        have hfr := hfar pl pf hpl hpf
        by_cases q2 : ab_rd m 57 f < ab_rd m 65 l
        · refine tk_M_costOf_118_2 il ifi hin ifi il (by rw [xl, xf]; exact q2) ⟨⟨-1, rfl, ?_⟩, rfl⟩
          rw [ab_ltI] at q2
          rw [hcost]
          unfold ct_sum
          rw [if_pos (by omega)]
          rfl
        · by_cases q3 : ab_rd m 52 (20 * pl + pf) ≤ ab_rd m 57 f - ab_rd m 65 l
          · refine tk_M_costOf_118_1 il ifi hin ifi il (by rw [xl, xf]; exact q2) ifi il (by rw [hci, xl, xf]; exact q3) ?_
            rw [hci]
            refine tk_M_costOf_176_0 il ifi ⟨(by decide : 0 < 1), ct_J_bitCount hZ _ m⟩ ifi il ⟨(by decide : 0 < 1), ct_J_max hZ _ _ m⟩ (by decide) ⟨⟨_, rfl, ?_⟩, rfl⟩
            rw [xl, xf]
            rw [ab_leI, hs] at q3
            have q4 : ¬ ds_far (iv_w m nP) pl pf = -1 := fun z => by
              rw [if_pos z] at hfr
              omega
            rw [if_neg q4] at hfr
            have z1 : (ab_rd m 57 f - ab_rd m 66 l).toInt = (ab_rd m 57 f).toInt - (ab_rd m 66 l).toInt := ab_subI (by omega) (by omega)
            have z2 : (ab_rd m 57 f - ab_rd m 66 l - ab_rd m 52 (20 * pl + pf)).toInt = (ab_rd m 57 f).toInt - (ab_rd m 66 l).toInt - ds_far (iv_w m nP) pl pf := by rw [ab_subI (by omega) (by omega), z1, hfr]
            have z4 := nn_sum (x := x6) (z := ab_rd m 57 f - ab_rd m 66 l - ab_rd m 52 (20 * pl + pf)) (by omega) (ab_bc_le (ab_rd m 63 l &&& (ab_rd m 55 f ^^^ -1))) (by rw [z2]; omega)
            rw [z4.1, h6, z2, hcost]
            unfold ct_sum
            rw [if_neg (by omega)]
          · refine tk_M_costOf_118_0 il ifi hin ifi il (by rw [xl, xf]; exact q2) ifi il (by rw [hci, xl, xf]; exact q3) ⟨⟨-1, rfl, ?_⟩, rfl⟩
            rw [ab_leI, hs] at q3
            rw [hcost]
            unfold ct_sum
            rw [if_pos]
            · rfl
            · by_cases z : ds_far (iv_w m nP) pl pf = -1
              · omega
              · rw [if_neg z] at hfr
                omega
      have x3 : 0 ≤ (ab_max (kd_i (kd_up (ab_rd m 48) 41 kl kf)) (kd_i (kd_up (ab_rd m 48) 41 kf kl))).toInt ∧ (ab_max (kd_i (kd_up (ab_rd m 48) 41 kl kf)) (kd_i (kd_up (ab_rd m 48) 41 kf kl))).toInt ≤ 100 := by rw [hmx]; omega
      by_cases e : ab_rd m 62 l = ab_rd m 54 f
      · have hco : ct_col (fun a b => ¬ ab_rd m 50 (12 * a + b) = 0) (ab_rd m 62 l) (ab_rd m 54 f) = 0 := by
          unfold ct_col
          rw [if_pos e]
        refine tk_M_costOf_42_10 il ifi (by rw [xl, xf]; exact e) (fin _ _ _ (by omega) ?_)
        have := nn_2 x3 (y := 0) (by decide)
        rw [Int32.add_zero, hmx, ab_t0] at this
        rw [this, hco]
      · have lt0 : ∀ x : Int32, -1 ≤ x.toInt → (x < 0 ↔ x = -1) := fun x hx => by
          rw [ab_ltI, dk_m1, ab_t0]
          omega
        have c2 : (2 : Int32).toInt = 2 := rfl
        by_cases q2 : ab_rd m 62 l < 0
        · have hco : ct_col (fun a b => ¬ ab_rd m 50 (12 * a + b) = 0) (ab_rd m 62 l) (ab_rd m 54 f) = 2 := by
            unfold ct_col
            rw [if_neg e, if_pos (Or.inl ((lt0 _ cl.1).mp q2))]
          refine tk_M_costOf_42_9 il ifi (by rw [xl, xf]; exact e) (by rw [xl]; exact q2) (by rw [xl]; exact q2) (fin _ _ _ (by omega) ?_)
          have := nn_2 x3 (y := 2) (by decide)
          rw [this, hmx, hco, c2]
        · by_cases q3 : ab_rd m 54 f < 0
          · have hco : ct_col (fun a b => ¬ ab_rd m 50 (12 * a + b) = 0) (ab_rd m 62 l) (ab_rd m 54 f) = 2 := by
              unfold ct_col
              rw [if_neg e, if_pos (Or.inr ((lt0 _ cf.1).mp q3))]
            refine tk_M_costOf_42_5 il ifi (by rw [xl, xf]; exact e) (by rw [xl]; exact q2) (by rw [xf]; exact q3) (by rw [xl]; exact q2) (by rw [xf]; exact q3) (fin _ _ _ (by omega) ?_)
            have := nn_2 x3 (y := 2) (by decide)
            rw [this, hmx, hco, c2]
          · have hcn : ct_col (fun a b => ¬ ab_rd m 50 (12 * a + b) = 0) (ab_rd m 62 l) (ab_rd m 54 f) = if ¬ ab_rd m 50 (12 * (ab_rd m 62 l).toNatClampNeg + (ab_rd m 54 f).toNatClampNeg) = 0 then 1 else -1 := by
              unfold ct_col
              rw [if_neg e, if_neg (fun z => z.elim (fun y => q2 ((lt0 _ cl.1).mpr y)) (fun y => q3 ((lt0 _ cf.1).mpr y)))]
            rw [ab_ltI, ab_t0] at q2 q3
            obtain ⟨a, ha, ea⟩ := iv_ix (x := ab_rd m 62 l) (n := 12) (by omega) (by decide)
            obtain ⟨b, hb, eb⟩ := iv_ix (x := ab_rd m 54 f) (n := 12) (by omega) (by decide)
            have q2' : ¬ ab_rd m 62 (nI l).toNatClampNeg < 0 := by rw [xl, ab_ltI, ab_t0]; exact q2
            have q3' : ¬ ab_rd m 54 (nI f).toNatClampNeg < 0 := by rw [xf, ab_ltI, ab_t0]; exact q3
            have hin : vp_in (12 * ab_rd m 62 (nI l).toNatClampNeg + ab_rd m 54 (nI f).toNatClampNeg) 144 := by
              rw [xl, xf, ea, eb, nI_12 ha hb]
              exact ab_in (by omega) (by decide)
            have hci : (12 * ab_rd m 62 (nI l).toNatClampNeg + ab_rd m 54 (nI f).toNatClampNeg).toNatClampNeg = 12 * a + b := by
              rw [xl, xf, ea, eb, nI_12 ha hb]
              exact ab_cl (by omega)
            have hab : 12 * (ab_rd m 62 l).toNatClampNeg + (ab_rd m 54 f).toNatClampNeg = 12 * a + b := by rw [ea, eb, ab_cl (by omega), ab_cl (by omega)]
            rw [hab] at hcn
            by_cases q4 : ab_rd m 50 (12 * a + b) = 0
            · rw [if_neg (fun z => z q4)] at hcn
              refine tk_M_costOf_42_0 il ifi (by rw [xl, xf]; exact e) q2' q3' hin (by rw [hci]; exact q4) ⟨⟨-1, rfl, ?_⟩, rfl⟩
              rw [hcost, hcn]
              unfold ct_sum
              rw [if_pos (Or.inr (Or.inl (by decide)))]
              rfl
            · rw [if_pos q4] at hcn
              refine tk_M_costOf_42_1 il ifi (by rw [xl, xf]; exact e) q2' q3' hin (by rw [hci]; exact q4) q2' q3' (fin _ _ _ (by omega) ?_)
              have := nn_2 x3 (y := 1) (by decide)
              rw [this, hmx, hcn, ab_t1]
    · refine tk_M_costOf_0_0 il ifi ⟨(by decide : 0 < 1), h1'⟩ ifi il ⟨(by decide : 0 < 1), h2'⟩ ⟨(by decide : 0 < 1), ct_J_max hZ _ _ m⟩ q1 ⟨⟨-1, rfl, ?_⟩, rfl⟩
      rw [ab_leI, hmx, ab_t0] at q1
      rw [hcost]
      unfold ct_sum
      rw [if_pos (Or.inl (by omega))]
      rfl
  obtain ⟨r, m1, hC, ⟨v, hr, hv⟩, hm⟩ := key
  rw [hr, hm] at hC
  exact ⟨v, hC, hv⟩
