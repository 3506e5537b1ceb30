/-! ===== reward: both ===== -/
theorem rw_one {s : Nat → Nat} {n n' : Nat} (h : rw_ok s n) (h' : rw_ok s n') : n = n' := by
  obtain ⟨a1, a2, a3, a4⟩ := h
  obtain ⟨b1, b2, b3, b4⟩ := h'
  rcases Nat.lt_trichotomy n n' with q | q | q
  · have := a4 n (Nat.le_refl _) (by omega)
    have := (b3 n q).1
    omega
  · exact q
  · have := b4 n' (Nat.le_refl _) (by omega)
    have := (a3 n' q).1
    omega
def rw_F (m : ab_M) (p0 p1 j : Nat) (s : Nat → Nat) (p n : Nat) : ab_M := ab_wr (lp_f (lp_f m p0 0 n (rw_g s p (rw_A s n))) p0 0 (p - rw_A (rw_q s p (rw_A s n)) n) rw_1) p1 j (nI n)
def rw_Q1 (x y z : Int32) (m : ab_M) (r : Option Int32) (m9 : ab_M) : Prop := (∃ n p, rw_ok (rw_s x y) n ∧ p ≤ 1000000 ∧ z = nI p ∧ r = some (nI n) ∧ m9 = rw_F m 81 8 44 (rw_s x y) p n) ∨ ((¬ ∃ n, rw_ok (rw_s x y) n ∧ 0 ≤ z.toInt ∧ z.toInt ≤ 1000000) ∧ r = some (-1) ∧ m9 = ab_wr m 8 0 2)
theorem cl_M_reward2 {Z : ab_Z} (hZ : ab_okZ Z) (x y z x1 : Int32) (m : ab_M) : ab_T Z 139 40 (30, [(0, .inl (.ref 8)), (1, .inl (.int x1)), (2, .inl (.int z)), (3, .inl (.int x)), (4, .inl (.int y)), (5, .inl (.int 0)), (6, .inl (.int 0))], [], m) (rw_Q1 x y z m) := by
  have e8 : (8 : Int32) = nI 8 := rfl
  have e100 : (100 : Int32) = nI 100 := rfl
  have eM : (1000000 : Int32).toInt = 1000000 := rfl
  have l2 : ∀ (j k i : Nat), i + j = 8 → k ≤ i → (∀ q, q < k → 1 ≤ rw_s x y q ∧ rw_s x y q ≤ 100) → (∀ q, k ≤ q → q < i → rw_s x y q = 0) → (k < 8 → rw_s x y k = 0) → ab_T Z 139 40 (90, [(0, .inl (.ref 8)), (1, .inl (.int x1)), (2, .inl (.int z)), (3, .inl (.int x)), (4, .inl (.int y)), (5, .inl (.int (nI k))), (6, .inl (.int (nI (rw_A (rw_s x y) k)))), (7, .inl (.int (nI i)))], [], m) (rw_Q1 x y z m) := by
    intro j
    induction j with
    | zero =>
      intro k i hi hk h1 h2 h3
      have hi : i = 8 := by omega
      subst hi
      have h8 : (8 : Int32) ≤ nI 8 := by rw [e8]; exact Int32.le_refl _
      by_cases z0 : z < 0
      · refine tk_M_reward_90_5 h8 z0 ⟨(by decide : 0 < 40), ct_M_refuse hZ 2 _⟩ (Or.inr ⟨?_, rfl, rfl⟩)
        rintro ⟨n, -, h, -⟩
        rw [ab_ltI, ab_t0] at z0
        omega
      · by_cases z1 : (1000000 : Int32) < z
        · refine tk_M_reward_90_4 h8 z0 z1 ⟨(by decide : 0 < 40), ct_M_refuse hZ 2 _⟩ (Or.inr ⟨?_, rfl, rfl⟩)
          rintro ⟨n, -, -, h⟩
          rw [ab_ltI, eM] at z1
          omega
        · by_cases k0 : k = 0
          · subst k0
            refine tk_M_reward_90_2 h8 z0 z1 rfl ⟨(by decide : 0 < 40), ct_M_refuse hZ 2 _⟩ (Or.inr ⟨?_, rfl, rfl⟩)
            rintro ⟨n, h, -⟩
            have := (h.2.2.1 0 (by have := h.1; omega)).1
            have := h3 (by decide)
            omega
          · rw [ab_ltI, ab_t0] at z0
            rw [ab_ltI, eM] at z1
            have ez : z = nI z.toInt.toNat := by
              rw [ab_eqI, nI_toInt (by omega)]
              omega
            have hp : z.toInt.toNat ≤ 1000000 := by omega
            have hok : rw_ok (rw_s x y) k := ⟨by omega, hk, h1, fun q hq hq2 => h2 q hq hq2⟩
            generalize z.toInt.toNat = p at ez hp
            subst ez
            refine tk_M_reward_90_3 h8 (nI_pos (by omega)) (by rw [ab_ltI, eM, nI_toInt (by omega)]; omega) (nI_ne0 (by omega) (by omega)) ?_
            exact (cl_M_reward hZ hp hok x1 m).mono (fun r m9 h => Or.inl ⟨k, p, hok, hp, rfl, h.1, h.2⟩)
    | succ j ih =>
      intro k i hi hk h1 h2 h3
      have hlt := rw_lt x y i
      have h8 : ¬ (8 : Int32) ≤ nI i := by rw [e8]; exact nI_ge (by omega) (by decide)
      by_cases h0 : rw_s x y i = 0
      · refine tk_M_reward_90_1 h8 ⟨(by decide : 0 < 40), ct_M_share hZ x y (by omega) m⟩ (by rw [h0]; exact Int32.le_refl _) ?_
        rw [nI_1]
        refine ih k (i + 1) (by omega) (by omega) h1 (fun q hq hq2 => ?_) h3
        by_cases e : q = i
        · rw [e]; exact h0
        · exact h2 q hq (by omega)
      · refine tk_M_reward_90_0 h8 ⟨(by decide : 0 < 40), ct_M_share hZ x y (by omega) m⟩ (nI_nle (by omega) (by omega)) ⟨(by decide : 0 < 40), ct_M_refuse hZ 2 _⟩ (Or.inr ⟨?_, rfl, rfl⟩)
        rintro ⟨n, h, -⟩
        have h5 := h3 (by omega)
        by_cases e : k < n
        · have := (h.2.2.1 k e).1
          omega
        · exact h0 (h.2.2.2 i (by omega) (by omega))
  have l1 : ∀ (j k : Nat), k + j = 8 → (∀ q, q < k → 1 ≤ rw_s x y q ∧ rw_s x y q ≤ 100) → ab_T Z 139 40 (30, [(0, .inl (.ref 8)), (1, .inl (.int x1)), (2, .inl (.int z)), (3, .inl (.int x)), (4, .inl (.int y)), (5, .inl (.int (nI k))), (6, .inl (.int (nI (rw_A (rw_s x y) k))))], [], m) (rw_Q1 x y z m) := by
    intro j
    induction j with
    | zero =>
      intro k hk h1
      have hk : k = 8 := by omega
      subst hk
      exact tk_M_reward_30_3 (by rw [e8]; exact Int32.le_refl _) (l2 0 8 8 rfl (Nat.le_refl _) h1 (fun q hq hq2 => by omega) (fun h => by omega))
    | succ j ih =>
      intro k hk h1
      have hlt := rw_lt x y k
      have h8 : ¬ (8 : Int32) ≤ nI k := by rw [e8]; exact nI_ge (by omega) (by decide)
      by_cases h0 : rw_s x y k = 0
      · exact tk_M_reward_30_2 h8 ⟨(by decide : 0 < 40), ct_M_share hZ x y (by omega) m⟩ (by rw [h0]; exact Int32.le_refl _) (l2 (j + 1) k k hk (Nat.le_refl _) h1 (fun q hq hq2 => by omega) (fun _ => h0))
      · by_cases hh : rw_s x y k ≤ 100
        · refine tk_M_reward_30_1 h8 ⟨(by decide : 0 < 40), ct_M_share hZ x y (by omega) m⟩ (nI_nle (by omega) (by omega)) ⟨(by decide : 0 < 40), ct_M_share hZ x y (by omega) m⟩ (by rw [e100]; exact nI_le hh (by omega)) ⟨(by decide : 0 < 40), ct_M_share hZ x y (by omega) m⟩ ?_
          rw [nI_1, nI_add]
          refine ih (k + 1) (by omega) (fun q hq => ?_)
          by_cases e : q = k
          · rw [e]; exact ⟨by omega, hh⟩
          · exact h1 q (by omega)
        · refine tk_M_reward_30_0 h8 ⟨(by decide : 0 < 40), ct_M_share hZ x y (by omega) m⟩ (nI_nle (by omega) (by omega)) ⟨(by decide : 0 < 40), ct_M_share hZ x y (by omega) m⟩ (by rw [e100]; exact nI_ge (by omega) (by omega)) ⟨(by decide : 0 < 40), ct_M_refuse hZ 2 _⟩ (Or.inr ⟨?_, rfl, rfl⟩)
          rintro ⟨n, h, -⟩
          by_cases e : k < n
          · have := (h.2.2.1 k e).2
            omega
          · exact h0 (h.2.2.2 k (by omega) (by omega))
  exact l1 8 0 rfl (fun q hq => by omega)
theorem iv_sc.lp (m : ab_M) {p : Nat} (a n : Nat) (g : Nat → Int32 → Int32) (hp : p ∈ iv_scr) (h0 : p ≠ 0) (h8 : p ≠ 8) : iv_sc m (lp_f m p a n g) := ⟨fun q _ _ c => lp_f_n m a n g (fun e => c (e ▸ hp)), fun _ => rfl, fun j _ => by rw [lp_f_n m a n g (Ne.symm h0)], fun j _ => by rw [lp_f_n m a n g (Ne.symm h8)]⟩
theorem op_reward {Z : ab_Z} (hZ : ab_okZ Z) (x z a b : Int32) {m : ab_M} (hI : iv_A m) : iv_Op Z 76 139 [.inl (.int x), .inl (.int z), .inl (.int a), .inl (.int b)] m := by
  have hI' := hI
  obtain ⟨nK, nP, nF, nL, nO, h⟩ := hI'
  obtain ⟨hK, hN, hP, hF, hL, hC, ⟨s1, s2, s3, s4, s5, s6, s7, s8, s9⟩, hB⟩ := id h
  obtain ⟨g1, g2, g3, -⟩ := id hF
  have cD : (ab_rd m 4 8).toInt = nF := iv_toI g2 (by omega)
  have cM : (ab_rd m 8 4).toInt = nF := iv_toI g3 (by omega)
  have eM : (1000000 : Int32).toInt = 1000000 := rfl
  by_cases hx : 0 ≤ x.toInt ∧ x.toInt < nF
  · have x1 : ¬ ab_b (0 ≤ x.toInt ∧ x.toInt < (ab_rd m 4 8).toInt) = 0 := ab_b_n.mpr (by rw [cD]; exact hx)
    have x2 : ¬ ab_b (0 ≤ x.toInt ∧ x.toInt < (ab_rd m 8 4).toInt) = 0 := ab_b_n.mpr (by rw [cM]; exact hx)
    have hM : ∀ m1 : ab_M, ab_rd m1 8 4 = ab_rd m 8 4 → ab_K Z 40 139 [.inl (.ref 8), .inl (.int x), .inl (.int z), .inl (.int a), .inl (.int b)] m1 (rw_Q1 a b z (iv_m0 m1)) := fun m1 e => ab_Ki hZ (tk_M_reward_0_1 ⟨(by decide : 0 < 40), ct_M_isFind hZ x _⟩ (by show ¬ ab_b (0 ≤ x.toInt ∧ x.toInt < (ab_rd m1 8 4).toInt) = 0; rw [e]; exact x2) (cl_M_reward2 hZ a b z x _)) (fun r m1 h => by rcases h with ⟨n, p, -, -, -, rfl, -⟩ | ⟨-, rfl, -⟩ <;> trivial) (by decide) (Nat.le_of_ble_eq_true rfl)
    by_cases hz : 0 ≤ z.toInt ∧ z.toInt ≤ 1000000
    · obtain ⟨r, m3, hR, hr⟩ := ct_D_readShares hZ a b m
      rcases hr with ⟨n, hok, rfl, rfl⟩ | ⟨hno, rfl, i, rfl⟩
      · have ez : z = nI z.toInt.toNat := by
          rw [ab_eqI, nI_toInt (by omega)]
          omega
        have hp : z.toInt.toNat ≤ 1000000 := by omega
        have hn := hok.2.1
        generalize z.toInt.toNat = p at ez hp
        subst ez
        have hpp := ct_D_partPennies hZ hp ⟨hok.1, hok.2.1⟩ hok.2.2.1 (m := lp_f m 10 0 8 (fun k _ => nI (rw_s a b k))) (fun k hk => by rw [lp_f_rd, if_pos (by omega)])
        have hD : ab_C Z 40 76 [.inl (.ref 0), .inl (.int x), .inl (.int (nI p)), .inl (.int a), .inl (.int b)] m (some (nI n)) (ab_wr (rw_F (lp_f m 10 0 8 (fun k _ => nI (rw_s a b k))) 11 0 10 (rw_s a b) p n) 0 11 0) := ab_Kc hZ (tk_D_reward_0_3 ⟨by decide, ct_Finds_has hZ x m⟩ x1 ⟨by decide, ct_D_isWithin hZ (nI p) 0 1000000 m⟩ (ab_b_n.mpr (by rw [eM]; exact hz)) ⟨(by decide : 0 < 40), hR⟩ (fun e => by rw [ab_eqI, nI_toInt (by omega), ab_m1] at e; omega) ⟨(by decide : 0 < 40), hpp⟩ ⟨(by decide : 0 < 40), ct_D_answer hZ _ _⟩ ⟨rfl, rfl⟩) trivial (by decide) (Nat.le_of_ble_eq_true rfl)
        obtain ⟨r, m5, hC5, hr5⟩ := hM _ (show ab_rd (ab_wr (rw_F (lp_f m 10 0 8 (fun k _ => nI (rw_s a b k))) 11 0 10 (rw_s a b) p n) 0 11 0) 8 4 = ab_rd m 8 4 from rfl)
        rcases hr5 with ⟨n', p', hok', hp', ep, rfl, rfl⟩ | ⟨hno, -, -⟩
        · have hn' := rw_one hok hok'
          subst hn'
          have hpe : p = p' := (nI_eq (by omega) (by omega)).mp ep
          subst hpe
          refine ⟨_, _, _, hD, hC5, nK, nP, nF, nL, n, ?_⟩
          have hq := rw_left (p := p) hok.1 hok.2.2.1
          refine ⟨hK.cong rfl rfl rfl rfl rfl rfl rfl, hN.cong rfl rfl, hP.cong rfl rfl rfl rfl rfl rfl, hF.cong rfl rfl rfl rfl rfl rfl rfl rfl rfl rfl rfl rfl rfl rfl rfl rfl rfl rfl, hL.cong rfl rfl rfl rfl rfl rfl rfl rfl rfl rfl rfl rfl rfl rfl rfl rfl, hC.cong rfl rfl rfl, ⟨rfl, s2, s3, s4, s5, hn, rfl, rfl, fun k => ?_⟩, hB.cong rfl rfl rfl rfl rfl rfl rfl rfl rfl rfl (fun l f _ _ => iv_cost_cong nP l f rfl rfl rfl rfl rfl rfl rfl rfl rfl rfl rfl rfl rfl rfl)⟩
          have f1 : ∀ (M : ab_M) (p0 : Nat), ab_rd (lp_f (lp_f M p0 0 n (rw_g (rw_s a b) p (rw_A (rw_s a b) n))) p0 0 (p - rw_A (rw_q (rw_s a b) p (rw_A (rw_s a b) n)) n) rw_1) p0 k = if 0 ≤ k ∧ k < 0 + (p - rw_A (rw_q (rw_s a b) p (rw_A (rw_s a b) n)) n) then rw_1 k (if 0 ≤ k ∧ k < 0 + n then rw_g (rw_s a b) p (rw_A (rw_s a b) n) k (ab_rd M p0 k) else ab_rd M p0 k) else (if 0 ≤ k ∧ k < 0 + n then rw_g (rw_s a b) p (rw_A (rw_s a b) n) k (ab_rd M p0 k) else ab_rd M p0 k) := fun M p0 => by rw [lp_f_rd, lp_f_rd]
          have f2 : ∀ (u v : Int32), u = v → (if 0 ≤ k ∧ k < 0 + (p - rw_A (rw_q (rw_s a b) p (rw_A (rw_s a b) n)) n) then rw_1 k (if 0 ≤ k ∧ k < 0 + n then rw_g (rw_s a b) p (rw_A (rw_s a b) n) k u else u) else (if 0 ≤ k ∧ k < 0 + n then rw_g (rw_s a b) p (rw_A (rw_s a b) n) k u else u)) = (if 0 ≤ k ∧ k < 0 + (p - rw_A (rw_q (rw_s a b) p (rw_A (rw_s a b) n)) n) then rw_1 k (if 0 ≤ k ∧ k < 0 + n then rw_g (rw_s a b) p (rw_A (rw_s a b) n) k v else v) else (if 0 ≤ k ∧ k < 0 + n then rw_g (rw_s a b) p (rw_A (rw_s a b) n) k v else v)) := fun u v e => by rw [e]
          exact (f1 (lp_f m 10 0 8 (fun k _ => nI (rw_s a b k))) 11).trans ((f2 _ _ (s9 k)).trans (f1 (iv_m0 (ab_wr (rw_F (lp_f m 10 0 8 (fun k _ => nI (rw_s a b k))) 11 0 10 (rw_s a b) p n) 0 11 0)) 81).symm)
        · exact absurd ⟨n, hok, hz⟩ hno
      · have hD : ab_C Z 40 76 [.inl (.ref 0), .inl (.int x), .inl (.int z), .inl (.int a), .inl (.int b)] m (some (-1)) (ab_wr (lp_f m 10 0 i (fun k _ => nI (rw_s a b k))) 0 11 2) := ab_Kc hZ (tk_D_reward_0_2 ⟨by decide, ct_Finds_has hZ x m⟩ x1 ⟨by decide, ct_D_isWithin hZ z 0 1000000 m⟩ (ab_b_n.mpr (by rw [eM]; exact hz)) ⟨(by decide : 0 < 40), hR⟩ rfl ⟨(by decide : 0 < 40), ct_D_refuse hZ 2 _⟩ ⟨rfl, rfl⟩) trivial (by decide) (Nat.le_of_ble_eq_true rfl)
        obtain ⟨r, m5, hC5, hr5⟩ := hM _ (show ab_rd (ab_wr (lp_f m 10 0 i (fun k _ => nI (rw_s a b k))) 0 11 2) 8 4 = ab_rd m 8 4 from rfl)
        rcases hr5 with ⟨n', p', hok', -⟩ | ⟨-, rfl, rfl⟩
        · exact absurd hok' (hno n')
        · exact ⟨_, _, _, hD, hC5, nK, nP, nF, nL, nO, h.sc ((((iv_sc.lp m 0 i _ (by decide) (by decide) (by decide)).trans (iv_sc.d _ 2)).trans (iv_sc.m0 _)).trans (iv_sc.m _ 2 (by decide))) rfl⟩
    · have hD : ab_C Z 40 76 [.inl (.ref 0), .inl (.int x), .inl (.int z), .inl (.int a), .inl (.int b)] m (some (-1)) (ab_wr m 0 11 2) := ab_Kc hZ (tk_D_reward_0_1 ⟨by decide, ct_Finds_has hZ x m⟩ x1 ⟨by decide, ct_D_isWithin hZ z 0 1000000 m⟩ (ab_b_0.mpr (by rw [eM]; exact hz)) ⟨(by decide : 0 < 40), ct_D_refuse hZ 2 _⟩ ⟨rfl, rfl⟩) trivial (by decide) (Nat.le_of_ble_eq_true rfl)
      obtain ⟨r, m5, hC5, hr5⟩ := hM _ (show ab_rd (ab_wr m 0 11 2) 8 4 = ab_rd m 8 4 from rfl)
      rcases hr5 with ⟨n', p', -, hp', e, -⟩ | ⟨-, rfl, rfl⟩
      · subst e
        rw [nI_toInt (by omega)] at hz
        omega
      · exact ⟨_, _, _, hD, hC5, iv_refused hI 2⟩
  · exact ⟨-1, _, _, ab_Kc hZ (tk_D_reward_0_0 ⟨by decide, ct_Finds_has hZ x m⟩ (ab_b_0.mpr (by rw [cD]; exact hx)) ⟨by decide, ct_D_refuse hZ 1 _⟩ ⟨rfl, rfl⟩) trivial (by decide) (Nat.le_of_ble_eq_true rfl), ab_Kc hZ (tk_M_reward_0_0 ⟨by decide, ct_M_isFind hZ x _⟩ (ab_b_0.mpr (show ¬ (0 ≤ x.toInt ∧ x.toInt < (ab_rd m 8 4).toInt) by rw [cM]; exact hx)) ⟨by decide, ct_M_refuse hZ 1 _⟩ ⟨rfl, rfl⟩) trivial (by decide) (Nat.le_of_ble_eq_true rfl), iv_refused hI 1⟩
