/-! ===== reward: the pennies are parted ===== -/
theorem rw_lm (a b : Nat) : lN a * lN b = lN (a * b) := (Int64.ofNat_mul a b).symm
theorem rw_l32 (a : Nat) : (lN a).toInt32 = nI a := Int64.toInt32_ofNat'
def rw_g (s : Nat → Nat) (p a : Nat) (k : Nat) (_ : Int32) : Int32 := nI (rw_q s p a k)
def rw_1 (_ : Nat) (v : Int32) : Int32 := v + 1
theorem rw_q_le {s : Nat → Nat} {p a k : Nat} (hp : p ≤ 1000000) (hs : s k ≤ 100) : p * s k < 2 ^ 31 ∧ rw_q s p a k ≤ 100000000 := by
  have h1 : p * s k ≤ 1000000 * 100 := Nat.mul_le_mul hp hs
  have h2 : p * s k / a ≤ p * s k := Nat.div_le_self _ _
  refine ⟨by omega, ?_⟩
  show p * s k / a ≤ 100000000
  omega
theorem ct_D_partPennies {Z : ab_Z} (hZ : ab_okZ Z) {s : Nat → Nat} {p n : Nat} (hp : p ≤ 1000000) (hn : 1 ≤ n ∧ n ≤ 8) (hs : ∀ k, k < n → 1 ≤ s k ∧ s k ≤ 100) {m : ab_M} (hm : ∀ k, k < n → ab_rd m 10 k = nI (s k)) : ab_C Z 0 93 [.inl (.ref 0), .inl (.int (nI p)), .inl (.int (nI n))] m none (ab_wr (lp_f (lp_f m 11 0 n (rw_g s p (rw_A s n))) 11 0 (p - rw_A (rw_q s p (rw_A s n)) n) rw_1) 0 10 (nI n)) := by
  have hA := rw_A_le hs
  have hQ := rw_left (p := p) hn.1 hs
  refine ab_Kv hZ (tk_D_partPennies_0_0 ?_) trivial (by decide) (Nat.le_of_ble_eq_true rfl)
  have l3 : ∀ (j k : Nat), k + j = p - rw_A (rw_q s p (rw_A s n)) n → ab_T Z 93 0 (84, [(0, .inl (.ref 0)), (1, .inl (.int (nI p))), (2, .inl (.int (nI n))), (3, .inl (.int (nI (rw_A s n)))), (4, .inl (.int (nI (p - rw_A (rw_q s p (rw_A s n)) n)))), (5, .inl (.int (nI k)))], [], lp_f (lp_f m 11 0 n (rw_g s p (rw_A s n))) 11 0 k rw_1) (fun r m9 => r = none ∧ m9 = ab_wr (lp_f (lp_f m 11 0 n (rw_g s p (rw_A s n))) 11 0 (p - rw_A (rw_q s p (rw_A s n)) n) rw_1) 0 10 (nI n)) := by
    intro j
    induction j with
    | zero =>
      intro k hk
      have hk : k = p - rw_A (rw_q s p (rw_A s n)) n := by omega
      rw [← hk]
      exact tk_D_partPennies_84_2 (Int32.le_refl _) ⟨rfl, rfl⟩
    | succ j ih =>
      intro k hk
      refine tk_D_partPennies_84_0 (nI_ge (by omega) (by omega)) (nI_ge (by omega) (by omega)) (ab_in (by omega) (by decide)) (ab_in (by omega) (by decide)) ?_
      rw [ab_cl (by omega), nI_1]
      have := lp_f_s (lp_f m 11 0 n (rw_g s p (rw_A s n))) 11 0 k rw_1 (v := ab_rd (lp_f (lp_f m 11 0 n (rw_g s p (rw_A s n))) 11 0 k rw_1) 11 k + 1) (by rw [lp_f_rd, if_neg (by omega), Nat.zero_add]; rfl)
      rw [Nat.zero_add] at this
      rw [this]
      exact ih (k + 1) (by omega)
  have l2 : ∀ (j k : Nat), k + j = n → ab_T Z 93 0 (39, [(0, .inl (.ref 0)), (1, .inl (.int (nI p))), (2, .inl (.int (nI n))), (3, .inl (.int (nI (rw_A s n)))), (4, .inl (.int (nI (p - rw_A (rw_q s p (rw_A s n)) k)))), (5, .inl (.int (nI k)))], [], lp_f m 11 0 k (rw_g s p (rw_A s n))) (fun r m9 => r = none ∧ m9 = ab_wr (lp_f (lp_f m 11 0 n (rw_g s p (rw_A s n))) 11 0 (p - rw_A (rw_q s p (rw_A s n)) n) rw_1) 0 10 (nI n)) := by
    intro j
    induction j with
    | zero =>
      intro k hk
      have hk : k = n := by omega
      subst hk
      refine tk_D_partPennies_39_1 (Int32.le_refl _) ?_
      have := l3 (p - rw_A (rw_q s p (rw_A s k)) k) 0 (by omega)
      rw [lp_f_0] at this
      exact this
    | succ j ih =>
      intro k hk
      have hin := ab_in (n := k) (N := 8) (by omega) (by decide)
      have hq := rw_q_le (s := s) (a := rw_A s n) (k := k) hp (hs k (by omega)).2
      refine tk_D_partPennies_39_0 (nI_ge (by omega) (by omega)) hin (nI_ne0 (by omega) (by omega)) hin hin ?_
      have e : nI p * ab_rd (lp_f m 11 0 k (rw_g s p (rw_A s n))) 10 k / nI (rw_A s n) = nI (rw_q s p (rw_A s n) k) := by
        rw [lp_f_rn _ 0 k _ (by decide), hm k (by omega), pk_mul, pk_div hq.1 (by omega) (by omega)]
        rfl
      have hw := lp_f_s m 11 0 k (rw_g s p (rw_A s n)) (v := nI (rw_q s p (rw_A s n) k)) (by rw [Nat.zero_add]; rfl)
      rw [Nat.zero_add] at hw
      have hmono := rw_A_mono (s := rw_q s p (rw_A s n)) (i := k + 1) (n := n) (by omega)
      have hsu : rw_A (rw_q s p (rw_A s n)) (k + 1) = rw_A (rw_q s p (rw_A s n)) k + rw_q s p (rw_A s n) k := rfl
      rw [ab_cl (by omega), e, ab_rd_s, hw, nI_1, pk_sub (by omega), show p - rw_A (rw_q s p (rw_A s n)) k - rw_q s p (rw_A s n) k = p - rw_A (rw_q s p (rw_A s n)) (k + 1) by omega]
      exact ih (k + 1) (by omega)
  have l1 : ∀ (j k : Nat), k + j = n → ab_T Z 93 0 (5, [(0, .inl (.ref 0)), (1, .inl (.int (nI p))), (2, .inl (.int (nI n))), (3, .inl (.int (nI (rw_A s k)))), (4, .inl (.int (nI k)))], [], m) (fun r m9 => r = none ∧ m9 = ab_wr (lp_f (lp_f m 11 0 n (rw_g s p (rw_A s n))) 11 0 (p - rw_A (rw_q s p (rw_A s n)) n) rw_1) 0 10 (nI n)) := by
    intro j
    induction j with
    | zero =>
      intro k hk
      have hk : k = n := by omega
      subst hk
      refine tk_D_partPennies_5_2 (Int32.le_refl _) (by rw [show (1 : Int32) = nI 1 from rfl]; exact nI_le (by omega) (by omega)) ?_
      have := l2 k 0 (by omega)
      rw [lp_f_0] at this
      exact this
    | succ j ih =>
      intro k hk
      refine tk_D_partPennies_5_0 (nI_ge (by omega) (by omega)) (ab_in (by omega) (by decide)) ?_
      rw [ab_cl (by omega), hm k (by omega), nI_add, nI_1]
      exact ih (k + 1) (by omega)
  exact l1 n 0 (by omega)
/-- the reference: what it leaves -/
theorem cl_M_reward {Z : ab_Z} (hZ : ab_okZ Z) {x y : Int32} {p n : Nat} (hp : p ≤ 1000000) (hok : rw_ok (rw_s x y) n) (x1 : Int32) (m : ab_M) : ab_T Z 139 40 (147, [(0, .inl (.ref 8)), (1, .inl (.int x1)), (2, .inl (.int (nI p))), (3, .inl (.int x)), (4, .inl (.int y)), (5, .inl (.int (nI n))), (6, .inl (.int (nI (rw_A (rw_s x y) n)))), (7, .inl (.int (nI p))), (8, .inl (.int 0))], [], m) (fun r m9 => r = some (nI n) ∧ m9 = ab_wr (lp_f (lp_f m 81 0 n (rw_g (rw_s x y) p (rw_A (rw_s x y) n))) 81 0 (p - rw_A (rw_q (rw_s x y) p (rw_A (rw_s x y) n)) n) rw_1) 8 44 (nI n)) := by
  obtain ⟨hn1, hn2, hs, -⟩ := hok
  have hsh := fun (k : Nat) (hk : k < 8) (M : ab_M) => ct_M_share hZ x y hk M
  generalize rw_s x y = s at hs hsh ⊢
  have hA := rw_A_le hs
  have hQ := rw_left (p := p) hn1 hs
  have l3 : ∀ (j k : Nat), k + j = p - rw_A (rw_q s p (rw_A s n)) n → ab_T Z 139 40 (199, [(0, .inl (.ref 8)), (1, .inl (.int x1)), (2, .inl (.int (nI p))), (3, .inl (.int x)), (4, .inl (.int y)), (5, .inl (.int (nI n))), (6, .inl (.int (nI (rw_A s n)))), (7, .inl (.int (nI (p - rw_A (rw_q s p (rw_A s n)) n)))), (8, .inl (.int (nI k)))], [], lp_f (lp_f m 81 0 n (rw_g s p (rw_A s n))) 81 0 k rw_1) (fun r m9 => r = some (nI n) ∧ m9 = ab_wr (lp_f (lp_f m 81 0 n (rw_g s p (rw_A s n))) 81 0 (p - rw_A (rw_q s p (rw_A s n)) n) rw_1) 8 44 (nI n)) := by
    intro j
    induction j with
    | zero =>
      intro k hk
      have hk : k = p - rw_A (rw_q s p (rw_A s n)) n := by omega
      rw [← hk]
      exact tk_M_reward_199_1 (Int32.le_refl _) ⟨rfl, rfl⟩
    | succ j ih =>
      intro k hk
      refine tk_M_reward_199_0 (nI_ge (by omega) (by omega)) (ab_in (by omega) (by decide)) (ab_in (by omega) (by decide)) ?_
      rw [ab_cl (by omega), nI_1]
      have := lp_f_s (lp_f m 81 0 n (rw_g s p (rw_A s n))) 81 0 k rw_1 (v := ab_rd (lp_f (lp_f m 81 0 n (rw_g s p (rw_A s n))) 81 0 k rw_1) 81 k + 1) (by rw [lp_f_rd, if_neg (by omega), Nat.zero_add]; rfl)
      rw [Nat.zero_add] at this
      rw [this]
      exact ih (k + 1) (by omega)
  have l2 : ∀ (j k : Nat), k + j = n → ab_T Z 139 40 (147, [(0, .inl (.ref 8)), (1, .inl (.int x1)), (2, .inl (.int (nI p))), (3, .inl (.int x)), (4, .inl (.int y)), (5, .inl (.int (nI n))), (6, .inl (.int (nI (rw_A s n)))), (7, .inl (.int (nI (p - rw_A (rw_q s p (rw_A s n)) k)))), (8, .inl (.int (nI k)))], [], lp_f m 81 0 k (rw_g s p (rw_A s n))) (fun r m9 => r = some (nI n) ∧ m9 = ab_wr (lp_f (lp_f m 81 0 n (rw_g s p (rw_A s n))) 81 0 (p - rw_A (rw_q s p (rw_A s n)) n) rw_1) 8 44 (nI n)) := by
    intro j
    induction j with
    | zero =>
      intro k hk
      have hk : k = n := by omega
      subst hk
      refine tk_M_reward_147_1 (Int32.le_refl _) ?_
      have := l3 (p - rw_A (rw_q s p (rw_A s k)) k) 0 (by omega)
      rw [lp_f_0] at this
      exact this
    | succ j ih =>
      intro k hk
      have hin := ab_in (n := k) (N := 8) (by omega) (by decide)
      have hq := rw_q_le (s := s) (a := rw_A s n) (k := k) hp (hs k (by omega)).2
      have hsk := (hs k (by omega)).2
      have e : ((nI p).toInt64 * (nI (s k)).toInt64 / (nI (rw_A s n)).toInt64).toInt32 = nI (rw_q s p (rw_A s n) k) := by
        rw [nI_l (by omega), nI_l (by omega), nI_l (by omega), rw_lm, pk_lDiv (by omega) (by omega) (by omega), rw_l32]
        rfl
      refine tk_M_reward_147_0 (nI_ge (by omega) (by omega)) ⟨(by decide : 0 < 40), hsh k (by omega) _⟩ (by rw [nI_l (by omega), show (0 : Int64) = lN 0 from rfl, pk_lEQ (by omega) (by omega)]; omega) hin hin ?_
      have hw := lp_f_s m 81 0 k (rw_g s p (rw_A s n)) (v := nI (rw_q s p (rw_A s n) k)) (by rw [Nat.zero_add]; rfl)
      rw [Nat.zero_add] at hw
      have hmono := rw_A_mono (s := rw_q s p (rw_A s n)) (i := k + 1) (n := n) (by omega)
      have hsu : rw_A (rw_q s p (rw_A s n)) (k + 1) = rw_A (rw_q s p (rw_A s n)) k + rw_q s p (rw_A s n) k := rfl
      rw [ab_cl (by omega), e, ab_rd_s, hw, nI_1, pk_sub (by omega), show p - rw_A (rw_q s p (rw_A s n)) k - rw_q s p (rw_A s n) k = p - rw_A (rw_q s p (rw_A s n)) (k + 1) by omega]
      exact ih (k + 1) (by omega)
  have := l2 n 0 (by omega)
  rw [lp_f_0] at this
  exact this
