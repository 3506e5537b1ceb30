/-! ===== reward: shares ===== -/
def rw_s (x y : Int32) (k : Nat) : Nat := (if k < 4 then x else y).toBitVec.toNat / 2 ^ (8 * (k % 4)) % 256
theorem rw_lt (x y : Int32) (k : Nat) : rw_s x y k < 256 := Nat.mod_lt _ (by decide)
theorem rw_shr (x s : Int32) (c : Nat) (hs : (s.toBitVec.smod 32).toNat = c) (hc : c = 0 ∨ c = 8 ∨ c = 16 ∨ c = 24) : (x >>> s) &&& 255 = nI (x.toBitVec.toNat / 2 ^ c % 256) := by
  rw [pk_and _ 8 rfl]
  have h := pk_shr x s c hs
  have e : ∀ y : Int32, y.toInt = if 2 * y.toBitVec.toNat < 2 ^ 32 then (y.toBitVec.toNat : Int) else (y.toBitVec.toNat : Int) - (2 ^ 32 : Nat) := fun y => BitVec.toInt_eq_toNat_cond _
  have l1 := x.toBitVec.isLt
  have l2 := (x >>> s).toBitVec.isLt
  rw [Int.shiftRight_eq_div_pow, e x, e (x >>> s)] at h
  generalize (x >>> s).toBitVec.toNat = A at h l2 ⊢
  generalize x.toBitVec.toNat = B at h l1 ⊢
  have : A % 2 ^ 8 = B / 2 ^ c % 256 := by
    rcases hc with rfl | rfl | rfl | rfl <;> split at h <;> split at h <;> omega
  rw [this]
theorem rw_sm4 : ∀ k, k < 4 → (((8 * nI k) &&& 31).toBitVec.smod 32).toNat = 8 * (k % 4) := by decide +kernel
theorem rw_sm8 : ∀ k, k < 8 → 4 ≤ k → (((8 * (nI k - 4)) &&& 31).toBitVec.smod 32).toNat = 8 * (k % 4) := by decide +kernel
theorem rw_us8 : ∀ k, k < 8 → (((8 * (nI k - nI k / 4 * 4)).toUInt32 &&& Int32.toUInt32 31).toBitVec % 32).toNat = 8 * (k % 4) := by decide +kernel
theorem rw_c (k : Nat) : 8 * (k % 4) = 0 ∨ 8 * (k % 4) = 8 ∨ 8 * (k % 4) = 16 ∨ 8 * (k % 4) = 24 := by omega
theorem ct_M_share {Z : ab_Z} (hZ : ab_okZ Z) (x y : Int32) {k : Nat} (hk : k < 8) (m : ab_M) : ab_C Z 0 138 [.inl (.int x), .inl (.int y), .inl (.int (nI k))] m (some (nI (rw_s x y k))) m := by
  have e4 : (4 : Int32) = nI 4 := rfl
  refine ab_Kc hZ ?_ trivial (by decide) (Nat.le_of_ble_eq_true rfl)
  by_cases h : k < 4
  · refine tk_M_share_0_0 (by rw [e4]; exact nI_ge h (by decide)) ⟨?_, rfl⟩
    rw [rw_shr x _ _ (rw_sm4 k h) (rw_c k)]
    unfold rw_s
    rw [if_pos h]
  · refine tk_M_share_0_1 (by rw [e4]; exact nI_le (by omega) (by omega)) ⟨?_, rfl⟩
    rw [rw_shr y _ _ (rw_sm8 k hk (by omega)) (rw_c k)]
    unfold rw_s
    rw [if_neg h]
theorem rw_us (x : Int32) {k : Nat} (hk : k < 8) : (x.toUInt32 >>> ((8 * (nI k - nI k / 4 * 4)).toUInt32 &&& Int32.toUInt32 31)).toInt32 &&& 255 = nI (x.toBitVec.toNat / 2 ^ (8 * (k % 4)) % 256) := by
  rw [pk_and _ 8 rfl, pk_ushr x _ _ (rw_us8 k hk)]
/-- these are shares of n finders -/
def rw_ok (s : Nat → Nat) (n : Nat) : Prop := 1 ≤ n ∧ n ≤ 8 ∧ (∀ k, k < n → 1 ≤ s k ∧ s k ≤ 100) ∧ ∀ k, n ≤ k → k < 8 → s k = 0
theorem ct_D_readShares {Z : ab_Z} (hZ : ab_okZ Z) (x y : Int32) (m : ab_M) : ab_K Z 0 92 [.inl (.ref 0), .inl (.int x), .inl (.int y)] m (fun r m9 => (∃ n, rw_ok (rw_s x y) n ∧ r = some (nI n) ∧ m9 = lp_f m 10 0 8 (fun k _ => nI (rw_s x y k))) ∨ ((∀ n, ¬ rw_ok (rw_s x y) n) ∧ r = some (-1) ∧ ∃ i, m9 = lp_f m 10 0 i (fun k _ => nI (rw_s x y k)))) := by
  have e8 : (8 : Int32) = nI 8 := rfl
  have e4 : (4 : Int32) = nI 4 := rfl
  have e100 : (100 : Int32) = nI 100 := rfl
  refine ab_Ki hZ (tk_D_readShares_0_0 ?_) (fun r m1 h => by rcases h with ⟨n, -, rfl, -⟩ | ⟨-, rfl, -⟩ <;> trivial) (by decide) (Nat.le_of_ble_eq_true rfl)
  have lp : ∀ (j k c : Nat), k + j = 8 → c ≤ k → (∀ i, i < c → 1 ≤ rw_s x y i ∧ rw_s x y i ≤ 100) → (∀ i, c ≤ i → i < k → rw_s x y i = 0) → ab_T Z 92 0 (5, [(0, .inl (.ref 0)), (1, .inl (.int x)), (2, .inl (.int y)), (3, .inl (.int (nI c))), (4, .inl (.int (nI k)))], [], lp_f m 10 0 k (fun k _ => nI (rw_s x y k))) (fun r m9 => (∃ n, rw_ok (rw_s x y) n ∧ r = some (nI n) ∧ m9 = lp_f m 10 0 8 (fun k _ => nI (rw_s x y k))) ∨ ((∀ n, ¬ rw_ok (rw_s x y) n) ∧ r = some (-1) ∧ ∃ i, m9 = lp_f m 10 0 i (fun k _ => nI (rw_s x y k)))) := by
    intro j
    induction j with
    | zero =>
      intro k c hk hc h1 h2
      have hk : k = 8 := by omega
      subst hk
      by_cases hc0 : c = 0
      · subst hc0
        refine tk_D_readShares_5_2 (by rw [e8]; exact Int32.le_refl _) rfl (Or.inr ⟨fun n hn => ?_, rfl, 8, rfl⟩)
        have := (hn.2.2.1 0 (by have := hn.1; omega)).1
        have := h2 0 (Nat.le_refl _) (by decide)
        omega
      · exact tk_D_readShares_5_3 (by rw [e8]; exact Int32.le_refl _) (nI_ne0 (by omega) (by omega)) (Or.inl ⟨c, ⟨by omega, hc, h1, h2⟩, rfl, rfl⟩)
    | succ j ih =>
      intro k c hk hc h1 h2
      have hlt := rw_lt x y k
      have hk8 : ¬ (8 : Int32) ≤ nI k := by rw [e8]; exact nI_ge (by omega) (by decide)
      have hin := ab_in (n := k) (N := 8) (by omega) (by decide)
      have hcl := ab_cl (n := k) (by omega)
      have hw : ab_wr (lp_f m 10 0 k (fun k _ => nI (rw_s x y k))) 10 k (nI (rw_s x y k)) = lp_f m 10 0 (k + 1) (fun k _ => nI (rw_s x y k)) := by
        have := lp_f_s m 10 0 k (fun k _ => nI (rw_s x y k)) (v := nI (rw_s x y k)) (by rw [Nat.zero_add])
        rw [Nat.zero_add] at this
        exact this
      have body : ∀ x5 : Int32, ab_T Z 92 0 (41, [(0, .inl (.ref 0)), (1, .inl (.int x)), (2, .inl (.int y)), (3, .inl (.int (nI c))), (4, .inl (.int (nI k))), (5, .inl (.int x5)), (6, .inl (.int (nI (rw_s x y k))))], [], lp_f m 10 0 k (fun k _ => nI (rw_s x y k))) (fun r m9 => (∃ n, rw_ok (rw_s x y) n ∧ r = some (nI n) ∧ m9 = lp_f m 10 0 8 (fun k _ => nI (rw_s x y k))) ∨ ((∀ n, ¬ rw_ok (rw_s x y) n) ∧ r = some (-1) ∧ ∃ i, m9 = lp_f m 10 0 i (fun k _ => nI (rw_s x y k)))) := by
        intro x5
        by_cases h0 : rw_s x y k = 0
        · have a1 : nI (rw_s x y k) ≤ 0 := by rw [h0]; exact Int32.le_refl _
          refine tk_D_readShares_41_10 a1 (by rw [e100]; exact nI_nlt (by omega) (by omega)) rfl hin a1 ?_
          rw [hcl, hw, nI_1]
          refine ih (k + 1) c (by omega) (by omega) h1 (fun i hi hi2 => ?_)
          by_cases e : i = k
          · rw [e]; exact h0
          · exact h2 i hi (by omega)
        · have a1 : ¬ nI (rw_s x y k) ≤ 0 := nI_nle (by omega) (by omega)
          by_cases hck : c = k
          · have a2 : nI k ≤ nI c := nI_le (by omega) (by omega)
            by_cases hh : rw_s x y k ≤ 100
            · refine tk_D_readShares_41_5 a1 a2 (by rw [e100]; exact nI_nlt hh (by omega)) rfl hin a1 ?_
              rw [hcl, hw, nI_1, nI_1]
              refine ih (k + 1) (c + 1) (by omega) (by omega) (fun i hi => ?_) (fun i hi hi2 => by omega)
              by_cases e : i = k
              · rw [e]; exact ⟨by omega, hh⟩
              · exact h1 i (by omega)
            · refine tk_D_readShares_41_7 a1 a2 (by rw [e100]; exact nI_lt (by omega) (by omega)) (Or.inr ⟨fun n hn => ?_, rfl, k, rfl⟩)
              by_cases e : k < n
              · have := (hn.2.2.1 k e).2
                omega
              · have := hn.2.2.2 k (by omega) (by omega)
                omega
          · have a2 : ¬ nI k ≤ nI c := nI_ge (by omega) (by omega)
            have no : ∀ n, ¬ rw_ok (rw_s x y) n := fun n hn => by
              have h5 := h2 c (Nat.le_refl _) (by omega)
              by_cases e : c < n
              · have := (hn.2.2.1 c e).1
                omega
              · have := hn.2.2.2 k (by omega) (by omega)
                omega
            by_cases hh : rw_s x y k ≤ 100
            · exact tk_D_readShares_41_0 a1 a2 (by rw [e100]; exact nI_nlt hh (by omega)) (by decide) (Or.inr ⟨no, rfl, k, rfl⟩)
            · exact tk_D_readShares_41_3 a1 a2 (by rw [e100]; exact nI_lt (by omega) (by omega)) (Or.inr ⟨no, rfl, k, rfl⟩)
      by_cases h4 : k < 4
      · refine tk_D_readShares_5_0 hk8 (by rw [e4]; exact nI_ge h4 (by decide)) (by decide) ?_
        rw [rw_us x (by omega)]
        have := body x
        unfold rw_s at this
        rw [if_pos h4] at this
        unfold rw_s
        exact this
      · refine tk_D_readShares_5_1 hk8 (by rw [e4]; exact nI_le (by omega) (by omega)) (by decide) ?_
        rw [rw_us y (by omega)]
        have := body y
        unfold rw_s at this
        rw [if_neg h4] at this
        unfold rw_s
        exact this
  have := lp 8 0 0 rfl (Nat.le_refl _) (fun i hi => by omega) (fun i _ hi => by omega)
  rw [lp_f_0] at this
  exact this
/-! the pennies -/
def rw_A (s : Nat → Nat) : Nat → Nat
  | 0 => 0
  | n + 1 => rw_A s n + s n
def rw_q (s : Nat → Nat) (p a k : Nat) : Nat := p * s k / a
theorem rw_A_le {s : Nat → Nat} : ∀ {n : Nat}, (∀ k, k < n → 1 ≤ s k ∧ s k ≤ 100) → n ≤ rw_A s n ∧ rw_A s n ≤ 100 * n
  | 0, _ => ⟨Nat.le_refl _, Nat.le_refl _⟩
  | n + 1, h => by
    have h1 := rw_A_le (s := s) (n := n) (fun k hk => h k (by omega))
    have h2 := h n (by omega)
    show n + 1 ≤ rw_A s n + s n ∧ rw_A s n + s n ≤ 100 * (n + 1)
    omega
theorem rw_Q {s : Nat → Nat} {p a : Nat} (ha : 0 < a) : ∀ n : Nat, a * rw_A (rw_q s p a) n ≤ p * rw_A s n ∧ p * rw_A s n ≤ a * rw_A (rw_q s p a) n + n * a
  | 0 => ⟨Nat.le_refl _, by show p * 0 ≤ _; omega⟩
  | n + 1 => by
    have h := rw_Q (s := s) (p := p) ha n
    have e1 : a * rw_A (rw_q s p a) (n + 1) = a * rw_A (rw_q s p a) n + a * rw_q s p a n := Nat.mul_add _ _ _
    have e2 : p * rw_A s (n + 1) = p * rw_A s n + p * s n := Nat.mul_add _ _ _
    have e3 : (n + 1) * a = n * a + a := Nat.succ_mul _ _
    have h3 := Nat.div_add_mod (p * s n) a
    have h4 := Nat.mod_lt (p * s n) ha
    have e4 : a * rw_q s p a n = a * (p * s n / a) := rfl
    omega
/-- what rounding leaves is at most a penny for each -/
theorem rw_left {s : Nat → Nat} {p n : Nat} (hn : 1 ≤ n) (h : ∀ k, k < n → 1 ≤ s k ∧ s k ≤ 100) : rw_A (rw_q s p (rw_A s n)) n ≤ p ∧ p ≤ rw_A (rw_q s p (rw_A s n)) n + n := by
  have ha := rw_A_le h
  have ha0 : 0 < rw_A s n := by omega
  have hq := rw_Q (s := s) (p := p) ha0 n
  constructor
  · refine Nat.le_of_mul_le_mul_left ?_ ha0
    rw [Nat.mul_comm _ p]
    exact hq.1
  · refine Nat.le_of_mul_le_mul_left ?_ ha0
    rw [Nat.mul_add, Nat.mul_comm _ p, Nat.mul_comm _ n]
    exact hq.2
theorem rw_A_mono {s : Nat → Nat} {i : Nat} : ∀ {n : Nat}, i ≤ n → rw_A s i ≤ rw_A s n
  | 0, h => by
    have : i = 0 := by omega
    rw [this]
    exact Nat.le_refl _
  | n + 1, h => by
    by_cases e : i = n + 1
    · rw [e]
      exact Nat.le_refl _
    · have := rw_A_mono (s := s) (i := i) (n := n) (by omega)
      show rw_A s i ≤ rw_A s n + s n
      omega
