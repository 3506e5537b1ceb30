/-! ===== numbers and cells ===== -/
theorem ab_rng (x : Int32) : -2147483648 ≤ x.toInt ∧ x.toInt < 2147483648 := by
  have h1 := x.le_toInt
  have h2 := x.toInt_lt
  omega
theorem ab_bm {z : Int} (h1 : -2147483648 ≤ z) (h2 : z < 2147483648) : z.bmod (2 ^ 32) = z := by
  rw [Int.bmod_def]
  split <;> omega
theorem ab_addI {x y : Int32} (h1 : -2147483648 ≤ x.toInt + y.toInt) (h2 : x.toInt + y.toInt < 2147483648) : (x + y).toInt = x.toInt + y.toInt := by rw [Int32.toInt_add, ab_bm h1 h2]
theorem ab_subI {x y : Int32} (h1 : -2147483648 ≤ x.toInt - y.toInt) (h2 : x.toInt - y.toInt < 2147483648) : (x - y).toInt = x.toInt - y.toInt := by rw [Int32.toInt_sub, ab_bm h1 h2]
theorem ab_mulI {x y : Int32} (h1 : -2147483648 ≤ x.toInt * y.toInt) (h2 : x.toInt * y.toInt < 2147483648) : (x * y).toInt = x.toInt * y.toInt := by rw [Int32.toInt_mul, ab_bm h1 h2]
theorem ab_ltI (a b : Int32) : a < b ↔ a.toInt < b.toInt := Int32.lt_iff_toInt_lt
theorem ab_leI (a b : Int32) : a ≤ b ↔ a.toInt ≤ b.toInt := Int32.le_iff_toInt_le
theorem ab_eqI (a b : Int32) : a = b ↔ a.toInt = b.toInt := Int32.toInt_inj.symm
theorem ab_clI (x : Int32) : x.toNatClampNeg = x.toInt.toNat := rfl
theorem ab_m1 : (-1 : Int32).toInt = -1 := rfl
theorem ab_t0 : (0 : Int32).toInt = 0 := rfl
theorem ab_t1 : (1 : Int32).toInt = 1 := rfl
theorem ab_in {n N : Nat} (h : n < N) (hN : N < 2 ^ 31) : vp_in (nI n) N := vp_in_nI h hN
theorem ab_cl {n : Nat} (h : n < 2 ^ 31) : (nI n).toNatClampNeg = n := nI_clamp h
theorem ab_ix {x : Int32} {n : Nat} (hn : n < 2 ^ 31) : (0 ≤ x ∧ x < nI n) ↔ ∃ j, j < n ∧ x = nI j := by
  constructor
  · intro h
    rw [ab_leI, ab_ltI, nI_toInt hn, ab_t0] at h
    refine ⟨x.toInt.toNat, by omega, ?_⟩
    rw [ab_eqI, nI_toInt (by omega)]
    omega
  · rintro ⟨j, hj, rfl⟩
    rw [ab_leI, ab_ltI, nI_toInt hn, nI_toInt (by omega), ab_t0]
    omega
/-- a truth as a number -/
def ab_b (c : Prop) [Decidable c] : Int32 := if c then 1 else 0
theorem ab_b_t {c : Prop} [Decidable c] (h : c) : ab_b c = 1 := if_pos h
theorem ab_b_f {c : Prop} [Decidable c] (h : ¬ c) : ab_b c = 0 := if_neg h
theorem ab_b_zk (c : Prop) [Decidable c] : ab_zk (ab_b c) := by
  by_cases h : c
  · exact Or.inr (if_pos h)
  · exact Or.inl (if_neg h)
theorem ab_b_0 {c : Prop} [Decidable c] : ab_b c = 0 ↔ ¬ c := by
  by_cases h : c
  · rw [ab_b_t h]
    exact ⟨fun q => absurd q (by decide), fun q => absurd h q⟩
  · rw [ab_b_f h]
    exact ⟨fun _ => h, fun _ => rfl⟩
theorem ab_b_n {c : Prop} [Decidable c] : ¬ ab_b c = 0 ↔ c := by
  rw [ab_b_0]
  exact Decidable.not_not
theorem ab_b_cong {c e : Prop} [Decidable c] [Decidable e] (h : c ↔ e) : ab_b c = ab_b e := by
  by_cases q : c
  · rw [ab_b_t q, ab_b_t (h.mp q)]
  · rw [ab_b_f q, ab_b_f (fun z => q (h.mpr z))]
/-! what is read behind a write -/
theorem ab_rd_p (m : ab_M) (p i j : Nat) (v : Int32) : ab_rd (ab_wr m p i v) p j = if j = i then v else ab_rd m p j := by
  show (ab_wr m p i v).1 p j = _
  rw [ab_wr_p]
  rfl
theorem ab_rd_s (m : ab_M) (p i : Nat) (v : Int32) : ab_rd (ab_wr m p i v) p i = v := by rw [ab_rd_p, if_pos rfl]
theorem ab_rd_d (m : ab_M) (p : Nat) {i j : Nat} (v : Int32) (h : j ≠ i) : ab_rd (ab_wr m p i v) p j = ab_rd m p j := by rw [ab_rd_p, if_neg h]
theorem ab_rd_n (m : ab_M) {p q : Nat} (i j : Nat) (v : Int32) (h : q ≠ p) : ab_rd (ab_wr m p i v) q j = ab_rd m q j := by
  show (ab_wr m p i v).1 q j = _
  rw [ab_wr_n m i v h]
  rfl
theorem ab_rd_l (m : ab_M) (p q i j : Nat) (v : Int64) : ab_rd (ab_wl m p i v) q j = ab_rd m q j := rfl
theorem ab_rl_w (m : ab_M) (p q i j : Nat) (v : Int32) : ab_rl (ab_wr m p i v) q j = ab_rl m q j := rfl
theorem ab_rl_p (m : ab_M) (p i j : Nat) (v : Int64) : ab_rl (ab_wl m p i v) p j = if j = i then v else ab_rl m p j := by
  show (ab_wl m p i v).2 p j = _
  rw [ab_wl_p]
  rfl
/-- nothing but these places has changed -/
def ab_fr (S : List Nat) (m m1 : ab_M) : Prop := ∀ p, p ∉ S → m1.1 p = m.1 p ∧ m1.2 p = m.2 p
theorem ab_fr.refl (S : List Nat) (m : ab_M) : ab_fr S m m := fun _ _ => ⟨rfl, rfl⟩
theorem ab_fr.trans {S : List Nat} {m m1 m2 : ab_M} (h1 : ab_fr S m m1) (h2 : ab_fr S m1 m2) : ab_fr S m m2 := fun p hp => ⟨(h2 p hp).1.trans (h1 p hp).1, (h2 p hp).2.trans (h1 p hp).2⟩
theorem ab_fr.mono {S T : List Nat} {m m1 : ab_M} (h : ab_fr S m m1) (hST : ∀ p ∈ S, p ∈ T) : ab_fr T m m1 := fun p hp => h p (fun q => hp (hST p q))
theorem ab_fr.wr {S : List Nat} {m : ab_M} {p i : Nat} {v : Int32} (h : p ∈ S) : ab_fr S m (ab_wr m p i v) := fun q hq => ⟨ab_wr_n m i v (fun e => hq (e ▸ h)), rfl⟩
theorem ab_fr.wl {S : List Nat} {m : ab_M} {p i : Nat} {v : Int64} (h : p ∈ S) : ab_fr S m (ab_wl m p i v) := fun q hq => ⟨rfl, ab_wl_n m i v (fun e => hq (e ▸ h))⟩
theorem ab_fr.rd {S : List Nat} {m m1 : ab_M} (h : ab_fr S m m1) {p : Nat} (hp : p ∉ S) (i : Nat) : ab_rd m1 p i = ab_rd m p i := by
  show m1.1 p i = m.1 p i
  rw [(h p hp).1]
theorem ab_fr.rl {S : List Nat} {m m1 : ab_M} (h : ab_fr S m m1) {p : Nat} (hp : p ∉ S) (i : Nat) : ab_rl m1 p i = ab_rl m p i := by
  show m1.2 p i = m.2 p i
  rw [(h p hp).2]
