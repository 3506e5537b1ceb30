/-! ===== place ===== -/
/-- some places of an array hold v now -/
def lp_w (m : ab_M) (p : Nat) (S : Nat → Prop) [DecidablePred S] (v : Int32) : ab_M := (va_up m.1 p (fun j => if S j then v else m.1 p j), m.2)
theorem lp_w_eq {m : ab_M} {p : Nat} {S T : Nat → Prop} [DecidablePred S] [DecidablePred T] {v : Int32} (h : ∀ j, S j ↔ T j) : lp_w m p S v = lp_w m p T v := by
  unfold lp_w
  have : (fun j => if S j then v else m.1 p j) = fun j => if T j then v else m.1 p j := by
    funext j
    by_cases q : S j
    · rw [if_pos q, if_pos ((h j).mp q)]
    · rw [if_neg q, if_neg (fun z => q ((h j).mpr z))]
  rw [this]
theorem lp_w_0 {m : ab_M} {p : Nat} {S : Nat → Prop} [DecidablePred S] {v : Int32} (h : ∀ j, ¬ S j) : lp_w m p S v = m := by
  unfold lp_w
  have : va_up m.1 p (fun j => if S j then v else m.1 p j) = m.1 := by
    funext q j
    unfold va_up
    by_cases e : q = p
    · rw [if_pos e, if_neg (h j), e]
    · rw [if_neg e]
  rw [this]
theorem lp_w_rd (m : ab_M) (p : Nat) (S : Nat → Prop) [DecidablePred S] (v : Int32) (j : Nat) : ab_rd (lp_w m p S v) p j = if S j then v else ab_rd m p j := by
  show (va_up m.1 p (fun j => if S j then v else m.1 p j)) p j = _
  unfold va_up
  rw [if_pos rfl]
  rfl
theorem lp_w_n (m : ab_M) {p q : Nat} (S : Nat → Prop) [DecidablePred S] (v : Int32) (h : q ≠ p) : (lp_w m p S v).1 q = m.1 q := if_neg h
theorem lp_w_rn (m : ab_M) {p q : Nat} (S : Nat → Prop) [DecidablePred S] (v : Int32) (h : q ≠ p) (j : Nat) : ab_rd (lp_w m p S v) q j = ab_rd m q j := congrFun (lp_w_n m S v h) j
theorem lp_w_s {m : ab_M} {p i : Nat} {S T : Nat → Prop} [DecidablePred S] [DecidablePred T] {v : Int32} (h : ∀ j, T j ↔ S j ∨ j = i) : ab_wr (lp_w m p S v) p i v = lp_w m p T v := by
  have : ∀ (x : Nat → Nat → Int32) (y : Nat → Nat → Int32), x = y → ((x, m.2) : ab_M) = (y, m.2) := fun x y h => by rw [h]
  refine this _ _ ?_
  funext q j
  unfold va_up
  by_cases e : q = p
  · rw [if_pos e, if_pos e]
    unfold upd
    by_cases k : j = i
    · rw [if_pos k, if_pos ((h j).mpr (Or.inr k))]
    · rw [if_neg k]
      have := lp_w_rd m p S v j
      by_cases z : S j
      · rw [if_pos z] at this
        rw [if_pos ((h j).mpr (Or.inl z))]
        exact this
      · rw [if_neg z] at this
        rw [if_neg (fun y => ((h j).mp y).elim z k)]
        exact this
  · rw [if_neg e, if_neg e]
    exact congrFun (lp_w_n m S v e) j
theorem ct_J_fill_ticks {Z : ab_Z} (hZ : ab_okZ Z) {a : Nat} {v : Int32} {m : ab_M} (ha : a < 20) : ab_C Z 0 146 [.inr (16, nI a), .inl (.int v)] m none (lp_w m 16 (fun j => a * 20 ≤ j ∧ j < a * 20 + 20) v) := by
  have hia := ab_in (N := 20) ha (by decide)
  have hca := ab_cl (n := a) (by omega)
  have lp : ∀ (k i : Nat), i + k = 20 → ab_T Z 146 0 (5, [(0, .inr (16, nI a)), (1, .inl (.int v)), (2, .inl (.int (nI i))), (3, .inl (.int (Int32.ofNat 20)))], [], lp_w m 16 (fun j => a * 20 ≤ j ∧ j < a * 20 + i) v) (fun r m9 => r = none ∧ m9 = lp_w m 16 (fun j => a * 20 ≤ j ∧ j < a * 20 + 20) v) := by
    intro k
    induction k with
    | zero =>
      intro i hi
      have hi : i = 20 := by omega
      subst hi
      exact tk_J_fill16_5_1 (Int32.le_refl _) ⟨rfl, rfl⟩
    | succ k ih =>
      intro i hi
      refine tk_J_fill16_5_0 (nI_ge (b := 20) (by omega) (by decide)) ⟨hia, ab_in (by omega) (by decide)⟩ ?_
      rw [hca, ab_cl (by omega), nI_1, lp_w_s (T := fun j => a * 20 ≤ j ∧ j < a * 20 + (i + 1)) (fun j => by omega)]
      exact ih (i + 1) (by omega)
  refine ab_Kv hZ (tk_J_fill16_0_0 hia ?_) trivial (by decide) (Nat.le_of_ble_eq_true rfl)
  have := lp 20 0 (by omega)
  rw [lp_w_0 (fun j => by omega)] at this
  exact this
/-- the places of the ways from n -/
def pl_T (n : Nat) (j : Nat) : Prop := n * 20 ≤ j ∧ j < n * 20 + 20
def pl_dec (n : Nat) : DecidablePred (pl_T n) := fun j => by unfold pl_T; exact inferInstance
noncomputable def pl_c (m : ab_M) (n : Nat) : ab_M := @lp_w m 16 (pl_T n) (pl_dec n) (-1)
theorem ct_Places_add {Z : ab_Z} (hZ : ab_okZ Z) {n : Nat} {m : ab_M} (hn : n < 20) (h : ab_rd m 3 3 = nI n) : ab_C Z 1 46 [.inl (.ref 3)] m (some (nI n)) (ab_wr (pl_c m n) 3 3 (nI n + 1)) := by
  have hin := ab_in (N := 20) hn (by decide)
  have e : pl_c m n = lp_w m 16 (fun j => n * 20 ≤ j ∧ j < n * 20 + 20) (-1) := @lp_w_eq m 16 (pl_T n) _ (pl_dec n) _ (-1) (fun j => Iff.rfl)
  have hc : ab_rd (pl_c m n) 3 3 = nI n := (@lp_w_rn m 16 3 (pl_T n) (pl_dec n) (-1) (by decide) _).trans h
  refine ab_Kc hZ (tk_Places_add_0_0 (by rw [h]; exact hin) ⟨(by decide : 0 < 1), by rw [h]; exact ct_J_fill_ticks hZ hn⟩ ?_) trivial (by decide) (Nat.le_of_ble_eq_true rfl)
  rw [← e, hc, h]
  exact ⟨rfl, rfl⟩
def pl_U (n i : Nat) (j : Nat) : Prop := (j % 20 = n ∧ j / 20 < i) ∨ (j / 20 = n ∧ j % 20 < i)
def pl_decU (n i : Nat) : DecidablePred (pl_U n i) := fun j => by unfold pl_U; exact inferInstance
noncomputable def pl_r (m : ab_M) (n i : Nat) : ab_M := @lp_w m 51 (pl_U n i) (pl_decU n i) 100000000
theorem ct_M_place {Z : ab_Z} (hZ : ab_okZ Z) {n : Nat} {m : ab_M} (hn : n < 20) (h : ab_rd m 8 3 = nI n) : ab_C Z 40 104 [.inl (.ref 8)] m (some (nI n)) (ab_wr (pl_r (iv_m0 m) n (n + 1)) 8 3 (nI n + 1)) := by
  have hrd : ∀ i, ab_rd (pl_r (iv_m0 m) n i) 8 3 = nI n := fun i => (@lp_w_rn (iv_m0 m) 51 8 (pl_U n i) (pl_decU n i) 100000000 (by decide) _).trans h
  have lp : ∀ (k i : Nat), i + k = n + 1 → ab_T Z 104 40 (27, [(0, .inl (.ref 8)), (1, .inl (.int (nI i)))], [], pl_r (iv_m0 m) n i) (fun r m9 => r = some (nI n) ∧ m9 = ab_wr (pl_r (iv_m0 m) n (n + 1)) 8 3 (nI n + 1)) := by
    intro k
    induction k with
    | zero =>
      intro i hi
      have hi : i = n + 1 := by omega
      subst hi
      refine tk_M_place_27_1 ?_ ⟨?_, ?_⟩
      · rw [hrd]
        exact nI_lt (by omega) (by omega)
      · rw [ab_rd_s, hrd, nI_1, nI_pred]
      · rw [hrd]
    | succ k ih =>
      intro i hi
      have c1 : 20 * nI i + nI n = nI (20 * i + n) := nI_20 (by omega) (by omega)
      have c2 : 20 * nI n + nI i = nI (20 * n + i) := nI_20 (by omega) (by omega)
      refine tk_M_place_27_0 (by rw [hrd]; exact nI_nlt (by omega) (by omega)) (by rw [hrd, c1]; exact ab_in (by omega) (by decide)) (by rw [hrd, c2]; exact ab_in (by omega) (by decide)) ?_
      rw [hrd, c1, c2, ab_cl (by omega), ab_cl (by omega), nI_1]
      have e1 := @lp_w_s (iv_m0 m) 51 (20 * i + n) (pl_U n i) (fun j => pl_U n i j ∨ j = 20 * i + n) (pl_decU n i) (fun j => by have := pl_decU n i j; exact inferInstance) 100000000 (fun j => Iff.rfl)
      have e2 := @lp_w_s (iv_m0 m) 51 (20 * n + i) (fun j => pl_U n i j ∨ j = 20 * i + n) (pl_U n (i + 1)) (fun j => by have := pl_decU n i j; exact inferInstance) (pl_decU n (i + 1)) 100000000 (fun j => by unfold pl_U; omega)
      have e3 : ab_wr (ab_wr (pl_r (iv_m0 m) n i) 51 (20 * i + n) 100000000) 51 (20 * n + i) 100000000 = pl_r (iv_m0 m) n (i + 1) := by
        unfold pl_r
        rw [e1]
        exact e2
      rw [e3]
      exact ih (i + 1) (by omega)
  refine ab_Kc hZ (tk_M_place_0_1 ?_ ?_) trivial (by decide) (Nat.le_of_ble_eq_true rfl)
  · show ¬ ab_rd m 8 3 = 20
    rw [h, ab_eqI, nI_toInt (by omega)]
    have : (20 : Int32).toInt = 20 := rfl
    omega
  · have := lp (n + 1) 0 (by omega)
    have e : pl_r (iv_m0 m) n 0 = iv_m0 m := @lp_w_0 (iv_m0 m) 51 (pl_U n 0) (pl_decU n 0) 100000000 (fun j => by unfold pl_U; omega)
    rw [e] at this
    exact this
