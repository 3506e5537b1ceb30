/-! ===== counting; a bag is dropped ===== -/
def cn_of (S : Nat → Prop) [DecidablePred S] : Nat → Nat
  | 0 => 0
  | n + 1 => cn_of S n + if S n then 1 else 0
theorem cn_s (S : Nat → Prop) [DecidablePred S] (n : Nat) : cn_of S (n + 1) = cn_of S n + if S n then 1 else 0 := rfl
theorem cn_le (S : Nat → Prop) [DecidablePred S] : ∀ n, cn_of S n ≤ n
  | 0 => Nat.le_refl 0
  | n + 1 => by
    have := cn_le S n
    rw [cn_s]
    by_cases h : S n
    · rw [if_pos h]; omega
    · rw [if_neg h]; omega
theorem cn_cong {S T : Nat → Prop} [DecidablePred S] [DecidablePred T] : ∀ {n : Nat}, (∀ k, k < n → (S k ↔ T k)) → cn_of S n = cn_of T n
  | 0, _ => rfl
  | n + 1, h => by
    rw [cn_s, cn_s, cn_cong (fun k hk => h k (by omega))]
    by_cases q : S n
    · rw [if_pos q, if_pos ((h n (by omega)).mp q)]
    · rw [if_neg q, if_neg (fun z => q ((h n (by omega)).mpr z))]
theorem cn_or {S T U : Nat → Prop} [DecidablePred S] [DecidablePred T] [DecidablePred U] : ∀ {n : Nat}, (∀ k, k < n → (U k ↔ S k ∨ T k)) → (∀ k, k < n → ¬ (S k ∧ T k)) → cn_of U n = cn_of S n + cn_of T n
  | 0, _, _ => rfl
  | n + 1, h, h2 => by
    rw [cn_s, cn_s, cn_s, cn_or (fun k hk => h k (by omega)) (fun k hk => h2 k (by omega))]
    have a := h n (by omega)
    have b := h2 n (by omega)
    by_cases p : S n
    · by_cases q : T n
      · exact absurd ⟨p, q⟩ b
      · rw [if_pos (a.mpr (Or.inl p)), if_pos p, if_neg q]; omega
    · by_cases q : T n
      · rw [if_pos (a.mpr (Or.inr q)), if_neg p, if_pos q]; omega
      · rw [if_neg (fun z => (a.mp z).elim p q), if_neg p, if_neg q]; omega
theorem cn_0 {S : Nat → Prop} [DecidablePred S] : ∀ {n : Nat}, (∀ k, k < n → ¬ S k) → cn_of S n = 0
  | 0, _ => rfl
  | n + 1, h => by rw [cn_s, cn_0 (fun k hk => h k (by omega)), if_neg (h n (by omega))]
theorem cn_pos {S : Nat → Prop} [DecidablePred S] : ∀ {n k : Nat}, k < n → S k → 0 < cn_of S n
  | 0, _, h, _ => absurd h (by omega)
  | n + 1, k, h, hs => by
    rw [cn_s]
    by_cases e : k = n
    · subst e
      rw [if_pos hs]
      omega
    · have := cn_pos (n := n) (by omega) hs
      omega
theorem lp_f_comp (m : ab_M) (p a n : Nat) (g h k : Nat → Int32 → Int32) (e : ∀ j, a ≤ j → j < a + n → h j (g j (ab_rd m p j)) = k j (ab_rd m p j)) : lp_f (lp_f m p a n g) p a n h = lp_f m p a n k := by
  have : ∀ (x : Nat → Nat → Int32) (y : Nat → Nat → Int32), x = y → ((x, m.2) : ab_M) = (y, m.2) := fun x y h => by rw [h]
  refine this _ _ ?_
  funext q j
  unfold va_up
  by_cases c : q = p
  · rw [if_pos c, if_pos c]
    by_cases d : a ≤ j ∧ j < a + n
    · rw [if_pos d, if_pos d]
      have r := lp_f_rd m p a n g j
      rw [if_pos d] at r
      have r2 : (lp_f m p a n g).1 p j = g j (ab_rd m p j) := r
      rw [r2]
      exact e j d.1 d.2
    · rw [if_neg d, if_neg d]
      have r := lp_f_rd m p a n g j
      rw [if_neg d] at r
      exact r
  · rw [if_neg c, if_neg c]
    exact congrFun (lp_f_n m a n g c) j
theorem lp_f_eq (m : ab_M) (p a n : Nat) (g h : Nat → Int32 → Int32) (e : ∀ j, a ≤ j → j < a + n → g j (ab_rd m p j) = h j (ab_rd m p j)) : lp_f m p a n g = lp_f m p a n h := by
  have : ∀ (x : Nat → Nat → Int32) (y : Nat → Nat → Int32), x = y → ((x, m.2) : ab_M) = (y, m.2) := fun x y h => by rw [h]
  refine this _ _ ?_
  funext q j
  unfold va_up
  by_cases c : q = p
  · rw [if_pos c, if_pos c]
    by_cases d : a ≤ j ∧ j < a + n
    · rw [if_pos d, if_pos d]
      exact e j d.1 d.2
    · rw [if_neg d, if_neg d]
  · rw [if_neg c, if_neg c]
theorem lp_f_id (m : ab_M) (p a n : Nat) (g : Nat → Int32 → Int32) (e : ∀ j, a ≤ j → j < a + n → g j (ab_rd m p j) = ab_rd m p j) : lp_f m p a n g = m := by
  induction n with
  | zero => exact lp_f_0 m p a g
  | succ n ih => rw [← lp_f_k m p a n g (e (a + n) (by omega) (by omega))]; exact ih (fun j h1 h2 => e j h1 (by omega))
theorem ct_Finds_dropBag {Z : ab_Z} (hZ : ab_okZ Z) {f n : Nat} {m : ab_M} (hf : f < 24) (hn : n ≤ 24) (h : ab_rd m 4 8 = nI n) : ab_C Z 0 9 [.inl (.ref 4), .inl (.int (nI f))] m (some (nI (cn_of (fun j => ab_rd m 26 j = ab_rd m 26 f) n))) (lp_f m 24 0 n (hd_g (ab_rd m 26) f 2)) := by
  have hif := ab_in (N := 24) hf (by decide)
  have hcf := ab_cl (n := f) (by omega)
  have lp : ∀ (k i : Nat), i + k = n → ab_T Z 9 0 (4, [(0, .inl (.ref 4)), (1, .inl (.int (nI f))), (2, .inl (.int (nI (cn_of (fun j => ab_rd m 26 j = ab_rd m 26 f) i)))), (3, .inl (.int (nI i)))], [], lp_f m 24 0 i (hd_g (ab_rd m 26) f 2)) (fun r m9 => r = some (nI (cn_of (fun j => ab_rd m 26 j = ab_rd m 26 f) n)) ∧ m9 = lp_f m 24 0 n (hd_g (ab_rd m 26) f 2)) := by
    intro k
    induction k with
    | zero =>
      intro i hi
      have hi : i = n := by omega
      subst hi
      refine tk_Finds_dropBag_4_2 ?_ ⟨rfl, rfl⟩
      rw [lp_f_rn m 0 i _ (by decide), h]
      exact nI_le (Nat.le_refl _) (by omega)
    | succ k ih =>
      intro i hi
      have hc : ¬ ab_rd (lp_f m 24 0 i (hd_g (ab_rd m 26) f 2)) 4 8 ≤ nI i := by
        rw [lp_f_rn m 0 i _ (by decide), h]
        exact nI_ge (by omega) (by omega)
      have hb : ∀ j, ab_rd (lp_f m 24 0 i (hd_g (ab_rd m 26) f 2)) 26 j = ab_rd m 26 j := fun j => lp_f_rn m 0 i _ (by decide) j
      have hin := ab_in (n := i) (N := 24) (by omega) (by decide)
      have hci := ab_cl (n := i) (by omega)
      have hih := ih (i + 1) (by omega)
      rw [cn_s] at hih
      by_cases e : ab_rd m 26 i = ab_rd m 26 f
      · rw [if_pos e] at hih
        refine tk_Finds_dropBag_4_0 hc hin hif (by rw [hb, hb, hci, hcf]; exact e) hin ?_
        have := lp_f_s m 24 0 i (hd_g (ab_rd m 26) f 2) (v := 2) (by rw [Nat.zero_add]; unfold hd_g; rw [if_pos e])
        rw [Nat.zero_add] at this
        rw [hci, this, nI_1, nI_1]
        exact hih
      · rw [if_neg e, Nat.add_zero] at hih
        refine tk_Finds_dropBag_4_1 hc hin hif (by rw [hb, hb, hci, hcf]; exact e) ?_
        rw [lp_f_k m 24 0 i (hd_g (ab_rd m 26) f 2) (by rw [Nat.zero_add]; unfold hd_g; rw [if_neg e]), nI_1]
        exact hih
  refine ab_Kc hZ (tk_Finds_dropBag_0_0 ?_) trivial (by decide) (Nat.le_of_ble_eq_true rfl)
  have := lp n 0 (by omega)
  rw [lp_f_0] at this
  exact this
