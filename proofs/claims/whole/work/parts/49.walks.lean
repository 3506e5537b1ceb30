/-! ===== ways: what both searches lean on ===== -/
/-- a walk with all places between below k -/
def pI (w : Nat → Nat → Nat → Prop) (k : Nat) : Nat → Nat → Nat → Nat → Prop
  | 0, a, b, d => a = b ∧ d = 0
  | n + 1, a, b, d => ∃ c e, w a c e ∧ e ≤ d ∧ ((c < k ∧ pI w k n c b (d - e)) ∨ (c = b ∧ d = e))
def pE (w : Nat → Nat → Nat → Prop) (k a b d : Nat) : Prop := ∃ n, pI w k n a b d
theorem pE_edge {w : Nat → Nat → Nat → Prop} {k a b e : Nat} (h : w a b e) : pE w k a b e := ⟨1, b, e, h, Nat.le_refl _, Or.inr ⟨rfl, rfl⟩⟩
theorem pE_cons {w : Nat → Nat → Nat → Prop} {k a c b e d : Nat} (h : w a c e) (hc : c < k) (h2 : pE w k c b d) : pE w k a b (e + d) := by
  obtain ⟨n, hn⟩ := h2
  exact ⟨n + 1, c, e, h, by omega, Or.inl ⟨hc, by rw [show e + d - e = d by omega]; exact hn⟩⟩
theorem pE_split {w : Nat → Nat → Nat → Prop} {k b : Nat} : ∀ (n a d : Nat), pI w (k + 1) n a b d → pE w k a b d ∨ ∃ d1 d2, d1 + d2 ≤ d ∧ pE w k a k d1 ∧ pE w k k b d2
  | 0, a, d, h => Or.inl ⟨0, h⟩
  | n + 1, a, d, ⟨c, e, hw, he, h⟩ => by
    rcases h with ⟨hc, h⟩ | ⟨h1, h2⟩
    · have ih := pE_split n c (d - e) h
      by_cases q : c = k
      · subst q
        rcases ih with ih | ⟨d1, d2, h3, h4, h5⟩
        · exact Or.inr ⟨e, d - e, by omega, pE_edge hw, ih⟩
        · exact Or.inr ⟨e, d2, by omega, pE_edge hw, h5⟩
      · rcases ih with ih | ⟨d1, d2, h3, h4, h5⟩
        · refine Or.inl ?_
          have := pE_cons hw (show c < k by omega) ih
          rw [show e + (d - e) = d by omega] at this
          exact this
        · exact Or.inr ⟨e + d1, d2, by omega, pE_cons hw (by omega) h4, h5⟩
    · subst h1
      subst h2
      exact Or.inl (pE_edge hw)
theorem pE_all {w : Nat → Nat → Nat → Prop} {N b : Nat} (hN : ∀ a c e, w a c e → c < N) : ∀ (n a d : Nat), ds_wk w n a b d → pE w N a b d
  | 0, a, d, h => ⟨0, h⟩
  | n + 1, a, d, ⟨c, e, hw, he, h⟩ => by
    have := pE_cons hw (hN a c e hw) (pE_all hN n c (d - e) h)
    rw [show e + (d - e) = d by omega] at this
    exact this
theorem ds_cat {w : Nat → Nat → Nat → Prop} {b c d2 : Nat} (h2 : ds_go w b c d2) : ∀ (n a d1 : Nat), ds_wk w n a b d1 → ds_go w a c (d1 + d2)
  | 0, a, d, h => by
    obtain ⟨rfl, rfl⟩ := h
    rw [Nat.zero_add]
    exact h2
  | n + 1, a, d, ⟨x, e, hw, he, h⟩ => by
    obtain ⟨n', h'⟩ := ds_cat h2 n x (d - e) h
    exact ⟨n' + 1, x, e, hw, by omega, by rw [show d + d2 - e = d - e + d2 by omega]; exact h'⟩
theorem ds_trans {w : Nat → Nat → Nat → Prop} {a b c d1 d2 : Nat} (h1 : ds_go w a b d1) (h2 : ds_go w b c d2) : ds_go w a c (d1 + d2) := by
  obtain ⟨n, h⟩ := h1
  exact ds_cat h2 n a d1 h
theorem ds_edge {w : Nat → Nat → Nat → Prop} {a b e : Nat} (h : w a b e) : ds_go w a b e := ⟨1, b, e, h, Nat.le_refl _, rfl, Nat.sub_self _⟩
theorem ds_nil (w : Nat → Nat → Nat → Prop) (a : Nat) : ds_go w a a 0 := ⟨0, rfl, rfl⟩
/-- some place on a walk out of the passed ones is open, and not farther -/
theorem ds_exit {w : Nat → Nat → Nat → Prop} {S : Nat → Prop} {F : Nat → Int} {t N : Nat} (ht : ¬ S t) (hN : ∀ u c e, w u c e → c < N) (h3 : ∀ u c e, S u → w u c e → 0 ≤ F c ∧ F c ≤ F u + e) : ∀ (n u d : Nat) (x : Int), ds_wk w n u t d → u < N → 0 ≤ F u → F u ≤ x → ∃ v, v < N ∧ ¬ S v ∧ 0 ≤ F v ∧ F v ≤ x + d
  | 0, u, d, x, h, hu, h0, h1 => by
    obtain ⟨rfl, rfl⟩ := h
    exact ⟨u, hu, ht, h0, by omega⟩
  | n + 1, u, d, x, ⟨c, e, hw, he, h⟩, hu, h0, h1 => by
    by_cases q : S u
    · have h5 := h3 u c e q hw
      obtain ⟨v, v0, v1, v2, v3⟩ := ds_exit ht hN h3 n c (d - e) (x + e) h (hN u c e hw) h5.1 (by omega)
      exact ⟨v, v0, v1, v2, by omega⟩
    · exact ⟨u, hu, q, h0, by omega⟩
theorem cn_full {S : Nat → Prop} [DecidablePred S] : ∀ {n : Nat}, cn_of S n = n → ∀ k, k < n → S k
  | 0, _, k, hk => absurd hk (by omega)
  | n + 1, h, k, hk => by
    rw [cn_s] at h
    have hl := cn_le S n
    by_cases q : S n
    · rw [if_pos q] at h
      by_cases e : k = n
      · rw [e]; exact q
      · exact cn_full (n := n) (by omega) k (by omega)
    · rw [if_neg q] at h
      omega
theorem cn_ins {S T : Nat → Prop} [DecidablePred S] [DecidablePred T] {i n : Nat} (hi : i < n) (hS : ¬ S i) (h : ∀ k, T k ↔ S k ∨ k = i) : cn_of T n = cn_of S n + 1 := by
  have h1 : cn_of T n = cn_of S n + cn_of (fun k => k = i) n := cn_or (fun k _ => h k) (fun k _ z => hS (by rw [← z.2]; exact z.1))
  have h2 : ∀ n, cn_of (fun k => k = i) n = if i < n then 1 else 0 := by
    intro n
    induction n with
    | zero => rfl
    | succ n ih =>
      rw [cn_s, ih]
      by_cases q : n = i
      · rw [if_pos q, if_neg (by omega), if_pos (by omega)]
      · rw [if_neg q]
        by_cases z : i < n
        · rw [if_pos z, if_pos (by omega)]
        · rw [if_neg z, if_neg (by omega)]
  rw [h1, h2, if_pos hi]
theorem fb_orI (a b : Nat) : nI a ||| nI b = nI (a ||| b) := by
  apply Int32.toBitVec_inj.1
  show BitVec.ofNat 32 a ||| BitVec.ofNat 32 b = BitVec.ofNat 32 (a ||| b)
  apply BitVec.eq_of_getLsbD_eq
  intro i hi
  simp [hi]
theorem bt_or {n j : Nat} (hj : j < 31) : nI n ||| (1 <<< (nI j &&& 31)) = nI (n ||| 2 ^ j) := by rw [bt_shl hj, fb_orI]
theorem bt_ins (n j k : Nat) : (n ||| 2 ^ j).testBit k = true ↔ n.testBit k = true ∨ k = j := by
  rw [Nat.testBit_or, Nat.testBit_two_pow, Bool.or_eq_true, decide_eq_true_eq]
  exact ⟨fun h => h.imp id Eq.symm, fun h => h.imp id Eq.symm⟩
theorem bt_or_lt {n j N : Nat} (hn : n < 2 ^ N) (hj : j < N) : n ||| 2 ^ j < 2 ^ N := Nat.or_lt_two_pow hn (Nat.pow_lt_pow_right (by decide) hj)
theorem bt_bit0 {n j : Nat} (hn : n < 2 ^ 31) (hj : j < 31) : (((nI n).toUInt32 >>> ((nI j).toUInt32 &&& Int32.toUInt32 31)).toInt32 &&& 1) = 0 ↔ ¬ n.testBit j = true := by
  rw [bt_bit hn hj]
  by_cases q : n.testBit j = true
  · rw [if_pos q]
    exact ⟨fun z => absurd z (by decide), fun z => absurd q z⟩
  · rw [if_neg q]
    exact ⟨fun _ => q, fun _ => rfl⟩
