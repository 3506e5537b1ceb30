/-! ===== what holds between the calls: the class's cells and the reference's ===== -/
def iv_K (m : ab_M) (n : Nat) : Prop := n ≤ 40 ∧ ab_rd m 1 3 = nI n ∧ ab_rd m 8 2 = nI n ∧ (∀ k, ab_rd m 12 k = ab_rd m 48 k) ∧ (∀ k, ab_rd m 14 k = ab_rd m 49 k) ∧ kd_ok (ab_rd m 48) n ∧
  (∀ k, k < n → ab_rd m 49 k = -1 ∨ (1 ≤ (ab_rd m 49 k).toInt ∧ (ab_rd m 49 k).toInt ≤ 1000)) ∧ ∀ k, k < n → ab_rl m 13 k = lN (kd_line (ab_rd m 48) 41 k)
def iv_N (m : ab_M) : Prop := (∀ a, a < 12 → ∃ x : Nat, x < 4096 ∧ ab_rd m 15 a = nI x ∧ ∀ b, b < 12 → ab_rd m 50 (12 * a + b) = if x.testBit b = true then 1 else 0) ∧ ∀ a b, a < 12 → b < 12 → ab_rd m 50 (12 * a + b) = ab_rd m 50 (12 * b + a)
/-- the ways of the class -/
def iv_w (m : ab_M) (n : Nat) (a b e : Nat) : Prop := a < n ∧ b < n ∧ ab_rd m 16 (a * 20 + b) = nI e ∧ 1 ≤ e ∧ e ≤ 1000
def iv_P (m : ab_M) (n : Nat) : Prop := n ≤ 20 ∧ ab_rd m 3 3 = nI n ∧ ab_rd m 8 3 = nI n ∧
  (∀ a b, a < n → b < n → (ab_rd m 16 (a * 20 + b) = -1 ∧ ab_rd m 51 (20 * a + b) = 100000000) ∨ ∃ e : Nat, 1 ≤ e ∧ e ≤ 1000 ∧ ab_rd m 16 (a * 20 + b) = nI e ∧ ab_rd m 51 (20 * a + b) = nI e) ∧
  (∀ a b, a < n → b < n → ab_rd m 16 (a * 20 + b) = ab_rd m 16 (b * 20 + a)) ∧ (∀ a b, a < n → b < 20 → b = a ∨ n ≤ b → ab_rd m 16 (a * 20 + b) = -1) ∧
  (∀ a, a < 20 → ab_zk (ab_rd m 18 a)) ∧ (∀ a, n ≤ a → a < 20 → ab_rd m 18 a = 0) ∧
  ∀ a, a < n → ¬ ab_rd m 18 a = 0 → ∀ b, b < 20 → (ab_rd m 17 (a * 20 + b)).toInt = if b < n then ds_far (iv_w m n) a b else -1
def iv_F (m : ab_M) (nK nP n : Nat) : Prop := n ≤ 24 ∧ ab_rd m 4 8 = nI n ∧ ab_rd m 8 4 = nI n ∧
  (∀ f, ab_rd m 19 f = ab_rd m 53 f) ∧ (∀ f, ab_rd m 20 f = ab_rd m 54 f) ∧ (∀ f, ab_rd m 21 f = ab_rd m 55 f) ∧ (∀ f, ab_rd m 22 f = ab_rd m 56 f) ∧ (∀ f, ab_rd m 23 f = ab_rd m 57 f) ∧ (∀ f, ab_rd m 24 f = ab_rd m 58 f) ∧ (∀ f, ab_rd m 25 f = ab_rd m 59 f) ∧ (∀ f, ab_rd m 26 f = ab_rd m 60 f) ∧
  ∀ f, f < n → (∃ k, k < nK ∧ ab_rd m 53 f = nI k) ∧ (-1 ≤ (ab_rd m 54 f).toInt ∧ (ab_rd m 54 f).toInt < 12) ∧ (∃ q : Nat, q ≤ 65535 ∧ ab_rd m 55 f = nI q) ∧ (∃ p, p < nP ∧ ab_rd m 56 f = nI p) ∧ (0 ≤ (ab_rd m 57 f).toInt ∧ (ab_rd m 57 f).toInt ≤ 100000) ∧
    (ab_rd m 58 f = 0 ∨ ab_rd m 58 f = 1 ∨ ab_rd m 58 f = 2) ∧ ∃ b, b ≤ f ∧ ab_rd m 60 f = nI b ∧ ab_rd m 60 b = nI b ∧ ab_rd m 58 f = ab_rd m 58 b
def iv_L (m : ab_M) (nK nP n : Nat) : Prop := n ≤ 24 ∧ ab_rd m 5 7 = nI n ∧ ab_rd m 8 5 = nI n ∧
  (∀ f, ab_rd m 27 f = ab_rd m 61 f) ∧ (∀ f, ab_rd m 28 f = ab_rd m 62 f) ∧ (∀ f, ab_rd m 29 f = ab_rd m 63 f) ∧ (∀ f, ab_rd m 30 f = ab_rd m 64 f) ∧ (∀ f, ab_rd m 31 f = ab_rd m 65 f) ∧ (∀ f, ab_rd m 32 f = ab_rd m 66 f) ∧ (∀ f, ab_rd m 33 f = ab_rd m 67 f) ∧
  (∀ f, ab_zk (ab_rd m 67 f)) ∧ (∀ f, n ≤ f → ab_rd m 67 f = 0) ∧
  ∀ f, f < n → (∃ k, k < nK ∧ ab_rd m 61 f = nI k) ∧ (-1 ≤ (ab_rd m 62 f).toInt ∧ (ab_rd m 62 f).toInt < 12) ∧ (∃ q : Nat, q ≤ 65535 ∧ ab_rd m 63 f = nI q) ∧ (∃ p, p < nP ∧ ab_rd m 64 f = nI p) ∧ (0 ≤ (ab_rd m 65 f).toInt ∧ (ab_rd m 65 f).toInt ≤ (ab_rd m 66 f).toInt ∧ (ab_rd m 66 f).toInt ≤ 100000)
def iv_C (m : ab_M) : Prop := ∀ i, i < 576 → (ab_rd m 68 i = 0 ∧ ab_rd m 69 i = 0 ∧ ab_rd m 9 i = -1) ∨ (ab_rd m 68 i = 1 ∧ ab_rd m 9 i = ab_rd m 69 i ∧ 0 ≤ (ab_rd m 69 i).toInt)
def iv_S (m : ab_M) (n : Nat) : Prop := ab_rd m 0 11 = ab_rd m 8 0 ∧ ab_rd m 0 13 = ab_rd m 8 6 ∧ (0 ≤ (ab_rd m 8 6).toInt ∧ (ab_rd m 8 6).toInt ≤ 100) ∧ ab_rd m 0 12 = ab_rd m 8 7 ∧ (0 ≤ (ab_rd m 8 7).toInt ∧ (ab_rd m 8 7).toInt ≤ 200000) ∧ n ≤ 8 ∧ ab_rd m 0 10 = nI n ∧ ab_rd m 8 44 = nI n ∧ ∀ k, ab_rd m 11 k = ab_rd m 81 k
/-- what a pair costs now; -1: they can't be one -/
def iv_on (x : Option Nat) : Int := match x with
  | none => -1
  | some n => n
noncomputable def iv_cost (m : ab_M) (nP l f : Nat) : Int := ct_sum (iv_on (kd_st (ab_rd m 48) (ab_rd m 61 l).toNatClampNeg (ab_rd m 53 f).toNatClampNeg)) (ct_col (fun a b => ¬ ab_rd m 50 (12 * a + b) = 0) (ab_rd m 62 l) (ab_rd m 54 f)) (ds_far (iv_w m nP) (ab_rd m 64 l).toNatClampNeg (ab_rd m 56 f).toNatClampNeg)
  (ab_bc (ab_rd m 63 l &&& (ab_rd m 55 f ^^^ -1))).toInt (ab_rd m 57 f).toInt (ab_rd m 65 l).toInt (ab_rd m 66 l).toInt


/-- what a loss costs at a find, or at none -/
noncomputable def iv_pr (m : ab_M) (nP nF l s : Nat) : Int := if s < nF then (if ab_rd m 58 s = 0 ∧ 0 ≤ iv_cost m nP l s then iv_cost m nP l s else 1000000) else (ab_rd m 8 6).toInt
def iv_B (m : ab_M) (nP nF nL : Nat) : Prop := ab_zk (ab_rd m 0 14) ∧ (ab_rd m 0 14 = 0 → ab_rd m 6 12 = nI nL ∧ ab_rd m 6 13 = nI nF ∧ (∀ l, l < nL → ab_rd m 35 l = ab_b (ab_rd m 67 l = 0)) ∧ (∀ l, l < nL → ab_rd m 67 l = 0 → ∀ s, s ≤ nF → (ab_rd m 34 (l * 25 + s)).toInt = iv_pr m nP nF l s) ∧
  ∃ (v : Nat → Nat) (c : Int), sg_best nL nF (fun l => ab_rd m 67 l = 0) (iv_pr m nP nF) v c ∧ (ab_rd m 6 14).toInt = c ∧ ∀ l, l < nL → ab_rd m 36 l = if ab_rd m 67 l = 0 ∧ v l < nF then nI (v l) else -1)
/-- all of it -/
def iv_all (m : ab_M) (nK nP nF nL nO : Nat) : Prop := iv_K m nK ∧ iv_N m ∧ iv_P m nP ∧ iv_F m nK nP nF ∧ iv_L m nK nP nL ∧ iv_C m ∧ iv_S m nO ∧ iv_B m nP nF nL
def iv_A (m : ab_M) : Prop := ∃ nK nP nF nL nO, iv_all m nK nP nF nL nO
/-! each part depends on its own cells alone -/
theorem iv_rdc {m m1 : ab_M} {p : Nat} (h : m1.1 p = m.1 p) : ab_rd m1 p = ab_rd m p := h
theorem iv_rlc {m m1 : ab_M} {p : Nat} (h : m1.2 p = m.2 p) : ab_rl m1 p = ab_rl m p := h
theorem iv_K.cong {m m1 : ab_M} {n : Nat} (h : iv_K m n) (h1 : ab_rd m1 1 3 = ab_rd m 1 3) (h2 : ab_rd m1 8 2 = ab_rd m 8 2) (h3 : m1.1 12 = m.1 12) (h4 : m1.1 48 = m.1 48) (h5 : m1.1 14 = m.1 14) (h6 : m1.1 49 = m.1 49) (h7 : m1.2 13 = m.2 13) : iv_K m1 n := by
  unfold iv_K at h ⊢
  rw [h1, h2, iv_rdc h3, iv_rdc h4, iv_rdc h5, iv_rdc h6, iv_rlc h7]
  exact h
theorem iv_N.cong {m m1 : ab_M} (h : iv_N m) (h1 : m1.1 15 = m.1 15) (h2 : m1.1 50 = m.1 50) : iv_N m1 := by
  unfold iv_N at h ⊢
  rw [iv_rdc h1, iv_rdc h2]
  exact h
theorem iv_w_cong {m m1 : ab_M} (h : m1.1 16 = m.1 16) : iv_w m1 = iv_w m := by
  funext n a b e
  unfold iv_w
  rw [iv_rdc h]
theorem iv_P.cong {m m1 : ab_M} {n : Nat} (h : iv_P m n) (h1 : ab_rd m1 3 3 = ab_rd m 3 3) (h2 : ab_rd m1 8 3 = ab_rd m 8 3) (h3 : m1.1 16 = m.1 16) (h4 : m1.1 51 = m.1 51) (h5 : m1.1 18 = m.1 18) (h6 : m1.1 17 = m.1 17) : iv_P m1 n := by
  unfold iv_P at h ⊢
  rw [h1, h2, iv_rdc h3, iv_rdc h4, iv_rdc h5, iv_rdc h6, iv_w_cong h3]
  exact h
theorem iv_F.cong {m m1 : ab_M} {nK nP n : Nat} (h : iv_F m nK nP n) (h1 : ab_rd m1 4 8 = ab_rd m 4 8) (h2 : ab_rd m1 8 4 = ab_rd m 8 4) (a1 : m1.1 19 = m.1 19) (a2 : m1.1 20 = m.1 20) (a3 : m1.1 21 = m.1 21) (a4 : m1.1 22 = m.1 22) (a5 : m1.1 23 = m.1 23) (a6 : m1.1 24 = m.1 24) (a7 : m1.1 25 = m.1 25) (a8 : m1.1 26 = m.1 26) (b1 : m1.1 53 = m.1 53) (b2 : m1.1 54 = m.1 54) (b3 : m1.1 55 = m.1 55) (b4 : m1.1 56 = m.1 56) (b5 : m1.1 57 = m.1 57) (b6 : m1.1 58 = m.1 58) (b7 : m1.1 59 = m.1 59) (b8 : m1.1 60 = m.1 60) : iv_F m1 nK nP n := by
  unfold iv_F at h ⊢
  rw [h1, h2, iv_rdc a1, iv_rdc a2, iv_rdc a3, iv_rdc a4, iv_rdc a5, iv_rdc a6, iv_rdc a7, iv_rdc a8, iv_rdc b1, iv_rdc b2, iv_rdc b3, iv_rdc b4, iv_rdc b5, iv_rdc b6, iv_rdc b7, iv_rdc b8]
  exact h
theorem iv_L.cong {m m1 : ab_M} {nK nP n : Nat} (h : iv_L m nK nP n) (h1 : ab_rd m1 5 7 = ab_rd m 5 7) (h2 : ab_rd m1 8 5 = ab_rd m 8 5) (a1 : m1.1 27 = m.1 27) (a2 : m1.1 28 = m.1 28) (a3 : m1.1 29 = m.1 29) (a4 : m1.1 30 = m.1 30) (a5 : m1.1 31 = m.1 31) (a6 : m1.1 32 = m.1 32) (a7 : m1.1 33 = m.1 33) (b1 : m1.1 61 = m.1 61) (b2 : m1.1 62 = m.1 62) (b3 : m1.1 63 = m.1 63) (b4 : m1.1 64 = m.1 64) (b5 : m1.1 65 = m.1 65) (b6 : m1.1 66 = m.1 66) (b7 : m1.1 67 = m.1 67) : iv_L m1 nK nP n := by
  unfold iv_L at h ⊢
  rw [h1, h2, iv_rdc a1, iv_rdc a2, iv_rdc a3, iv_rdc a4, iv_rdc a5, iv_rdc a6, iv_rdc a7, iv_rdc b1, iv_rdc b2, iv_rdc b3, iv_rdc b4, iv_rdc b5, iv_rdc b6, iv_rdc b7]
  exact h
theorem iv_C.cong {m m1 : ab_M} (h : iv_C m) (h1 : m1.1 68 = m.1 68) (h2 : m1.1 69 = m.1 69) (h3 : m1.1 9 = m.1 9) : iv_C m1 := by
  unfold iv_C at h ⊢
  rw [iv_rdc h1, iv_rdc h2, iv_rdc h3]
  exact h
theorem iv_cost_cong {m m1 : ab_M} (nP l f : Nat) (h1 : m1.1 48 = m.1 48) (h2 : m1.1 50 = m.1 50) (h3 : m1.1 16 = m.1 16) (b1 : m1.1 53 = m.1 53) (b2 : m1.1 54 = m.1 54) (b3 : m1.1 55 = m.1 55) (b4 : m1.1 56 = m.1 56) (b5 : m1.1 57 = m.1 57) (c1 : m1.1 61 = m.1 61) (c2 : m1.1 62 = m.1 62) (c3 : m1.1 63 = m.1 63) (c4 : m1.1 64 = m.1 64) (c5 : m1.1 65 = m.1 65) (c6 : m1.1 66 = m.1 66) : iv_cost m1 nP l f = iv_cost m nP l f := by
  unfold iv_cost
  rw [iv_rdc h1, iv_rdc h2, iv_w_cong h3, iv_rdc b1, iv_rdc b2, iv_rdc b3, iv_rdc b4, iv_rdc b5, iv_rdc c1, iv_rdc c2, iv_rdc c3, iv_rdc c4, iv_rdc c5, iv_rdc c6]
/-- the matcher's cells are as they were, and what they speak of -/
theorem iv_B.cong {m m1 : ab_M} {nP nP1 nF nL : Nat} (h : iv_B m nP nF nL) (h0 : ab_rd m1 0 14 = ab_rd m 0 14) (h1 : ab_rd m1 6 12 = ab_rd m 6 12) (h2 : ab_rd m1 6 13 = ab_rd m 6 13) (h3 : ab_rd m1 6 14 = ab_rd m 6 14) (h4 : m1.1 35 = m.1 35) (h5 : m1.1 34 = m.1 34) (h6 : m1.1 36 = m.1 36) (h7 : m1.1 67 = m.1 67) (h8 : m1.1 58 = m.1 58) (h9 : ab_rd m1 8 6 = ab_rd m 8 6) (hc : ∀ l f, l < nL → f < nF → iv_cost m1 nP1 l f = iv_cost m nP l f) : iv_B m1 nP1 nF nL := by
  unfold iv_B at h ⊢
  rw [h0, h1, h2, h3, iv_rdc h4, iv_rdc h5, iv_rdc h6, iv_rdc h7]
  have hpr : ∀ l, l < nL → ∀ s, s ≤ nF → iv_pr m nP nF l s = iv_pr m1 nP1 nF l s := by
    intro l hl s hs
    unfold iv_pr
    rw [iv_rdc h8, h9]
    by_cases q : s < nF
    · rw [if_pos q, if_pos q, hc l s hl q]
    · rw [if_neg q, if_neg q]
  refine ⟨h.1, fun hz => ?_⟩
  obtain ⟨g1, g2, g3, g4, v, c, g5, g6, g7⟩ := h.2 hz
  exact ⟨g1, g2, g3, fun l hl ho s hs => by rw [g4 l hl ho s hs, hpr l hl s hs], v, c, sg_best_cong (fun _ _ => Iff.rfl) (fun l hl _ s hs => hpr l hl s hs) g5, g6, g7⟩
/-- BEST has been called old -/
theorem iv_B.old {m : ab_M} {nP nF nL : Nat} (h : ab_rd m 0 14 = 1) : iv_B m nP nF nL := ⟨Or.inr h, fun q => absurd (h.symm.trans q) (by decide)⟩
