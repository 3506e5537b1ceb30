/-! ===== hand: the reference, both ===== -/
theorem nI_24 {a b : Nat} (ha : a < 24) (hb : b < 24) : 24 * nI a + nI b = nI (24 * a + b) := by
  have : (24 : Int32) = nI 24 := rfl
  rw [this, pk_mul, nI_add]
theorem cl_M_hand2 {Z : ab_Z} (hZ : ab_okZ Z) {f n : Nat} {l x3 : Int32} {m : ab_M} (hf : f < 24) (hn : n ≤ 24) (h : ab_rd m 8 4 = nI n) : ∀ (k i : Nat), i + k = n → ab_T Z 132 40 (146, [(0, .inl (.ref 8)), (1, .inl (.int l)), (2, .inl (.int (nI f))), (3, .inl (.int x3)), (4, .inl (.int (nI i)))], [], hd_m m 58 59 (ab_rd m 60) f i l) (fun r m9 => r = some 1 ∧ m9 = hd_m m 58 59 (ab_rd m 60) f n l) := by
  have hif := ab_in (N := 24) hf (by decide)
  have hcf := ab_cl (n := f) (by omega)
  intro k
  induction k with
  | zero =>
    intro i hi
    have hi : i = n := by omega
    subst hi
    refine tk_M_hand_146_2 ?_ ⟨rfl, rfl⟩
    have : ab_rd (hd_m m 58 59 (ab_rd m 60) f i l) 8 4 = nI i := (congrFun (hd_n m (ab_rd m 60) f i l (by decide) (by decide)) _).trans h
    rw [this]
    exact nI_le (Nat.le_refl _) (by omega)
  | succ k ih =>
    intro i hi
    have hc : ¬ ab_rd (hd_m m 58 59 (ab_rd m 60) f i l) 8 4 ≤ nI i := by
      have : ab_rd (hd_m m 58 59 (ab_rd m 60) f i l) 8 4 = nI n := (congrFun (hd_n m (ab_rd m 60) f i l (by decide) (by decide)) _).trans h
      rw [this]
      exact nI_ge (by omega) (by omega)
    have hb : ∀ j, ab_rd (hd_m m 58 59 (ab_rd m 60) f i l) 60 j = ab_rd m 60 j := fun j => congrFun (hd_n m (ab_rd m 60) f i l (by decide) (by decide)) j
    have hin := ab_in (n := i) (N := 24) (by omega) (by decide)
    have hci := ab_cl (n := i) (by omega)
    by_cases e : ab_rd m 60 i = ab_rd m 60 f
    · refine tk_M_hand_146_1 hc hin hif (by rw [hb, hb, hci, hcf]; exact e) hin hin ?_
      rw [hci, nI_1, hd_s m (ab_rd m 60) f i l (by decide) e]
      exact ih (i + 1) (by omega)
    · refine tk_M_hand_146_0 hc hin hif (by rw [hb, hb, hci, hcf]; exact e) ?_
      rw [hd_k m (ab_rd m 60) f i l e, nI_1]
      exact ih (i + 1) (by omega)
def hd_rm (m : ab_M) (n l f : Nat) (x : Int32) : Prop := ∃ k, k < n ∧ k ≠ l ∧ ab_rd m 67 k = 0 ∧ ¬ ab_rd m 69 (24 * k + f) < x
theorem cl_M_hand1 {Z : ab_Z} (hZ : ab_okZ Z) {f l n nF : Nat} {x3 : Int32} {m : ab_M} (hl : l < 24) (hf : f < 24) (hn : n ≤ 24) (hF : nF ≤ 24) (h : ab_rd m 8 5 = nI n) (h2 : ab_rd m 8 4 = nI nF) : ∀ (k i : Nat), i + k = n → (∀ j, j < i → ¬ (j ≠ l ∧ ab_rd m 67 j = 0 ∧ ¬ ab_rd m 69 (24 * j + f) < x3)) → ab_T Z 132 40 (82, [(0, .inl (.ref 8)), (1, .inl (.int (nI l))), (2, .inl (.int (nI f))), (3, .inl (.int x3)), (4, .inl (.int (nI i)))], [], m) (fun r m9 => (hd_rm m n l f x3 ∧ r = some 0 ∧ m9 = ab_wr m 8 0 8) ∨ (¬ hd_rm m n l f x3 ∧ r = some 1 ∧ m9 = hd_m (ab_wr m 67 l 1) 58 59 (ab_rd m 60) f nF (nI l))) := by
  have hil := ab_in (N := 24) hl (by decide)
  have hcl := ab_cl (n := l) (by omega)
  intro k
  induction k with
  | zero =>
    intro i hi hno
    have hi : i = n := by omega
    subst hi
    refine tk_M_hand_82_4 (by rw [h]; exact nI_le (Nat.le_refl _) (by omega)) ⟨hil, Or.inr rfl⟩ ?_
    rw [hcl]
    have := cl_M_hand2 hZ (f := f) (n := nF) (l := nI l) (x3 := x3) (m := ab_wr m 67 l 1) hf hF h2 nF 0 (by omega)
    rw [hd_0] at this
    refine this.mono (fun r m9 q => Or.inr ⟨?_, q.1, q.2⟩)
    rintro ⟨j, hj, hq⟩
    exact hno j hj hq
  | succ k ih =>
    intro i hi hno
    have hc : ¬ ab_rd m 8 5 ≤ nI i := by rw [h]; exact nI_ge (by omega) (by omega)
    have hii := ab_in (n := i) (N := 24) (by omega) (by decide)
    have hci := ab_cl (n := i) (by omega)
    have c1 : 24 * nI i + nI f = nI (24 * i + f) := nI_24 (by omega) hf
    have hin : vp_in (24 * nI i + nI f) 576 := by rw [c1]; exact ab_in (by omega) (by decide)
    have hil2 : nI i = nI l ↔ i = l := nI_eq (by omega) (by omega)
    have next : ¬ (i ≠ l ∧ ab_rd m 67 i = 0 ∧ ¬ ab_rd m 69 (24 * i + f) < x3) → ab_T Z 132 40 (82, [(0, .inl (.ref 8)), (1, .inl (.int (nI l))), (2, .inl (.int (nI f))), (3, .inl (.int x3)), (4, .inl (.int (nI i + 1)))], [], m) (fun r m9 => (hd_rm m n l f x3 ∧ r = some 0 ∧ m9 = ab_wr m 8 0 8) ∨ (¬ hd_rm m n l f x3 ∧ r = some 1 ∧ m9 = hd_m (ab_wr m 67 l 1) 58 59 (ab_rd m 60) f nF (nI l))) := by
      intro hz
      rw [nI_1]
      refine ih (i + 1) (by omega) (fun j hj => ?_)
      by_cases q : j = i
      · rw [q]; exact hz
      · exact hno j (by omega)
    by_cases b : i = l
    · exact tk_M_hand_82_3 hc (hil2.mpr b) (next (fun z => z.1 b))
    · by_cases c : ab_rd m 67 i = 0
      · by_cases a : ab_rd m 69 (24 * i + f) < x3
        · exact tk_M_hand_82_1 hc (fun z => b (hil2.mp z)) hii (by rw [hci]; exact c) hin (by rw [c1, ab_cl (by omega)]; exact a) (next (fun z => z.2.2 a))
        · exact tk_M_hand_82_0 hc (fun z => b (hil2.mp z)) hii (by rw [hci]; exact c) hin (by rw [c1, ab_cl (by omega)]; exact a) ⟨by decide, ct_M_no hZ 8 _⟩ (Or.inl ⟨⟨i, by omega, b, c, a⟩, rfl, rfl⟩)
      · exact tk_M_hand_82_2 hc (fun z => b (hil2.mp z)) hii (by rw [hci]; exact c) (next (fun z => c z.2.1))
/-- the finds behind a handing -/
theorem iv_handF {m : ab_M} {nK nP n : Nat} (hF : iv_F m nK nP n) {f : Nat} {l : Int32} {m1 : ab_M} (e1 : ∀ j, ab_rd m1 24 j = if j < n ∧ ab_rd m 26 j = ab_rd m 26 f then 1 else ab_rd m 24 j) (e2 : ∀ j, ab_rd m1 25 j = if j < n ∧ ab_rd m 26 j = ab_rd m 26 f then l else ab_rd m 25 j) (e3 : ∀ j, ab_rd m1 58 j = if j < n ∧ ab_rd m 60 j = ab_rd m 60 f then 1 else ab_rd m 58 j) (e4 : ∀ j, ab_rd m1 59 j = if j < n ∧ ab_rd m 60 j = ab_rd m 60 f then l else ab_rd m 59 j) (q : ∀ p, p ∈ [4, 19, 20, 21, 22, 23, 26, 53, 54, 55, 56, 57, 60] → ab_rd m1 p = ab_rd m p) (hc : ab_rd m1 8 4 = ab_rd m 8 4) : iv_F m1 nK nP n := by
  obtain ⟨g1, g2, g3, a1, a2, a3, a4, a5, a6, a7, a8, g⟩ := hF
  refine ⟨g1, (congrFun (q 4 (by decide)) _).trans g2, hc.trans g3, ?_, ?_, ?_, ?_, ?_, fun j => by rw [e1, e3, a8, a8, a6], fun j => by rw [e2, e4, a8, a8, a7], ?_, fun j hj => ?_⟩
  · rw [q 19 (by decide), q 53 (by decide)]; exact a1
  · rw [q 20 (by decide), q 54 (by decide)]; exact a2
  · rw [q 21 (by decide), q 55 (by decide)]; exact a3
  · rw [q 22 (by decide), q 56 (by decide)]; exact a4
  · rw [q 23 (by decide), q 57 (by decide)]; exact a5
  · rw [q 26 (by decide), q 60 (by decide)]; exact a8
  · obtain ⟨t1, t2, t3, t4, t5, t6, u, hu, u1, u2, u3⟩ := g j hj
    rw [q 53 (by decide), q 54 (by decide), q 55 (by decide), q 56 (by decide), q 57 (by decide), q 60 (by decide)]
    refine ⟨t1, t2, t3, t4, t5, ?_, u, hu, u1, u2, ?_⟩
    · rw [e3]
      by_cases z : j < n ∧ ab_rd m 60 j = ab_rd m 60 f
      · rw [if_pos z]; exact Or.inr (Or.inl rfl)
      · rw [if_neg z]; exact t6
    · rw [e3, e3]
      by_cases z : ab_rd m 60 j = ab_rd m 60 f
      · rw [if_pos ⟨hj, z⟩, if_pos ⟨by omega, by rw [u2, ← u1]; exact z⟩]
      · rw [if_neg (fun y => z y.2), if_neg (fun y => z (by rw [u1, ← u2]; exact y.2))]
        exact u3
