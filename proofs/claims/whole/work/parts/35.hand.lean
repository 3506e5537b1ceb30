/-! ===== hand ===== -/
theorem lp_f_wr (m : ab_M) {p q : Nat} (a n i : Nat) (g : Nat → Int32 → Int32) (v : Int32) (h : p ≠ q) : ab_wr (lp_f m p a n g) q i v = lp_f (ab_wr m q i v) p a n g := by
  have : ∀ (x : Nat → Nat → Int32) (y : Nat → Nat → Int32), x = y → ((x, m.2) : ab_M) = (y, m.2) := fun x y h => by rw [h]
  refine this _ _ ?_
  have e1 : (lp_f m p a n g).1 q = m.1 q := lp_f_n m a n g (Ne.symm h)
  have e2 : (ab_wr m q i v).1 p = m.1 p := ab_wr_n m i v h
  rw [e1, e2]
  funext r
  show (if r = q then upd (m.1 q) i v else (lp_f m p a n g).1 r) = (if r = p then (fun j => if a ≤ j ∧ j < a + n then g j (m.1 p j) else m.1 p j) else (ab_wr m q i v).1 r)
  by_cases k : r = q
  · rw [if_pos k, if_neg (fun z => h (z.symm.trans k)), k, ab_wr_p]
  · rw [if_neg k]
    by_cases k2 : r = p
    · rw [if_pos k2, k2]
      show (if p = p then (fun j => if a ≤ j ∧ j < a + n then g j (m.1 p j) else m.1 p j) else m.1 p) = _
      rw [if_pos rfl]
    · rw [if_neg k2, ab_wr_n m i v k]
      exact lp_f_n m a n g k2
/-- those of one bag with f hold v -/
def hd_g (bg : Nat → Int32) (f : Nat) (v : Int32) (j : Nat) (o : Int32) : Int32 := if bg j = bg f then v else o
/-- both arrays behind i of the finds -/
def hd_m (m : ab_M) (p q : Nat) (bg : Nat → Int32) (f i : Nat) (l : Int32) : ab_M := lp_f (lp_f m p 0 i (hd_g bg f 1)) q 0 i (hd_g bg f l)
theorem hd_0 (m : ab_M) (p q : Nat) (bg : Nat → Int32) (f : Nat) (l : Int32) : hd_m m p q bg f 0 l = m := by
  unfold hd_m
  rw [lp_f_0, lp_f_0]
theorem hd_s (m : ab_M) {p q : Nat} (bg : Nat → Int32) (f i : Nat) (l : Int32) (h : q ≠ p) (e : bg i = bg f) : ab_wr (ab_wr (hd_m m p q bg f i l) p i 1) q i l = hd_m m p q bg f (i + 1) l := by
  unfold hd_m
  rw [lp_f_wr _ 0 i i _ 1 h]
  have e1 := lp_f_s m p 0 i (hd_g bg f 1) (v := 1) (by rw [Nat.zero_add]; unfold hd_g; rw [if_pos e])
  rw [Nat.zero_add] at e1
  rw [e1]
  have e2 := lp_f_s (lp_f m p 0 (i + 1) (hd_g bg f 1)) q 0 i (hd_g bg f l) (v := l) (by rw [Nat.zero_add]; unfold hd_g; rw [if_pos e])
  rw [Nat.zero_add] at e2
  exact e2
theorem hd_k (m : ab_M) {p q : Nat} (bg : Nat → Int32) (f i : Nat) (l : Int32) (e : ¬ bg i = bg f) : hd_m m p q bg f i l = hd_m m p q bg f (i + 1) l := by
  unfold hd_m
  rw [← lp_f_k m p 0 i (hd_g bg f 1) (by rw [Nat.zero_add]; unfold hd_g; rw [if_neg e])]
  exact lp_f_k _ q 0 i (hd_g bg f l) (by rw [Nat.zero_add]; unfold hd_g; rw [if_neg e])
theorem hd_n (m : ab_M) {p q r : Nat} (bg : Nat → Int32) (f i : Nat) (l : Int32) (h1 : r ≠ p) (h2 : r ≠ q) : (hd_m m p q bg f i l).1 r = m.1 r := (lp_f_n _ 0 i _ h2).trans (lp_f_n m 0 i _ h1)
theorem hd_p (m : ab_M) {p q : Nat} (bg : Nat → Int32) (f i : Nat) (l : Int32) (h : p ≠ q) (j : Nat) : ab_rd (hd_m m p q bg f i l) p j = if j < i ∧ bg j = bg f then 1 else ab_rd m p j := by
  unfold hd_m
  rw [lp_f_rn _ 0 i _ h, lp_f_rd]
  unfold hd_g
  by_cases a : j < i
  · rw [if_pos (by omega)]
    by_cases b : bg j = bg f
    · rw [if_pos b, if_pos ⟨a, b⟩]
    · rw [if_neg b, if_neg (fun z => b z.2)]
  · rw [if_neg (by omega), if_neg (fun z => a z.1)]
theorem hd_q (m : ab_M) {p q : Nat} (bg : Nat → Int32) (f i : Nat) (l : Int32) (h : q ≠ p) (j : Nat) : ab_rd (hd_m m p q bg f i l) q j = if j < i ∧ bg j = bg f then l else ab_rd m q j := by
  unfold hd_m
  rw [lp_f_rd, lp_f_rn _ 0 i _ h]
  unfold hd_g
  by_cases a : j < i
  · rw [if_pos (by omega)]
    by_cases b : bg j = bg f
    · rw [if_pos b, if_pos ⟨a, b⟩]
    · rw [if_neg b, if_neg (fun z => b z.2)]
  · rw [if_neg (by omega), if_neg (fun z => a z.1)]
theorem ct_Finds_handBag {Z : ab_Z} (hZ : ab_okZ Z) {f n : Nat} {l : Int32} {m : ab_M} (hf : f < 24) (hn : n ≤ 24) (h : ab_rd m 4 8 = nI n) : ab_C Z 0 8 [.inl (.ref 4), .inl (.int (nI f)), .inl (.int l)] m none (hd_m m 24 25 (ab_rd m 26) f n l) := by
  have hif := ab_in (N := 24) hf (by decide)
  have hcf := ab_cl (n := f) (by omega)
  have lp : ∀ (k i : Nat), i + k = n → ab_T Z 8 0 (2, [(0, .inl (.ref 4)), (1, .inl (.int (nI f))), (2, .inl (.int l)), (3, .inl (.int (nI i)))], [], hd_m m 24 25 (ab_rd m 26) f i l) (fun r m9 => r = none ∧ m9 = hd_m m 24 25 (ab_rd m 26) f n l) := by
    intro k
    induction k with
    | zero =>
      intro i hi
      have hi : i = n := by omega
      subst hi
      refine tk_Finds_handBag_2_2 ?_ ⟨rfl, rfl⟩
      have : ab_rd (hd_m m 24 25 (ab_rd m 26) f i l) 4 8 = nI i := (congrFun (hd_n m (ab_rd m 26) f i l (by decide) (by decide)) _).trans h
      rw [this]
      exact nI_le (Nat.le_refl _) (by omega)
    | succ k ih =>
      intro i hi
      have hc : ¬ ab_rd (hd_m m 24 25 (ab_rd m 26) f i l) 4 8 ≤ nI i := by
        have : ab_rd (hd_m m 24 25 (ab_rd m 26) f i l) 4 8 = nI n := (congrFun (hd_n m (ab_rd m 26) f i l (by decide) (by decide)) _).trans h
        rw [this]
        exact nI_ge (by omega) (by omega)
      have hb : ∀ j, ab_rd (hd_m m 24 25 (ab_rd m 26) f i l) 26 j = ab_rd m 26 j := fun j => congrFun (hd_n m (ab_rd m 26) f i l (by decide) (by decide)) j
      have hin := ab_in (n := i) (N := 24) (by omega) (by decide)
      have hci := ab_cl (n := i) (by omega)
      by_cases e : ab_rd m 26 i = ab_rd m 26 f
      · refine tk_Finds_handBag_2_0 hc hin hif (by rw [hb, hb, hci, hcf]; exact e) hin hin ?_
        rw [hci, nI_1, hd_s m (ab_rd m 26) f i l (by decide) e]
        exact ih (i + 1) (by omega)
      · refine tk_Finds_handBag_2_1 hc hin hif (by rw [hb, hb, hci, hcf]; exact e) ?_
        rw [hd_k m (ab_rd m 26) f i l e, nI_1]
        exact ih (i + 1) (by omega)
  refine ab_Kv hZ (tk_Finds_handBag_0_0 ?_) trivial (by decide) (Nat.le_of_ble_eq_true rfl)
  have := lp n 0 (by omega)
  rw [hd_0] at this
  exact this
/-- another loss, not handed, with a claim as good, in the class's cells -/
def hd_rv (m : ab_M) (n l f : Nat) : Prop := ∃ k, k < n ∧ k ≠ l ∧ ab_rd m 33 k = 0 ∧ ¬ ab_rd m 9 (k * 24 + f) < ab_rd m 9 (l * 24 + f)
theorem ct_D_hasRival {Z : ab_Z} (hZ : ab_okZ Z) {l f n : Nat} {m : ab_M} (hl : l < 24) (hf : f < 24) (hn : n ≤ 24) (h : ab_rd m 5 7 = nI n) : (hd_rv m n l f → ab_C Z 0 90 [.inl (.ref 0), .inl (.int (nI l)), .inl (.int (nI f))] m (some 1) m) ∧ (¬ hd_rv m n l f → ab_C Z 0 90 [.inl (.ref 0), .inl (.int (nI l)), .inl (.int (nI f))] m (some 0) m) := by
  have hil := ab_in (N := 24) hl (by decide)
  have hif := ab_in (N := 24) hf (by decide)
  have hcl := ab_cl (n := l) (by omega)
  have hcf := ab_cl (n := f) (by omega)
  have lp : ∀ (k i : Nat), i + k = n → (∀ j, j < i → ¬ (j ≠ l ∧ ab_rd m 33 j = 0 ∧ ¬ ab_rd m 9 (j * 24 + f) < ab_rd m 9 (l * 24 + f))) → ab_T Z 90 0 (2, [(0, .inl (.ref 0)), (1, .inl (.int (nI l))), (2, .inl (.int (nI f))), (3, .inl (.int (nI i)))], [], m) (fun r m9 => m9 = m ∧ ((hd_rv m n l f ∧ r = some 1) ∨ (¬ hd_rv m n l f ∧ r = some 0))) := by
    intro k
    induction k with
    | zero =>
      intro i hi hno
      have hi : i = n := by omega
      subst hi
      refine tk_D_hasRival_2_8 (by rw [h]; exact nI_le (Nat.le_refl _) (by omega)) ⟨rfl, Or.inr ⟨?_, rfl⟩⟩
      rintro ⟨j, hj, hq⟩
      exact hno j hj hq
    | succ k ih =>
      intro i hi hno
      have hc : ¬ ab_rd m 5 7 ≤ nI i := by rw [h]; exact nI_ge (by omega) (by omega)
      have hii := ab_in (n := i) (N := 24) (by omega) (by decide)
      have hci := ab_cl (n := i) (by omega)
      have next : ¬ (i ≠ l ∧ ab_rd m 33 i = 0 ∧ ¬ ab_rd m 9 (i * 24 + f) < ab_rd m 9 (l * 24 + f)) → ab_T Z 90 0 (2, [(0, .inl (.ref 0)), (1, .inl (.int (nI l))), (2, .inl (.int (nI f))), (3, .inl (.int (nI i + 1)))], [], m) (fun r m9 => m9 = m ∧ ((hd_rv m n l f ∧ r = some 1) ∨ (¬ hd_rv m n l f ∧ r = some 0))) := by
        intro hz
        rw [nI_1]
        refine ih (i + 1) (by omega) (fun j hj => ?_)
        by_cases q : j = i
        · rw [q]; exact hz
        · exact hno j (by omega)
      have hil2 : nI i = nI l ↔ i = l := nI_eq (by omega) (by omega)
      by_cases a : ab_rd m 9 (i * 24 + f) < ab_rd m 9 (l * 24 + f)
      · by_cases b : i = l
        · exact tk_D_hasRival_2_7 hc hii ⟨hii, hif⟩ hil ⟨hil, hif⟩ (by rw [hci, hcf, hcl]; exact a) (hil2.mpr b) (next (fun z => z.2.2 a))
        · exact tk_D_hasRival_2_6 hc hii ⟨hii, hif⟩ hil ⟨hil, hif⟩ (by rw [hci, hcf, hcl]; exact a) (fun z => b (hil2.mp z)) rfl (next (fun z => z.2.2 a))
      · by_cases b : i = l
        · exact tk_D_hasRival_2_3 hc hii ⟨hii, hif⟩ hil ⟨hil, hif⟩ (by rw [hci, hcf, hcl]; exact a) (hil2.mpr b) (next (fun z => z.1 b))
        · by_cases c : ab_rd m 33 i = 0
          · exact tk_D_hasRival_2_0 hc hii ⟨hii, hif⟩ hil ⟨hil, hif⟩ (by rw [hci, hcf, hcl]; exact a) (fun z => b (hil2.mp z)) (by decide) hii (by rw [hci]; exact c) ⟨rfl, Or.inl ⟨⟨i, by omega, b, c, a⟩, rfl⟩⟩
          · exact tk_D_hasRival_2_1 hc hii ⟨hii, hif⟩ hil ⟨hil, hif⟩ (by rw [hci, hcf, hcl]; exact a) (fun z => b (hil2.mp z)) (by decide) hii (by rw [hci]; exact c) (next (fun z => c z.2.1))
  have hT := lp n 0 (by omega) (fun j hj => absurd hj (by omega))
  constructor
  · intro hr
    refine ab_Kc hZ (tk_D_hasRival_0_0 (hT.mono ?_)) (Or.inr rfl) (by decide) (Nat.le_of_ble_eq_true rfl)
    rintro r m9 ⟨h1, ⟨-, h2⟩ | ⟨h2, -⟩⟩
    · exact ⟨h2, h1⟩
    · exact absurd hr h2
  · intro hr
    refine ab_Kc hZ (tk_D_hasRival_0_0 (hT.mono ?_)) (Or.inl rfl) (by decide) (Nat.le_of_ble_eq_true rfl)
    rintro r m9 ⟨h1, ⟨h2, -⟩ | ⟨-, h2⟩⟩
    · exact absurd h2 hr
    · exact ⟨h2, h1⟩
