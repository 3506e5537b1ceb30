/-! ===== the class's matcher: one more loss ===== -/
theorem ct_J_fill_25 {Z : ab_Z} (hZ : ab_okZ Z) {m : ab_M} {v : Int32} : ab_C Z 0 146 [.inl (.ref 41), .inl (.int v)] m none (lp_f m 41 0 25 (fun _ _ => v)) := by
  have lp : ∀ (k i : Nat), i + k = 25 → ab_T Z 146 0 (5, [(0, .inl (.ref 41)), (1, .inl (.int v)), (2, .inl (.int (nI i))), (3, .inl (.int (Int32.ofNat 25)))], [], lp_f m 41 0 i (fun _ _ => v)) (fun r m9 => r = none ∧ m9 = lp_f m 41 0 25 (fun _ _ => v)) := by
    intro k
    induction k with
    | zero =>
      intro i hi
      have hi : i = 25 := by omega
      subst hi
      exact tk_J_fill41_5_1 (Int32.le_refl _) ⟨rfl, rfl⟩
    | succ k ih =>
      intro i hi
      refine tk_J_fill41_5_0 (nI_ge (b := 25) (by omega) (by decide)) (ab_in (by omega) (by decide)) ?_
      rw [ab_cl (by omega), nI_1]
      have := lp_f_s m 41 0 i (fun _ _ => v) (v := v) rfl
      rw [Nat.zero_add] at this
      rw [this]
      exact ih (i + 1) (by omega)
  refine ab_Kv hZ (tk_J_fill41_0_0 ?_) trivial (by decide) (Nat.le_of_ble_eq_true rfl)
  have := lp 25 0 rfl
  rw [lp_f_0] at this
  exact this
/-- the loss that a seat's note speaks of has this slack there -/
def so_R (M : ab_M) (w : Nat → Nat → Int) (Q : Nat → Prop) (l0 B s : Nat) (x : Int32) (y : Int) : Prop := (x = -1 ∧ y = w l0 s - hU M l0 - hV M s) ∨ ∃ a l : Nat, B.testBit a = true ∧ x = nI a ∧ Q l ∧ hT M a = l ∧ y = w l s - hU M l - hV M s
def so_I (m : ab_M) (F l0 : Nat) (w : Nat → Nat → Int) (Q : Nat → Prop) (M : ab_M) (B j : Nat) (rk : Nat → Nat) (l : Nat) (x : Int32) : Prop :=
  fr_M [39, 40, 41, 42] m M ∧ B < 2 ^ 24 ∧ (∀ s, B.testBit s = true → s < F ∧ rk s < j ∧ hT M s ≠ -1) ∧ cn_of (fun s => B.testBit s = true) F = j ∧
  hu_F F w (fun l => Q l ∨ l = l0) (hU M) (hV M) ∧ hu_M F w Q (hU M) (hV M) (hS M) (hT M) ∧ (∀ l, l < 24 → ¬ Q l → l ≠ l0 → hU M l = 0) ∧
  ((l = l0 ∧ x = -1) ∨ ∃ a, B.testBit a = true ∧ x = nI a ∧ hT M a = l ∧ Q l) ∧
  (∀ s, s ≤ F → ¬ B.testBit s = true → hL M s ≤ 1000000 - hU M l0 ∧ (hL M s = 1000000 - hU M l0 ∨ so_R M w Q l0 B s (hB M s) (hL M s)) ∧ ∀ l' : Nat, (l' = l0 ∨ ∃ a, B.testBit a = true ∧ hT M a = l') → l' ≠ l → hL M s ≤ w l' s - hU M l' - hV M s) ∧
  ∀ s, B.testBit s = true → (hB M s = -1 ∧ hU M l0 + hV M s = w l0 s) ∨ ∃ a l' : Nat, B.testBit a = true ∧ rk a < rk s ∧ hB M s = nI a ∧ a < F ∧ Q l' ∧ hT M a = l' ∧ hU M l' + hV M s = w l' s
theorem ct_Matcher_seatOne {Z : ab_Z} (hZ : ab_okZ Z) {m : ab_M} {F l0 : Nat} {w : Nat → Nat → Int} {Q : Nat → Prop} (hF : F ≤ 24) (hb : ab_rd m 6 13 = nI F) (hQ : ∀ l, Q l → l < 24) (hl0 : l0 < 24) (hn0 : ¬ Q l0) (hw : ∀ l s, (Q l ∨ l = l0) → s ≤ F → hW m l s = w l s ∧ 0 ≤ w l s ∧ w l s ≤ 1000000) (hg : ∀ l, (Q l ∨ l = l0) → w l F ≤ 100) (hUF : hu_F F w Q (hU m) (hV m)) (hUM : hu_M F w Q (hU m) (hV m) (hS m) (hT m)) (hU0 : ∀ l, l < 24 → ¬ Q l → hU m l = 0) : ab_K Z 2 35 [.inl (.ref 6), .inl (.int (nI l0))] m (fun r m9 => r = none ∧ fr_M [37, 38, 39, 40, 41, 42] m m9 ∧ hu_F F w (fun l => Q l ∨ l = l0) (hU m9) (hV m9) ∧ hu_M F w (fun l => Q l ∨ l = l0) (hU m9) (hV m9) (hS m9) (hT m9) ∧ ∀ l, l < 24 → ¬ Q l → l ≠ l0 → hU m9 l = 0 ∧ ab_rd m9 37 l = ab_rd m 37 l) := by
  have lp : ∀ (k j B : Nat) (rk : Nat → Nat) (l : Nat) (x : Int32) (M : ab_M), j + k = F + 1 → so_I m F l0 w Q M B j rk l x → ab_T Z 35 2 (19, [(0, .inl (.ref 6)), (1, .inl (.int (nI l0))), (2, .inl (.int (nI B))), (3, .inl (.int x)), (4, .inl (.int (nI l))), (5, .inl (.int (nI j)))], [], M) (fun r m9 => r = none ∧ fr_M [37, 38, 39, 40, 41, 42] m m9 ∧ hu_F F w (fun l => Q l ∨ l = l0) (hU m9) (hV m9) ∧ hu_M F w (fun l => Q l ∨ l = l0) (hU m9) (hV m9) (hS m9) (hT m9) ∧ ∀ l, l < 24 → ¬ Q l → l ≠ l0 → hU m9 l = 0 ∧ ab_rd m9 37 l = ab_rd m 37 l) := by
    intro k
    induction k with
    | zero =>
      intro j B rk l x M hj hI
      have h1 := cn_le (fun s => B.testBit s = true) F
      have h2 := hI.2.2.2.1
      omega
    | succ k ih =>
      intro j B rk l x M hj hI
      obtain ⟨c1, c2, c3, c4, c5, c6, c7, c8, c9, c10⟩ := hI
      have hBF : ∀ s, B.testBit s = true → s < F := fun s hs => (c3 s hs).1
      have eb : ab_rd M 6 13 = nI F := by rw [c1.rdi (by decide)]; exact hb
      have hlt : ¬ ab_rd M 6 13 < nI j := by rw [eb]; exact nI_nlt (by omega) (by omega)
      -- bounds
      have hl : l < 24 := by
        rcases c8 with ⟨z, -⟩ | ⟨a, -, -, -, z⟩
        · omega
        · exact hQ l z
      have hlQ : Q l ∨ l = l0 := by
        rcases c8 with ⟨z, -⟩ | ⟨a, -, -, -, z⟩
        · exact Or.inr z
        · exact Or.inl z
      have eW : ∀ l s, hW M l s = hW m l s := fun l s => by
        show (ab_rd M 34 (l * 25 + s)).toInt = _
        rw [c1.rdi (by decide)]
      have lt24 : ∀ l, (Q l ∨ l = l0) → l < 24 := fun l h => by
        rcases h with z | z
        · exact hQ l z
        · omega
      have bU : ∀ l, l < 24 → 0 ≤ hU M l ∧ hU M l ≤ 100 := fun l h24 => by
        by_cases q : Q l ∨ l = l0
        · have h1 := c5.1 l q
          have h2 := c5.2.1 l F q (Nat.le_refl _)
          have h3 := hg l q
          have h4 := c5.2.2.2
          omega
        · have := c7 l h24 (fun z => q (Or.inl z)) (fun z => q (Or.inr z))
          omega
      have bV : ∀ s, s ≤ F → -100 ≤ hV M s ∧ hV M s ≤ 0 := fun s hs => by
        by_cases e : s = F
        · have h4 := c5.2.2.2
          rw [e]
          omega
        · have h1 := c5.2.2.1 s (by omega)
          rcases c6.2 s (by omega) with ⟨-, z⟩ | ⟨l', z1, z2, z3⟩
          · omega
          · obtain ⟨s', y1, y2, y3, y4⟩ := c6.1 l' z1
            have : s' = s := by omega
            subst this
            have := bU l' (hQ l' z1)
            have := (hw l' s' (Or.inl z1) hs).2
            omega
      obtain ⟨r, M1, hC1, t, ht, htB, hr, hN, hmin⟩ := ct_Matcher_nextSeat hZ (m := M) (F := F) (l := l) (B := B) (x := x) hF eb hl c2 hBF (fun s hs => by
        have h1 := hw l s hlQ hs
        have h2 := bV s hs
        have h3 := eW l s
        omega) (by have := bU l hl; omega)
      rw [hr] at hC1
      obtain ⟨n1, n2⟩ := hN
      have fU : ∀ l, hU M1 l = hU M l := fun l => by
        show (ab_rd M1 39 l).toInt = _
        rw [n1.rdi (by decide)]
      have fV : ∀ s, hV M1 s = hV M s := fun s => by
        show (ab_rd M1 40 s).toInt = _
        rw [n1.rdi (by decide)]
      have fS : ∀ s, hS M1 s = hS M s := fun s => by
        show (ab_rd M1 37 s).toInt = _
        rw [n1.rdi (by decide)]
      have fT : ∀ s, hT M1 s = hT M s := fun s => by
        show (ab_rd M1 38 s).toInt = _
        rw [n1.rdi (by decide)]
      -- what is noted now
      have sl : ∀ s, s ≤ F → hW M l s - hU M l - hV M s = w l s - hU M l - hV M s := fun s hs => by rw [eW, (hw l s hlQ hs).1]
      have new : ∀ s, s ≤ F → ¬ B.testBit s = true → hL M1 s ≤ 1000000 - hU M l0 ∧ (hL M1 s = 1000000 - hU M l0 ∨ so_R M w Q l0 B s (hB M1 s) (hL M1 s)) ∧ ∀ l' : Nat, (l' = l0 ∨ ∃ a, B.testBit a = true ∧ hT M a = l') → hL M1 s ≤ w l' s - hU M l' - hV M s := by
        intro s hs hsB
        obtain ⟨d1, d2, d3⟩ := c9 s hs hsB
        obtain ⟨e1, e2⟩ := (n2 s).1 ⟨by omega, hsB⟩
        rw [sl s hs] at e1 e2
        refine ⟨by omega, ?_, fun l' hl' => ?_⟩
        · by_cases q : w l s - hU M l - hV M s < hL M s
          · rw [if_pos q] at e2
            have e1 : hL M1 s = w l s - hU M l - hV M s := by omega
            right
            rw [e1, e2]
            rcases c8 with ⟨z1, z2⟩ | ⟨a, z1, z2, z3, z4⟩
            · exact Or.inl ⟨z2, by rw [z1]⟩
            · exact Or.inr ⟨a, l, z1, z2, z4, z3, rfl⟩
          · rw [if_neg q] at e2
            have e1 : hL M1 s = hL M s := by omega
            rw [e1, e2]
            exact d2
        · by_cases e : l' = l
          · rw [e]
            clear hl'
            omega
          · have := d3 l' hl' e
            clear hl'
            omega
      have tF := new F (Nat.le_refl _) (fun z => by have := hBF F z; omega)
      have tF2 := tF.2.2 l0 (Or.inl rfl)
      have tmin := hmin F (Nat.le_refl _) (fun z => by have := hBF F z; omega)
      have vF := c5.2.2.2
      have gap := hg l0 (Or.inr rfl)
      have u0 := bU l0 hl0
      have slk : ∀ l' s, (Q l' ∨ l' = l0) → s ≤ F → 0 ≤ w l' s - hU M l' - hV M s := fun l' s h1 h2 => by
        have := c5.2.1 l' s h1 h2
        omega
      obtain ⟨t1, t2, t3⟩ := new t ht htB
      have tR : so_R M w Q l0 B t (hB M1 t) (hL M1 t) := by
        rcases t2 with z | z
        · omega
        · exact z
      have dpos : 0 ≤ hL M1 t := by
        rcases tR with ⟨-, z⟩ | ⟨a, l', -, -, z1, -, z2⟩
        · have := slk l0 t (Or.inr rfl) ht
          omega
        · have := slk l' t (Or.inl z1) ht
          omega
      have lpos : ∀ s, s ≤ F → ¬ B.testBit s = true → 0 ≤ hL M1 s := fun s hs hsB => by
        have := hmin s hs hsB
        omega
      -- the sitters of the passed seats
      have sitQ : ∀ s, B.testBit s = true → ∃ l' : Nat, Q l' ∧ hT M s = l' ∧ hS M l' = s := fun s hs => by
        rcases c6.2 s (hBF s hs) with ⟨z, -⟩ | z
        · exact absurd z (c3 s hs).2.2
        · exact z
      have sitOne : ∀ (l' s : Nat), Q l' → s < F → hT M s = l' → hS M l' = s := fun l' s h1 h2 h3 => by
        rcases c6.2 s h2 with ⟨z, -⟩ | ⟨l2, z1, z2, z3⟩
        · omega
        · have : l2 = l' := by omega
          rw [← this]
          exact z3
      have e41 : (ab_rd M1 41 t).toInt = hL M1 t := rfl
      obtain ⟨r2, M2, hC2, hr2, hD⟩ := ct_Matcher_raiseDues hZ (m := M1) (F := F) (l0 := l0) (B := B) (x := ab_rd M1 41 t) hF (by rw [n1.rdi (by decide)]; exact eb) hl0 c2 hBF (fun s hs => by
        obtain ⟨l', z1, z2, -⟩ := sitQ s hs
        exact ⟨l', hQ l' z1, fun e => hn0 (by rw [← e]; exact z1), by rw [fT]; exact z2⟩) (fun s s' hs hs' e => by
        rw [fT, fT] at e
        obtain ⟨l', z1, z2, z3⟩ := sitQ s hs
        have := sitOne l' s' z1 (hBF s' hs') (by omega)
        omega) (by rw [e41]; omega) (fun l h24 => by rw [fU]; have := bU l h24; omega) (fun s hs => by rw [fV]; have := bV s hs; omega) (fun s hs hsB => by have := lpos s hs hsB; have := (new s hs hsB).1; omega)
      rw [hr2] at hC2
      obtain ⟨o1, o2, o3, o4⟩ := hD
      rw [e41] at o2 o4
      have ct := ab_cl (n := t) (by omega)
      have gT : ∀ s, hT M2 s = hT M s := fun s => by
        show (ab_rd M2 38 s).toInt = _
        rw [o1.rdi (by decide)]
        exact fT s
      have gS : ∀ s, hS M2 s = hS M s := fun s => by
        show (ab_rd M2 37 s).toInt = _
        rw [o1.rdi (by decide)]
        exact fS s
      have gB : ∀ s, hB M2 s = hB M1 s := fun s => o1.rdi (by decide) s
      -- the tree, and what has been raised
      have tr : ∀ l' : Nat, (l' = l0 ∨ ∃ a, B.testBit a = true ∧ hT M a = l') → hU M2 l' = hU M l' + hL M1 t := fun l' h => by
        rw [o2 l' (h.imp id (fun ⟨a, z1, z2⟩ => ⟨a, by have := hBF a z1; omega, z1, by rw [fT]; exact z2⟩)), fU]
      have nt : ∀ l' : Nat, ¬ (l' = l0 ∨ ∃ a, B.testBit a = true ∧ hT M a = l') → hU M2 l' = hU M l' := fun l' h => by
        show (ab_rd M2 39 l').toInt = _
        rw [o3 l' (fun z => h (z.imp id (fun ⟨a, _, z1, z2⟩ => ⟨a, z1, by rw [← fT]; exact z2⟩)))]
        exact fU l'
      have vB : ∀ s, B.testBit s = true → hV M2 s = hV M s - hL M1 t := fun s hs => by rw [(o4 s).1 ⟨by have := hBF s hs; omega, hs⟩, fV]
      have vN : ∀ s, ¬ B.testBit s = true → hV M2 s = hV M s := fun s hs => by
        show (ab_rd M2 40 s).toInt = _
        rw [(o4 s).2.1 (fun z => hs z.2)]
        exact fV s
      have lN' : ∀ s, s ≤ F → ¬ B.testBit s = true → hL M2 s = hL M1 s - hL M1 t := fun s hs hsB => (o4 s).2.2.1 ⟨by omega, hsB⟩
      have nFB : ¬ B.testBit F = true := fun z => by have := hBF F z; omega
      have F2 : hu_F F w (fun l => Q l ∨ l = l0) (hU M2) (hV M2) := by
        refine ⟨fun l' hl' => ?_, fun l' s hl' hs => ?_, fun s hs => ?_, by rw [vN F nFB]; exact vF⟩
        · have := bU l' (lt24 l' hl')
          by_cases q : l' = l0 ∨ ∃ a, B.testBit a = true ∧ hT M a = l'
          · rw [tr l' q]
            omega
          · rw [nt l' q]
            omega
        · have h1 := slk l' s hl' hs
          by_cases qs : B.testBit s = true
          · rw [vB s qs]
            by_cases q : l' = l0 ∨ ∃ a, B.testBit a = true ∧ hT M a = l'
            · rw [tr l' q]
              omega
            · rw [nt l' q]
              omega
          · rw [vN s qs]
            by_cases q : l' = l0 ∨ ∃ a, B.testBit a = true ∧ hT M a = l'
            · rw [tr l' q]
              have h2 := (new s hs qs).2.2 l' q
              have h3 := hmin s hs qs
              omega
            · rw [nt l' q]
              omega
        · have := bV s (by omega)
          by_cases qs : B.testBit s = true
          · rw [vB s qs]
            omega
          · rw [vN s qs]
            omega
      have U2 : hu_M F w Q (hU M2) (hV M2) (hS M2) (hT M2) := by
        refine ⟨fun l' hl' => ?_, fun s hs => ?_⟩
        · obtain ⟨s, z1, z2, z3, z4⟩ := c6.1 l' hl'
          refine ⟨s, z1, by rw [gS]; exact z2, ?_, fun z => by rw [gT]; exact z4 z⟩
          by_cases q : l' = l0 ∨ ∃ a, B.testBit a = true ∧ hT M a = l'
          · rw [tr l' q]
            rcases q with q | ⟨a, q1, q2⟩
            · exact absurd (by rw [← q]; exact hl') hn0
            · have := sitOne l' a hl' (hBF a q1) q2
              have e : s = a := by omega
              rw [e, vB a q1, ← e]
              omega
          · rw [nt l' q]
            have qs : ¬ B.testBit s = true := fun y => q (Or.inr ⟨s, y, z4 (hBF s y)⟩)
            rw [vN s qs]
            exact z3
        · rw [gT]
          rcases c6.2 s hs with ⟨z1, z2⟩ | ⟨l', z1, z2, z3⟩
          · refine Or.inl ⟨z1, ?_⟩
            rw [vN s (fun y => (c3 s y).2.2 z1)]
            exact z2
          · exact Or.inr ⟨l', z1, z2, by rw [gS]; exact z3⟩
      have U0 : ∀ l', l' < 24 → ¬ Q l' → l' ≠ l0 → hU M2 l' = 0 := fun l' h24 h1 h2 => by
        rw [nt l' (fun z => ?_)]
        · exact c7 l' h24 h1 h2
        · rcases z with z | ⟨a, z1, z2⟩
          · exact h2 z
          · obtain ⟨l2, y1, y2, -⟩ := sitQ a z1
            have : l2 = l' := by omega
            exact h1 (by rw [← this]; exact y1)
      have ref2 : ∀ (s : Nat) (x : Int32) (y : Int), ¬ B.testBit s = true → so_R M w Q l0 B s x y → so_R M2 w Q l0 B s x (y - hL M1 t) := by
        intro s x y hs h
        rcases h with ⟨z1, z2⟩ | ⟨a, l', z1, z2, z3, z4, z5⟩
        · refine Or.inl ⟨z1, ?_⟩
          rw [tr l0 (Or.inl rfl), vN s hs]
          omega
        · refine Or.inr ⟨a, l', z1, z2, z3, by rw [gT]; exact z4, ?_⟩
          rw [tr l' (Or.inr ⟨a, z1, z4⟩), vN s hs]
          omega
      have t2R := ref2 t _ _ htB tR
      have pathB : ∀ s, B.testBit s = true → (hB M2 s = -1 ∧ hU M2 l0 + hV M2 s = w l0 s) ∨ ∃ a l' : Nat, B.testBit a = true ∧ rk a < rk s ∧ hB M2 s = nI a ∧ a < F ∧ Q l' ∧ hT M2 a = l' ∧ hU M2 l' + hV M2 s = w l' s := by
        intro s hs
        have hN : hB M2 s = hB M s := (gB s).trans ((n2 s).2 (fun z => z.2 hs)).2
        rw [hN, vB s hs]
        rcases c10 s hs with ⟨z1, z2⟩ | ⟨a, l', z1, z2, z3, z4, z5, z6, z7⟩
        · refine Or.inl ⟨z1, ?_⟩
          rw [tr l0 (Or.inl rfl)]
          omega
        · refine Or.inr ⟨a, l', z1, z2, z3, z4, z5, by rw [gT]; exact z6, ?_⟩
          rw [tr l' (Or.inr ⟨a, z1, z6⟩)]
          omega
      have pathT : (hB M2 t = -1 ∧ hU M2 l0 + hV M2 t = w l0 t) ∨ ∃ a l' : Nat, B.testBit a = true ∧ hB M2 t = nI a ∧ a < F ∧ Q l' ∧ hT M2 a = l' ∧ hU M2 l' + hV M2 t = w l' t := by
        rw [gB]
        rcases t2R with ⟨z1, z2⟩ | ⟨a, l', z1, z2, z3, z4, z5⟩
        · exact Or.inl ⟨z1, by omega⟩
        · exact Or.inr ⟨a, l', z1, z2, hBF a z1, z3, z4, by omega⟩
      have rkN : ∀ s, B.testBit s = true → (if s = t then j else rk s) = rk s := fun s hs => if_neg (fun e => htB (by rw [← e]; exact hs))
      have eb2 : ab_rd M2 6 13 = nI F := by rw [o1.rdi (by decide), n1.rdi (by decide)]; exact eb
      have hE := ct_Matcher_isEmpty hZ (s := t) (F := F) (m := M2) hF eb2 ht
      have frM2 : fr_M [39, 40, 41, 42] m M2 := (c1.trans (n1.mono (by decide))).trans (o1.mono (by decide))
      by_cases qe : t = F ∨ ab_rd M2 38 t = -1
      · obtain ⟨r3, M3, hC3, hr3, q1, q2, q3⟩ := ct_Matcher_moveUp hZ (m := M2) (F := F) (l0 := l0) (t := t) (w := w) (Q := Q) (PB := fun s => B.testBit s = true) (u := hU M2) (v := hV M2) (rk := fun s => if s = t then j else rk s) hF eb2 hQ hl0 hn0 ht (qe.imp id (fun z => (dk_m1 _).mp z)) U2 (fun s hs => by
          by_cases e : s = t
          · rw [e]
            rcases pathT with z | ⟨a, l', z1, z2, z3, z4, z5, z6⟩
            · exact Or.inl z
            · refine Or.inr ⟨a, l', z1, ?_, z2, z3, z4, z5, z6⟩
              show (if a = t then j else rk a) < (if t = t then j else rk t)
              rw [rkN a z1, if_pos rfl]
              exact (c3 a z1).2.1
          · have hs' := hs.resolve_left e
            rcases pathB s hs' with z | ⟨a, l', z1, z2, z3, z4, z5, z6, z7⟩
            · exact Or.inl z
            · refine Or.inr ⟨a, l', z1, ?_, z3, z4, z5, z6, z7⟩
              show (if a = t then j else rk a) < (if s = t then j else rk s)
              rw [rkN a z1, rkN s hs']
              exact z2) (by
          show (if t = t then j else rk t) ≤ F
          rw [if_pos rfl]
          omega)
        rw [hr3] at hC3
        have kU : hU M3 = hU M2 := by
          funext l'
          show (ab_rd M3 39 l').toInt = _
          rw [q1.rdi (by decide)]
        have kV : hV M3 = hV M2 := by
          funext l'
          show (ab_rd M3 40 l').toInt = _
          rw [q1.rdi (by decide)]
        refine tk_Matcher_seatOne_19_0 hlt ⟨(by decide : 1 < 2), hC1⟩ (ab_in (by omega) (by decide)) ⟨(by decide : 0 < 2), (by rw [ct]; exact hC2)⟩ ⟨(by decide : 0 < 2), hE⟩ (ab_b_n.mpr qe) ⟨(by decide : 1 < 2), hC3⟩ ⟨rfl, (frM2.mono (by decide)).trans (q1.mono (by decide)), by rw [kU, kV]; exact F2, by rw [kU, kV]; exact q2, fun l' h24 h1 h2 => ⟨by rw [kU]; exact U0 l' h24 h1 h2, ?_⟩⟩
        rw [q3 l' h1 h2]
        exact frM2.rdi (by decide) l'
      · have htF : t < F := by
          have : t ≠ F := fun e => qe (Or.inl e)
          omega
        have hTt : hT M2 t ≠ -1 := fun z => qe (Or.inr ((dk_m1 _).mpr z))
        obtain ⟨l2, y1, y2, y3⟩ : ∃ l2 : Nat, Q l2 ∧ hT M2 t = l2 ∧ hS M2 l2 = t := by
          rcases U2.2 t htF with ⟨z, -⟩ | z
          · exact absurd z hTt
          · exact z
        have hl2 := hQ l2 y1
        have e38 : ab_rd M2 38 t = nI l2 := (in_I (by omega)).mpr y2
        refine tk_Matcher_seatOne_19_1 hlt ⟨(by decide : 1 < 2), hC1⟩ (ab_in (by omega) (by decide)) ⟨(by decide : 0 < 2), (by rw [ct]; exact hC2)⟩ ⟨(by decide : 0 < 2), hE⟩ (ab_b_0.mpr qe) (ab_in (by omega) (by decide)) ?_
        rw [ct, e38, bt_or (by omega), nI_1]
        have ins := fun s => bt_ins B t s
        refine ih (j + 1) (B ||| 2 ^ t) (fun s => if s = t then j else rk s) l2 (nI t) M2 (by omega) ⟨frM2, bt_or_lt c2 (by omega), fun s hs => ?_, ?_, F2, U2, U0, Or.inr ⟨t, (ins t).mpr (Or.inr rfl), rfl, y2, y1⟩, fun s hs hsB => ?_, fun s hs => ?_⟩
        · rcases (ins s).mp hs with z | z
          · refine ⟨hBF s z, ?_, by rw [gT]; exact (c3 s z).2.2⟩
            show (if s = t then j else rk s) < j + 1
            rw [rkN s z]
            have := (c3 s z).2.1
            omega
          · rw [z]
            refine ⟨htF, ?_, hTt⟩
            show (if t = t then j else rk t) < j + 1
            rw [if_pos rfl]
            omega
        · rw [cn_ins (S := fun s => B.testBit s = true) (T := fun s => (B ||| 2 ^ t).testBit s = true) htF htB ins, c4]
        · have hsB' : ¬ B.testBit s = true := fun z => hsB ((ins s).mpr (Or.inl z))
          obtain ⟨d1, d2, d3⟩ := new s hs hsB'
          rw [lN' s hs hsB', tr l0 (Or.inl rfl), gB]
          refine ⟨by omega, ?_, fun l' hl' hne => ?_⟩
          · rcases d2 with z | z
            · exact Or.inl (by omega)
            · right
              have z' := ref2 s _ _ hsB' z
              rcases z' with ⟨z1, z2⟩ | ⟨a, l', z1, z2, z3, z4, z5⟩
              · exact Or.inl ⟨z1, z2⟩
              · exact Or.inr ⟨a, l', (ins a).mpr (Or.inl z1), z2, z3, z4, z5⟩
          · have old : l' = l0 ∨ ∃ a, B.testBit a = true ∧ hT M a = l' := by
              rcases hl' with z | ⟨a, z1, z2⟩
              · exact Or.inl z
              · rcases (ins a).mp z1 with y | y
                · exact Or.inr ⟨a, y, by rw [← gT]; exact z2⟩
                · rw [y, y2] at z2
                  exact absurd (by omega) hne
            rw [tr l' old, vN s hsB']
            have := d3 l' old
            omega
        · rcases (ins s).mp hs with z | z
          · rcases pathB s z with y | ⟨a, l', y1, y2, y3, y4, y5, y6, y7⟩
            · exact Or.inl y
            · refine Or.inr ⟨a, l', (ins a).mpr (Or.inl y1), ?_, y3, y4, y5, y6, y7⟩
              show (if a = t then j else rk a) < (if s = t then j else rk s)
              rw [rkN a y1, rkN s z]
              exact y2
          · rw [z]
            rcases pathT with y | ⟨a, l', y1, y2, y3, y4, y5, y6⟩
            · exact Or.inl y
            · refine Or.inr ⟨a, l', (ins a).mpr (Or.inl y1), ?_, y2, y3, y4, y5, y6⟩
              show (if a = t then j else rk a) < (if t = t then j else rk t)
              rw [rkN a y1, if_pos rfl]
              exact (c3 a y1).2.1
  refine ab_Ki hZ (tk_Matcher_seatOne_0_0 ⟨(by decide : 0 < 2), ct_J_fill_25 hZ⟩ ?_) (fun r m1 h => by rw [h.1]; trivial) (by decide) (Nat.le_of_ble_eq_true rfl)
  have fr0 : fr_M [39, 40, 41, 42] m (lp_f m 41 0 25 (fun _ _ => 1000000)) := ⟨fun p hp => lp_f_n m _ _ _ (fun e => hp (by rw [e]; decide)), fun _ => rfl⟩
  have nb : ∀ s, ¬ (0 : Nat).testBit s = true := fun s z => by rw [Nat.zero_testBit] at z; cases z
  have kU : hU (lp_f m 41 0 25 (fun _ _ => 1000000)) = hU m := by
    funext l
    show (ab_rd _ 39 l).toInt = _
    rw [lp_f_rn _ _ _ _ (by decide)]
  have kV : hV (lp_f m 41 0 25 (fun _ _ => 1000000)) = hV m := by
    funext l
    show (ab_rd _ 40 l).toInt = _
    rw [lp_f_rn _ _ _ _ (by decide)]
  have kS : hS (lp_f m 41 0 25 (fun _ _ => 1000000)) = hS m := by
    funext l
    show (ab_rd _ 37 l).toInt = _
    rw [lp_f_rn _ _ _ _ (by decide)]
  have kT : hT (lp_f m 41 0 25 (fun _ _ => 1000000)) = hT m := by
    funext l
    show (ab_rd _ 38 l).toInt = _
    rw [lp_f_rn _ _ _ _ (by decide)]
  have u0 := hU0 l0 hl0 hn0
  refine lp (F + 1) 0 0 (fun _ => 0) l0 (-1) _ (by omega) ⟨fr0, by decide, fun s hs => absurd hs (nb s), cn_0 (fun s _ => nb s), ?_, by rw [kU, kV, kS, kT]; exact hUM, fun l h24 h1 h2 => by rw [kU]; exact hU0 l h24 h1, Or.inl ⟨rfl, rfl⟩, fun s hs _ => ?_, fun s hs => absurd hs (nb s)⟩
  · rw [kU, kV]
    refine ⟨fun l hl => ?_, fun l s hl hs => ?_, hUF.2.2.1, hUF.2.2.2⟩
    · rcases hl with z | z
      · exact hUF.1 l z
      · rw [z, u0]
        exact Int.le_refl _
    · rcases hl with z | z
      · exact hUF.2.1 l s z hs
      · have h1 := (hw l s (Or.inr z) hs).2
        have h2 : hV m s ≤ 0 := by
          by_cases e : s = F
          · rw [e, hUF.2.2.2]
            exact Int.le_refl _
          · exact hUF.2.2.1 s (by omega)
        rw [z] at h1 ⊢
        omega
  · have eL : hL (lp_f m 41 0 25 (fun _ _ => 1000000)) s = 1000000 := by
      show (ab_rd _ 41 s).toInt = _
      rw [lp_f_rd, if_pos (by omega)]
      rfl
    rw [eL, kU, u0]
    refine ⟨by omega, Or.inl (by omega), fun l' hl' hne => ?_⟩
    rcases hl' with z | ⟨a, z, -⟩
    · exact absurd z hne
    · exact absurd z (nb a)
