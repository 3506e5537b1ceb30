/-! ===== the reference's matcher: the search, and the way back ===== -/
theorem cl_M_back {Z : ab_Z} (hZ : ab_okZ Z) {M : ab_M} {C i n a cnt : Nat} {W : Nat → Nat → Int} {PB : Nat → Prop} {rk : Nat → Nat} (hC : C ≤ 48) (hi : 1 ≤ i) (hi24 : i ≤ 24) (ha : 1 ≤ a) (haC : a ≤ C) (hTa : gT M a = 0) (hT0 : gT M 0 = i) (hM : gh_M C (i - 1) W (gU M) (gV M) (gT M)) (path : ∀ s, 1 ≤ s → s ≤ C → (s = a ∨ PB s) → ∃ b k : Nat, b ≤ C ∧ PB b ∧ rk b < rk s ∧ gB M s = nI b ∧ gT M b = k ∧ 1 ≤ k ∧ k ≤ i ∧ gU M k + gV M s = W k s) {P : Option Int32 → ab_M → Prop} (fin : ∀ M', fr_M [77] M M' → gh_M C i W (gU M') (gV M') (gT M') → ab_T Z 119 1 (59, [(0, .inl (.ref 8)), (1, .inl (.int (nI n))), (2, .inl (.int (nI C))), (3, .inl (.int (nI (i + 1))))], [], M') P) : ab_T Z 119 1 (128, [(0, .inl (.ref 8)), (1, .inl (.int (nI n))), (2, .inl (.int (nI C))), (3, .inl (.int (nI i))), (4, .inl (.int (nI a)))], [], M) P := by
  have lp : ∀ (f h : Nat) (M' : ab_M), rk h < f → h ≤ C → (h = a ∨ PB h) → fr_M [77] M M' → (∀ k : Nat, 1 ≤ k → k ≤ i → ∃ j, j ≤ C ∧ j ≠ h ∧ gT M' j = k) → (∀ j j', j ≤ C → j' ≤ C → j ≠ h → j' ≠ h → gT M' j = gT M' j' → gT M' j ≠ 0 → j = j') → (∀ j, 1 ≤ j → j ≤ C → j ≠ h → (gT M' j = 0 ∧ gV M j = 0) ∨ ∃ k : Nat, 1 ≤ k ∧ k ≤ i ∧ gT M' j = k ∧ gU M k + gV M j = W k j) → (∀ s, s ≤ C → PB s → rk s < rk h → gT M' s = gT M s) → ab_T Z 119 1 (128, [(0, .inl (.ref 8)), (1, .inl (.int (nI n))), (2, .inl (.int (nI C))), (3, .inl (.int (nI i))), (4, .inl (.int (nI h)))], [], M') P := by
    intro f
    induction f with
    | zero => intro h M' h0; omega
    | succ f ih =>
      intro h M' hf hhC hh hfr hA hB hD hold
      have ch := ab_cl (n := h) (by omega)
      have ih49 := ab_in (n := h) (N := 49) (by omega) (by decide)
      by_cases q : h = 0
      · subst q
        refine tk_M_solve_128_1 rfl ?_
        rw [nI_1]
        have kU : gU M' = gU M := by
          funext k
          show (ab_rd M' 75 k).toInt = _
          rw [hfr.rdi (by decide)]
        have kV : gV M' = gV M := by
          funext k
          show (ab_rd M' 76 k).toInt = _
          rw [hfr.rdi (by decide)]
        refine fin M' hfr ⟨fun k k1 k2 => ?_, fun j j1 j2 => ?_, fun j j' j1 j2 j3 j4 => hB j j' j2 j4 (by omega) (by omega)⟩
        · obtain ⟨j, z1, z2, z3⟩ := hA k k1 k2
          exact ⟨j, by omega, z1, z3⟩
        · rw [kU, kV]
          exact hD j j1 j2 (by omega)
      · obtain ⟨b, k, p1, p2, p3, p4, p5, p6, p7, p8⟩ := path h (by omega) hhC hh
        have p4 : ab_rd M 78 h = nI b := p4
        have eB : ab_rd M' 78 h = nI b := by rw [hfr.rdi (by decide)]; exact p4
        have cb := ab_cl (n := b) (by omega)
        have Tb : gT M' b = k := (hold b p1 p2 p3).trans p5
        have eT : ab_rd M' 77 b = nI k := (in_I (by omega)).mpr Tb
        refine tk_M_solve_128_0 (nI_ne0 (by omega) (by omega)) ih49 (by rw [ch, eB]; exact ab_in (by omega) (by decide)) ih49 ?_
        rw [ch, eB, cb, eT]
        have rT : ∀ j, gT (ab_wr M' 77 h (nI k)) j = if j = h then (k : Int) else gT M' j := fun j => by
          show (ab_rd _ 77 j).toInt = _
          rw [ab_rd_p]
          by_cases e : j = h
          · rw [if_pos e, if_pos e, nI_toInt (by omega)]
          · rw [if_neg e, if_neg e]
        have hbh : b ≠ h := fun e => by rw [e] at p3; omega
        refine ih b _ (by omega) p1 (Or.inr p2) (hfr.wr (by decide) _ _) (fun k' k1 k2 => ?_) (fun j j' j1 j2 j3 j4 j5 j6 => ?_) (fun j j1 j2 j3 => ?_) (fun s s1 s2 s3 => ?_)
        · obtain ⟨j, z1, z2, z3⟩ := hA k' k1 k2
          by_cases e : j = b
          · refine ⟨h, hhC, fun y => hbh y.symm, ?_⟩
            rw [rT, if_pos rfl, ← z3, e, Tb]
          · exact ⟨j, z1, e, by rw [rT, if_neg z2]; exact z3⟩
        · rw [rT] at j5 j6
          rw [rT] at j5
          by_cases e : j = h
          · rw [if_pos e] at j5
            by_cases e' : j' = h
            · omega
            · rw [if_neg e'] at j5
              have := hB b j' p1 j2 hbh e' (by rw [Tb, j5]) (by rw [Tb]; omega)
              exact absurd this.symm j4
          · rw [if_neg e] at j5 j6
            by_cases e' : j' = h
            · rw [if_pos e'] at j5
              have := hB j b j1 p1 e hbh (by rw [Tb, j5]) j6
              exact absurd this j3
            · rw [if_neg e'] at j5
              exact hB j j' j1 j2 e e' j5 j6
        · rw [rT]
          by_cases e : j = h
          · rw [if_pos e, e]
            exact Or.inr ⟨k, p6, p7, rfl, p8⟩
          · rw [if_neg e]
            exact hD j j1 j2 e
        · rw [rT, if_neg (fun e => by rw [e] at s3; omega)]
          exact hold s s1 s2 (by omega)
  refine lp (rk a + 1) a M (by omega) haC (Or.inl rfl) (fr_M.refl _ M) (fun k k1 k2 => ?_) (fun j j' j1 j2 j3 j4 j5 j6 => ?_) (fun j j1 j2 j3 => ?_) (fun s _ _ _ => rfl)
  · by_cases e : k = i
    · exact ⟨0, by omega, by omega, by rw [e]; exact hT0⟩
    · obtain ⟨j, z1, z2, z3⟩ := hM.1 k k1 (by omega)
      refine ⟨j, z2, fun y => ?_, z3⟩
      rw [y, hTa] at z3
      omega
  · by_cases e : j = 0
    · rw [e, hT0] at j5
      by_cases e' : j' = 0
      · omega
      · rcases hM.2.1 j' (by omega) j2 with ⟨z, -⟩ | ⟨k, k1, k2, k3, -⟩
        · omega
        · omega
    · by_cases e' : j' = 0
      · rw [e', hT0] at j5
        rcases hM.2.1 j (by omega) j1 with ⟨z, -⟩ | ⟨k, k1, k2, k3, -⟩
        · omega
        · omega
      · exact hM.2.2 j j' (by omega) j1 (by omega) j2 j5 j6
  · rcases hM.2.1 j j1 j2 with z | ⟨k, k1, k2, k3⟩
    · exact Or.inl z
    · exact Or.inr ⟨k, k1, by omega, k3⟩
theorem cl_M_tree {Z : ab_Z} (hZ : ab_okZ Z) {m : ab_M} {C i n : Nat} {W : Nat → Nat → Int} (hC : C ≤ 48) (hn : n ≤ 24) (hnC : n ≤ C) (hi : 1 ≤ i) (hin : i ≤ n) (hW : ∀ k j, 1 ≤ k → k ≤ n → 1 ≤ j → j ≤ C → gP m k j = W k j ∧ 0 ≤ W k j ∧ W k j ≤ 10000000) {P : Option Int32 → ab_M → Prop} (fin : ∀ M', fr_M [75, 76, 77, 78, 79, 80] m M' → gh_F C i W (gU M') (gV M') → gh_M C i W (gU M') (gV M') (gT M') → (∀ k, i < k → k ≤ n → gU M' k = 0) → ab_T Z 119 1 (59, [(0, .inl (.ref 8)), (1, .inl (.int (nI n))), (2, .inl (.int (nI C))), (3, .inl (.int (nI (i + 1))))], [], M') P) : ∀ (f a cnt : Nat) (rk : Nat → Nat) (M : ab_M), cnt + f = C + 2 → gt_I m C i n W M a cnt rk → ab_T Z 119 1 (106, [(0, .inl (.ref 8)), (1, .inl (.int (nI n))), (2, .inl (.int (nI C))), (3, .inl (.int (nI i))), (4, .inl (.int (nI a)))], [], M) P := by
  intro f
  induction f with
  | zero =>
    intro a cnt rk M hf hI
    have h1 := cn_le (fun s => ¬ ab_rd M 80 s = 0) (C + 1)
    have h2 := hI.2.2.2.2.2.2.1
    omega
  | succ f ih =>
    intro a cnt rk M hf hI
    obtain ⟨c1, c2, c3, c4, c5, c6, c7, c8, c9, c10, c11, c12⟩ := hI
    have ia := ab_in (n := a) (N := 49) (by omega) (by decide)
    have ca := ab_cl (n := a) (by omega)
    -- rows of the tree
    have row : ∀ s, s ≤ C → gT M s ≠ 0 → ∃ k : Nat, 1 ≤ k ∧ k ≤ i ∧ gT M s = k ∧ (k = i ↔ s = 0) := fun s s1 s2 => by
      by_cases e : s = 0
      · exact ⟨i, hi, Nat.le_refl _, by rw [e]; exact c4, ⟨fun _ => e, fun _ => rfl⟩⟩
      · rcases c3.2.1 s (by omega) s1 with ⟨z, -⟩ | ⟨k, k1, k2, k3, -⟩
        · exact absurd z s2
        · exact ⟨k, k1, by omega, k3, ⟨fun z => by omega, fun z => absurd z e⟩⟩
    have one : ∀ s s', s ≤ C → s' ≤ C → gT M s = gT M s' → gT M s ≠ 0 → s = s' := fun s s' s1 s2 s3 s4 => by
      obtain ⟨k, k1, k2, k3, k4⟩ := row s s1 s4
      obtain ⟨k', e1, e2, e3, e4⟩ := row s' s2 (by rw [← s3]; exact s4)
      have ek : k = k' := by omega
      by_cases e : s = 0
      · have := k4.mpr e
        have := e4.mp (by omega)
        omega
      · have z1 : ¬ s' = 0 := fun z => e (k4.mp (by have := e4.mpr z; omega))
        exact c3.2.2 s s' (by omega) s1 (by omega) s2 s3 s4
    obtain ⟨j0, f1, f2, f3⟩ := gh_free c3 (by omega)
    have fv : gV M j0 = 0 := by
      rcases c3.2.1 j0 f1 f2 with ⟨-, z⟩ | ⟨k, k1, k2, k3, -⟩
      · exact z
      · omega
    have bU : ∀ k, 1 ≤ k → k ≤ n → 0 ≤ gU M k ∧ gU M k ≤ 10000000 := fun k k1 k2 => by
      by_cases q : k ≤ i
      · have h1 := c2.1 k k1 q
        have h2 := h1.2 j0 f1 f2
        have h3 := hW k j0 k1 k2 f1 f2
        have h4 := h1.1
        omega
      · have := c5 k (by omega) k2
        omega
    have bV : ∀ s, 1 ≤ s → s ≤ C → -10000000 ≤ gV M s ∧ gV M s ≤ 0 := fun s s1 s2 => by
      have h0 := c2.2 s s1 s2
      rcases c3.2.1 s s1 s2 with ⟨-, z⟩ | ⟨k, k1, k2, k3, k4⟩
      · omega
      · have h1 := bU k k1 (by omega)
        have h2 := hW k s k1 (by omega) s1 s2
        omega
    by_cases q : gT M a = 0
    · -- an empty column: the way back
      have eT : ab_rd M 77 a = 0 := (ab_eqI _ _).mpr q
      have ha0 : a ≠ 0 := fun e => by rw [e, c4] at q; omega
      obtain ⟨a1, a2, b0, k0, b1, b2, b3, b4, b5⟩ := c10.resolve_left (fun z => ha0 z.1)
      refine tk_M_solve_106_1 ia (by rw [ca]; exact eT) ?_
      have rkN : ∀ s, ¬ ab_rd M 80 s = 0 → (if s = a then cnt else rk s) = rk s := fun s hs => if_neg (fun e => hs (by rw [e]; exact c9))
      refine cl_M_back hZ (M := M) (C := C) (i := i) (n := n) (a := a) (cnt := cnt) (W := W) (PB := fun s => ¬ ab_rd M 80 s = 0) (rk := fun s => if s = a then cnt else rk s) hC hi (by omega) a1 c8 q c4 c3 (fun s s1 s2 s3 => ?_) (fun M' h1 h2 => ?_)
      · by_cases e : s = a
        · obtain ⟨k, e1, e2, e3, -⟩ := row b0 b1 (c6 b0 b1 b2).1
          have ek : k = k0 := by omega
          refine ⟨b0, k0, b1, b2, ?_, by rw [e]; exact b3, b4, by omega, by omega, by rw [e]; exact b5⟩
          show (if b0 = a then cnt else rk b0) < (if s = a then cnt else rk s)
          rw [rkN b0 b2, if_pos e]
          exact (c6 b0 b1 b2).2
        · have s4 := s3.resolve_left e
          obtain ⟨b, k, d1, d2, d3, d4, d5, d6⟩ := c12 s s1 s2 s4
          obtain ⟨k', e1, e2, e3, -⟩ := row b d1 (c6 b d1 d2).1
          have ek : k' = k := by omega
          refine ⟨b, k, d1, d2, ?_, d4, d5, by omega, by omega, d6⟩
          show (if b = a then cnt else rk b) < (if s = a then cnt else rk s)
          rw [rkN b d2, rkN s s4]
          exact d3
      · have kU : gU M' = gU M := by
          funext k
          show (ab_rd M' 75 k).toInt = _
          rw [h1.rdi (by decide)]
        have kV : gV M' = gV M := by
          funext k
          show (ab_rd M' 76 k).toInt = _
          rw [h1.rdi (by decide)]
        exact fin M' ((c1.mono (by decide)).trans (h1.mono (by decide))) (by rw [kU, kV]; exact c2) h2 (by rw [kU]; exact c5)
    · -- a step on
      obtain ⟨r, r1, r2, r3, r4⟩ := row a c8 q
      have sn' : ∀ s, s ≤ C → (s = a ∨ ¬ ab_rd M 80 s = 0) → gT M s ≠ 0 := fun s s1 s2 => by
        rcases s2 with z | z
        · rw [z]
          exact q
        · exact (c6 s s1 z).1
      have eP : ∀ k j, 1 ≤ k → k ≤ n → 1 ≤ j → j ≤ C → gP M k j = W k j := fun k j k1 k2 j1 j2 => by
        show (ab_rd M 73 (48 * (k - 1) + (j - 1))).toInt = _
        rw [c1.rdi (by decide)]
        exact (hW k j k1 k2 j1 j2).1
      obtain ⟨t, M2, x, hC2, t1, t2, t3, t4, g1, g2, g3, g4, g5, g6, g7, g8, g9⟩ := ct_M_step hZ (m := M) (a := a) (C := C) (r := r) (N := n) (c := fun j => W r j - gU M r - gV M j) hC hn c8 r1 (by omega) r3 (fun j j1 j2 => by
        have h1 := eP r j r1 (by omega) j1 j2
        have h2 := hW r j r1 (by omega) j1 j2
        have h3 := (c2.1 r r1 r2).2 j j1 j2
        show W r j - gU M r - gV M j = gP M r j - gU M r - gV M j ∧ 0 ≤ gP M r j ∧ gP M r j ≤ 10000000 ∧ 0 ≤ W r j - gU M r - gV M j
        omega) (fun s s1 s2 => by
        obtain ⟨k, k1, k2, k3, -⟩ := row s s1 (sn' s s1 s2)
        exact ⟨k, k1, by omega, k3⟩) (fun s s' s1 s2 s3 s4 s5 => one s s' s1 s2 s5 (sn' s s1 s3)) (fun k k1 k2 => by have := bU k k1 k2; omega) (fun s s1 s2 => by have := bV s s1 s2; omega) (fun s s1 s2 s3 s4 => (c11 s s1 s2 s4).1) (by
        rcases c10 with ⟨z, -⟩ | ⟨-, z, -⟩
        · exact Or.inl z.symm
        · exact Or.inr z) ⟨j0, f1, f2, fun e => q (by rw [← e]; exact f3), by
        by_cases z : ab_rd M 80 j0 = 0
        · exact z
        · exact absurd f3 (c6 j0 f2 z).1⟩
      have eT : ¬ ab_rd M 77 (nI a).toNatClampNeg = 0 := by
        rw [ca]
        exact fun z => q ((ab_eqI _ _).mp z)
      refine tk_M_solve_106_0 ia eT ⟨(by decide : 0 < 1), hC2⟩ ?_
      -- the new state
      have sn2 : ∀ s, ab_rd M2 80 s = 0 ↔ s ≠ a ∧ ab_rd M 80 s = 0 := fun s => by
        rw [g2]
        by_cases e : s = a
        · rw [if_pos e]
          exact ⟨fun z => absurd z (by decide), fun z => absurd e z.1⟩
        · rw [if_neg e]
          exact ⟨fun z => ⟨e, z⟩, fun z => z.2⟩
      have sn3 : ∀ s, ¬ ab_rd M2 80 s = 0 ↔ s = a ∨ ¬ ab_rd M 80 s = 0 := fun s => by
        rw [sn2]
        constructor
        · intro z
          by_cases e : s = a
          · exact Or.inl e
          · exact Or.inr (fun y => z ⟨e, y⟩)
        · rintro (z | z) y
          · exact y.1 z
          · exact z y.2
      have kT : ∀ s, gT M2 s = gT M s := fun s => by
        show (ab_rd M2 77 s).toInt = _
        rw [g1.rdi (by decide)]
      have xpos : 0 ≤ x := by
        have h1 := (c11 t t1 t2 t4).1
        have h2 := (c2.1 r r1 r2).2 t t1 t2
        rw [g3]
        show 0 ≤ min (gL M t) (W r t - gU M r - gV M t)
        omega
      have rkN : ∀ s, ¬ ab_rd M 80 s = 0 → (if s = a then cnt else rk s) = rk s := fun s hs => if_neg (fun e => hs (by rw [e]; exact c9))
      have tree : ∀ (s k : Nat), s ≤ C → (s = a ∨ ¬ ab_rd M 80 s = 0) → gT M s = k → gU M2 k = gU M k + x := fun s k s1 s2 s3 => g6 k ⟨s, s1, s2, s3⟩
      have hNF : gh_F C i W (gU M2) (gV M2) := by
        refine ⟨fun k k1 k2 => ?_, fun j j1 j2 => ?_⟩
        · have h1 := c2.1 k k1 k2
          by_cases qt : ∃ s, s ≤ C ∧ (s = a ∨ ¬ ab_rd M 80 s = 0) ∧ gT M s = k
          · rw [g6 k qt]
            refine ⟨by omega, fun j j1 j2 => ?_⟩
            have h2 := h1.2 j j1 j2
            by_cases qs : j = a ∨ ¬ ab_rd M 80 j = 0
            · rw [g8 j j1 j2 qs]
              omega
            · have qs1 : j ≠ a := fun z => qs (Or.inl z)
              have qs2 : ab_rd M 80 j = 0 := by
                by_cases z : ab_rd M 80 j = 0
                · exact z
                · exact absurd (Or.inr z) qs
              rw [g9 j j1 j2 qs1 qs2]
              have h3 := (g4 j j1 j2 qs1 qs2).2.1
              have h3 : x ≤ min (gL M j) (W r j - gU M r - gV M j) := h3
              obtain ⟨s, s1, s2, s3⟩ := qt
              rcases s2 with z | z
              · have : k = r := by
                  rw [z, r3] at s3
                  omega
                rw [this]
                omega
              · have := (c11 j j1 j2 qs2).2.1 s k s1 z s3
                omega
          · rw [g7 k qt]
            refine ⟨h1.1, fun j j1 j2 => ?_⟩
            have h2 := h1.2 j j1 j2
            by_cases qs : j = a ∨ ¬ ab_rd M 80 j = 0
            · rw [g8 j j1 j2 qs]
              omega
            · have qs1 : j ≠ a := fun z => qs (Or.inl z)
              have qs2 : ab_rd M 80 j = 0 := by
                by_cases z : ab_rd M 80 j = 0
                · exact z
                · exact absurd (Or.inr z) qs
              rw [g9 j j1 j2 qs1 qs2]
              exact h2
        · have h0 := c2.2 j j1 j2
          by_cases qs : j = a ∨ ¬ ab_rd M 80 j = 0
          · rw [g8 j j1 j2 qs]
            omega
          · have qs1 : j ≠ a := fun z => qs (Or.inl z)
            have qs2 : ab_rd M 80 j = 0 := by
              by_cases z : ab_rd M 80 j = 0
              · exact z
              · exact absurd (Or.inr z) qs
            rw [g9 j j1 j2 qs1 qs2]
            exact h0
      have hNM : gh_M C (i - 1) W (gU M2) (gV M2) (gT M2) := by
        refine ⟨fun k k1 k2 => ?_, fun j j1 j2 => ?_, fun j j' j1 j2 j3 j4 => by rw [kT, kT]; exact c3.2.2 j j' j1 j2 j3 j4⟩
        · obtain ⟨j, z1, z2, z3⟩ := c3.1 k k1 k2
          exact ⟨j, z1, z2, by rw [kT]; exact z3⟩
        · rw [kT]
          rcases c3.2.1 j j1 j2 with ⟨z1, z2⟩ | ⟨k, k1, k2, k3, k4⟩
          · refine Or.inl ⟨z1, ?_⟩
            have qs1 : j ≠ a := fun z => q (by rw [← z]; exact z1)
            have qs2 : ab_rd M 80 j = 0 := by
              by_cases z : ab_rd M 80 j = 0
              · exact z
              · exact absurd z1 (c6 j j2 z).1
            rw [g9 j j1 j2 qs1 qs2]
            exact z2
          · refine Or.inr ⟨k, k1, k2, k3, ?_⟩
            by_cases qs : j = a ∨ ¬ ab_rd M 80 j = 0
            · rw [g8 j j1 j2 qs, tree j k j2 qs k3]
              omega
            · have qs1 : j ≠ a := fun z => qs (Or.inl z)
              have qs2 : ab_rd M 80 j = 0 := by
                by_cases z : ab_rd M 80 j = 0
                · exact z
                · exact absurd (Or.inr z) qs
              rw [g9 j j1 j2 qs1 qs2, g7 k (fun ⟨s, s1, s2, s3⟩ => ?_)]
              · exact k4
              · have := one s j s1 j2 (by rw [s3, k3]) (sn' s s1 s2)
                exact qs (by rw [← this]; exact s2)
      -- what a column's note says
      have ref : ∀ s, 1 ≤ s → s ≤ C → s ≠ a → ab_rd M 80 s = 0 → ∃ b k : Nat, b ≤ C ∧ ¬ ab_rd M2 80 b = 0 ∧ gB M2 s = nI b ∧ gT M2 b = k ∧ gL M2 s = W k s - gU M2 k - gV M2 s := fun s s1 s2 s3 s4 => by
        obtain ⟨e1, e2, e3⟩ := g4 s s1 s2 s3 s4
        have e1 : gL M2 s = min (gL M s) (W r s - gU M r - gV M s) - x := e1
        have e3 : gB M2 s = if W r s - gU M r - gV M s < gL M s then nI a else gB M s := e3
        obtain ⟨d1, d2, d3⟩ := c11 s s1 s2 s4
        by_cases z : W r s - gU M r - gV M s < gL M s
        · rw [if_pos z] at e3
          refine ⟨a, r, c8, (sn3 a).mpr (Or.inl rfl), e3, by rw [kT]; exact r3, ?_⟩
          rw [tree a r c8 (Or.inl rfl) r3, g9 s s1 s2 s3 s4]
          clear d3
          omega
        · rw [if_neg z] at e3
          rcases d3 with ⟨-, y⟩ | ⟨b, k, y1, y2, y3, y4, y5⟩
          · exfalso
            have h1 := hW r s r1 (by omega) s1 s2
            have h2 := bU r r1 (by omega)
            have h3 := bV s s1 s2
            omega
          · refine ⟨b, k, y1, (sn3 b).mpr (Or.inr y2), e3.trans y3, by rw [kT]; exact y4, ?_⟩
            rw [tree b k y1 (Or.inr y2) y4, g9 s s1 s2 s3 s4]
            omega
      refine ih t (cnt + 1) (fun s => if s = a then cnt else rk s) M2 (by omega) ⟨c1.trans g1, hNF, hNM, by rw [kT]; exact c4, fun k k1 k2 => ?_, fun s s1 s2 => ?_, ?_, t2, (sn2 t).mpr ⟨t3, t4⟩, Or.inr ⟨t1, (sn3 0).mpr ?_, ?_⟩, fun s s1 s2 s3 => ?_, fun s s1 s2 s3 => ?_⟩
      · rw [g7 k (fun ⟨s, s1, s2, s3⟩ => ?_)]
        · exact c5 k k1 k2
        · obtain ⟨k', e1, e2, e3, -⟩ := row s s1 (sn' s s1 s2)
          omega
      · rw [kT]
        have s3 := (sn3 s).mp s2
        refine ⟨sn' s s1 s3, ?_⟩
        show (if s = a then cnt else rk s) < cnt + 1
        by_cases e : s = a
        · rw [if_pos e]
          omega
        · have s4 := s3.resolve_left e
          rw [rkN s s4]
          have := (c6 s s1 s4).2
          omega
      · rw [cn_ins (S := fun s => ¬ ab_rd M 80 s = 0) (T := fun s => ¬ ab_rd M2 80 s = 0) (i := a) (n := C + 1) (by omega) (fun z => z c9) (fun s => by rw [sn3]; exact Or.comm), c7]
      · rcases c10 with ⟨z, -⟩ | ⟨-, z, -⟩
        · exact Or.inl z.symm
        · exact Or.inr z
      · obtain ⟨b, k, y1, y2, y3, y4, y5⟩ := ref t t1 t2 t3 t4
        refine ⟨b, k, y1, y2, y3, y4, ?_⟩
        have e1 := (g4 t t1 t2 t3 t4).1
        have : gL M2 t = 0 := by
          rw [e1, g3]
          omega
        omega
      · have s4 := (sn2 s).mp s3
        obtain ⟨e1, e2, e3⟩ := g4 s s1 s2 s4.1 s4.2
        have e1 : gL M2 s = min (gL M s) (W r s - gU M r - gV M s) - x := e1
        have e2 : x ≤ min (gL M s) (W r s - gU M r - gV M s) := e2
        refine ⟨by omega, fun s' k z1 z2 z3 => ?_, Or.inr (ref s s1 s2 s4.1 s4.2)⟩
        rw [kT] at z3
        have z4 := (sn3 s').mp z2
        rw [tree s' k z1 z4 z3, g9 s s1 s2 s4.1 s4.2]
        rcases z4 with z | z
        · have : k = r := by
            rw [z, r3] at z3
            omega
          rw [this]
          omega
        · have := (c11 s s1 s2 s4.2).2.1 s' k z1 z z3
          omega
      · have s4 := (sn3 s).mp s3
        rw [g5 s s4, g8 s s1 s2 s4]
        by_cases e : s = a
        · obtain ⟨a1, a2, b0, k0, b1, b2, b3, b4, b5⟩ := c10.resolve_left (fun z => by omega)
          refine ⟨b0, k0, b1, (sn3 b0).mpr (Or.inr b2), ?_, by rw [e]; exact b3, by rw [kT]; exact b4, ?_⟩
          · show (if b0 = a then cnt else rk b0) < (if s = a then cnt else rk s)
            rw [rkN b0 b2, if_pos e]
            exact (c6 b0 b1 b2).2
          · rw [tree b0 k0 b1 (Or.inr b2) b4, e]
            omega
        · have s5 := s4.resolve_left e
          obtain ⟨b, k, d1, d2, d3, d4, d5, d6⟩ := c12 s s1 s2 s5
          refine ⟨b, k, d1, (sn3 b).mpr (Or.inr d2), ?_, d4, by rw [kT]; exact d5, ?_⟩
          · show (if b = a then cnt else rk b) < (if s = a then cnt else rk s)
            rw [rkN b d2, rkN s s5]
            exact d3
          · rw [tree b k d1 (Or.inr d2) d5]
            omega
