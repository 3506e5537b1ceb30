/-! ===== the reference's matcher: one more row ===== -/
theorem ct_M_step {Z : ab_Z} (hZ : ab_okZ Z) {m : ab_M} {a C r N : Nat} {c : Nat → Int} (hC : C ≤ 48) (hN : N ≤ 24) (ha : a ≤ C) (hr : 1 ≤ r) (hrN : r ≤ N) (hT : gT m a = r) (hc : ∀ j, 1 ≤ j → j ≤ C → c j = gP m r j - gU m r - gV m j ∧ 0 ≤ gP m r j ∧ gP m r j ≤ 10000000 ∧ 0 ≤ c j) (hsit : ∀ s, s ≤ C → (s = a ∨ ¬ ab_rd m 80 s = 0) → ∃ k : Nat, 1 ≤ k ∧ k ≤ N ∧ gT m s = k) (hinj : ∀ s s', s ≤ C → s' ≤ C → (s = a ∨ ¬ ab_rd m 80 s = 0) → (s' = a ∨ ¬ ab_rd m 80 s' = 0) → gT m s = gT m s' → s = s') (bU : ∀ k, 1 ≤ k → k ≤ N → 0 ≤ gU m k ∧ gU m k ≤ 20000000) (bV : ∀ s, 1 ≤ s → s ≤ C → -20000000 ≤ gV m s ∧ gV m s ≤ 0) (bL : ∀ s, 1 ≤ s → s ≤ C → s ≠ a → ab_rd m 80 s = 0 → 0 ≤ gL m s) (hs0 : 0 = a ∨ ¬ ab_rd m 80 0 = 0) (free : ∃ s, 1 ≤ s ∧ s ≤ C ∧ s ≠ a ∧ ab_rd m 80 s = 0) : ∃ (t : Nat) (M : ab_M) (x : Int), ab_C Z 0 120 [.inl (.ref 8), .inl (.int (nI a)), .inl (.int (nI C))] m (some (nI t)) M ∧ 1 ≤ t ∧ t ≤ C ∧ t ≠ a ∧ ab_rd m 80 t = 0 ∧ fr_M [75, 76, 78, 79, 80] m M ∧ (∀ j, ab_rd M 80 j = if j = a then 1 else ab_rd m 80 j) ∧ x = min (gL m t) (c t) ∧ (∀ s, 1 ≤ s → s ≤ C → s ≠ a → ab_rd m 80 s = 0 → gL M s = min (gL m s) (c s) - x ∧ x ≤ min (gL m s) (c s) ∧ gB M s = if c s < gL m s then nI a else gB m s) ∧ (∀ s, (s = a ∨ ¬ ab_rd m 80 s = 0) → gB M s = gB m s) ∧ (∀ k : Nat, (∃ s, s ≤ C ∧ (s = a ∨ ¬ ab_rd m 80 s = 0) ∧ gT m s = k) → gU M k = gU m k + x) ∧ (∀ k : Nat, ¬ (∃ s, s ≤ C ∧ (s = a ∨ ¬ ab_rd m 80 s = 0) ∧ gT m s = k) → gU M k = gU m k) ∧ (∀ s, 1 ≤ s → s ≤ C → (s = a ∨ ¬ ab_rd m 80 s = 0) → gV M s = gV m s - x) ∧ ∀ s, 1 ≤ s → s ≤ C → s ≠ a → ab_rd m 80 s = 0 → gV M s = gV m s := by
  have sn : ∀ j, ab_rd (ab_wr m 80 a 1) 80 j = if j = a then 1 else ab_rd m 80 j := fun j => ab_rd_p _ _ _ _ _
  have sn0 : ∀ j, ab_rd (ab_wr m 80 a 1) 80 j = 0 ↔ j ≠ a ∧ ab_rd m 80 j = 0 := fun j => by
    rw [sn]
    by_cases e : j = a
    · rw [if_pos e]
      exact ⟨fun z => absurd z (by decide), fun z => absurd e z.1⟩
    · rw [if_neg e]
      exact ⟨fun z => ⟨e, z⟩, fun z => z.2⟩
  have sn1 : ∀ j, ¬ ab_rd (ab_wr m 80 a 1) 80 j = 0 ↔ j = a ∨ ¬ ab_rd m 80 j = 0 := fun j => by
    rw [sn0]
    constructor
    · intro z
      by_cases e : j = a
      · exact Or.inl e
      · exact Or.inr (fun y => z ⟨e, y⟩)
    · rintro (z | z) y
      · exact y.1 z
      · exact z y.2
  have qT : ∀ j, gT (ab_wr m 80 a 1) j = gT m j := fun j => rfl
  have qU : ∀ j, gU (ab_wr m 80 a 1) j = gU m j := fun j => rfl
  have qV : ∀ j, gV (ab_wr m 80 a 1) j = gV m j := fun j => rfl
  have qL : ∀ j, gL (ab_wr m 80 a 1) j = gL m j := fun j => rfl
  have qB : ∀ j, gB (ab_wr m 80 a 1) j = gB m j := fun j => rfl
  have qP : ∀ k j, gP (ab_wr m 80 a 1) k j = gP m k j := fun k j => rfl
  have eT : ab_rd m 77 a = nI r := (in_I (by omega)).mpr hT
  have ia := ab_in (n := a) (N := 49) (by omega) (by decide)
  have ca := ab_cl (n := a) (by omega)
  have key : ab_K Z 0 120 [.inl (.ref 8), .inl (.int (nI a)), .inl (.int (nI C))] m (fun r9 M => ∃ (t : Nat) (x : Int), r9 = some (nI t) ∧ 1 ≤ t ∧ t ≤ C ∧ t ≠ a ∧ ab_rd m 80 t = 0 ∧ fr_M [75, 76, 78, 79, 80] m M ∧ (∀ j, ab_rd M 80 j = if j = a then 1 else ab_rd m 80 j) ∧ x = min (gL m t) (c t) ∧ (∀ s, 1 ≤ s → s ≤ C → s ≠ a → ab_rd m 80 s = 0 → gL M s = min (gL m s) (c s) - x ∧ x ≤ min (gL m s) (c s) ∧ gB M s = if c s < gL m s then nI a else gB m s) ∧ (∀ s, (s = a ∨ ¬ ab_rd m 80 s = 0) → gB M s = gB m s) ∧ (∀ k : Nat, (∃ s, s ≤ C ∧ (s = a ∨ ¬ ab_rd m 80 s = 0) ∧ gT m s = k) → gU M k = gU m k + x) ∧ (∀ k : Nat, ¬ (∃ s, s ≤ C ∧ (s = a ∨ ¬ ab_rd m 80 s = 0) ∧ gT m s = k) → gU M k = gU m k) ∧ (∀ s, 1 ≤ s → s ≤ C → (s = a ∨ ¬ ab_rd m 80 s = 0) → gV M s = gV m s - x) ∧ ∀ s, 1 ≤ s → s ≤ C → s ≠ a → ab_rd m 80 s = 0 → gV M s = gV m s) := by
    have h139 : ∀ (M : ab_M) (t : Nat), gs_P (ab_wr m 80 a 1) C a c M (C + 1) → 1 ≤ t → t ≤ C → ab_rd (ab_wr m 80 a 1) 80 t = 0 → (∀ s, 1 ≤ s → s ≤ C → ab_rd (ab_wr m 80 a 1) 80 s = 0 → gL M t ≤ gL M s) → ab_T Z 120 0 (139, [(0, .inl (.ref 8)), (1, .inl (.int (nI a))), (2, .inl (.int (nI C))), (3, .inl (.int (nI r))), (4, .inl (.int (ab_rd M 79 t))), (5, .inl (.int (nI t))), (6, .inl (.int 0))], [], M) (fun r m9 => r = some (nI t) ∧ gr_P M C (gL M t) m9 (C + 1)) := by
      intro M t hM t1 t2 t3 hmin
      have f : ∀ {p}, p ∉ [78, 79] → ∀ j, ab_rd M p j = ab_rd (ab_wr m 80 a 1) p j := fun hp j => hM.1.rdi hp j
      have fT : ∀ j, gT M j = gT m j := fun j => by
        show (ab_rd M 77 j).toInt = _
        rw [f (by decide)]
        rfl
      have fU : ∀ j, gU M j = gU m j := fun j => by
        show (ab_rd M 75 j).toInt = _
        rw [f (by decide)]
        rfl
      have fV : ∀ j, gV M j = gV m j := fun j => by
        show (ab_rd M 76 j).toInt = _
        rw [f (by decide)]
        rfl
      have fS : ∀ j, ab_rd M 80 j = ab_rd (ab_wr m 80 a 1) 80 j := fun j => f (by decide) j
      have lv : ∀ s, 1 ≤ s → s ≤ C → ab_rd (ab_wr m 80 a 1) 80 s = 0 → gL M s = min (gL m s) (c s) := fun s s1 s2 s3 => ((hM.2 s).1 ⟨s1, by omega, s2, s3⟩).1
      have lp : ∀ s, 1 ≤ s → s ≤ C → ab_rd (ab_wr m 80 a 1) 80 s = 0 → 0 ≤ gL M s := fun s s1 s2 s3 => by
        rw [lv s s1 s2 s3]
        have h1 := (hc s s1 s2).2.2.2
        have h2 := (sn0 s).mp s3
        have h3 := bL s s1 s2 h2.1 h2.2
        omega
      refine cl_M_step2 hZ (m := M) (CN := C) (N := N) hC hN rfl (fun s s1 s2 => ?_) (fun s s' s1 s2 s3 s4 s5 => ?_) ?_ (fun k k1 k2 => by rw [fU]; exact bU k k1 k2) (fun s s1 s2 => by rw [fV]; exact bV s s1 s2) (fun s s1 s2 s3 => lp s s1 s2 (by rw [← fS]; exact s3)) ?_ (C + 1) 0 M (by omega) ⟨fr_M.refl _ M, fun k ⟨s, z, _⟩ => by omega, fun k _ => rfl, fun s _ _ => ⟨fun z => by omega, fun _ => rfl, fun z => by omega, fun _ => rfl⟩⟩
      · rw [fS, sn1] at s2
        obtain ⟨k, k1, k2, k3⟩ := hsit s s1 s2
        exact ⟨k, k1, k2, by rw [fT]; exact k3⟩
      · rw [fS, sn1] at s3 s4
        rw [fT, fT] at s5
        exact hinj s s' s1 s2 s3 s4 s5
      · have h1 := lp t t1 t2 t3
        have h2 := lv t t1 t2 t3
        have h3 := hc t t1 t2
        have h4 := bU r hr hrN
        have h5 := bV t t1 t2
        show 0 ≤ gL M t ∧ gL M t ≤ 100000000
        omega
      · rw [fS, sn1]
        exact hs0
    refine ab_Ki hZ (tk_M_step_0_0 ⟨ia, Or.inr rfl⟩ ia ?_) (fun r m1 h => by obtain ⟨t, x, rfl, -⟩ := h; trivial) (by decide) (Nat.le_of_ble_eq_true rfl)
    rw [ca, eT]
    refine cl_M_step1 hZ (m := ab_wr m 80 a 1) (a := a) (C := C) (r := r) (c := c) hC hr (by omega) (fun j j1 j2 => ?_) (bU r hr hrN) (fun M t hM t1 t2 t3 hmin => (h139 M t hM t1 t2 t3 hmin).mono (fun r9 M9 hh => ?_)) ?_ C 1 _ _ _ (by omega) (by omega) ⟨fr_M.refl _ _, fun s => ⟨fun z => by omega, fun _ => ⟨rfl, rfl⟩⟩⟩ (Or.inl ⟨rfl, rfl, fun s s1 s2 => by omega⟩)
    · have h1 := hc j j1 j2
      have h2 := bV j j1 j2
      exact ⟨h1.1, h1.2.1, h1.2.2.1, h2.1, h2.2⟩
    · obtain ⟨g0, g1, g2, g3, g4⟩ := hh
      have f : ∀ {p}, p ∉ [78, 79] → ∀ j, ab_rd M p j = ab_rd (ab_wr m 80 a 1) p j := fun hp j => hM.1.rdi hp j
      have fT : ∀ j, gT M j = gT m j := fun j => by
        show (ab_rd M 77 j).toInt = _
        rw [f (by decide)]
        rfl
      have fU : ∀ j, gU M j = gU m j := fun j => by
        show (ab_rd M 75 j).toInt = _
        rw [f (by decide)]
        rfl
      have fV : ∀ j, gV M j = gV m j := fun j => by
        show (ab_rd M 76 j).toInt = _
        rw [f (by decide)]
        rfl
      have fS : ∀ j, ab_rd M 80 j = ab_rd (ab_wr m 80 a 1) 80 j := fun j => f (by decide) j
      have lv : ∀ s, 1 ≤ s → s ≤ C → ab_rd (ab_wr m 80 a 1) 80 s = 0 → gL M s = min (gL m s) (c s) := fun s s1 s2 s3 => ((hM.2 s).1 ⟨s1, by omega, s2, s3⟩).1
      have g78 : ∀ s, gB M9 s = gB M s := fun s => g1.rdi (by decide) s
      have t4 := (sn0 t).mp t3
      refine ⟨t, gL M t, g0, t1, t2, t4.1, t4.2, ?_, fun j => ?_, lv t t1 t2 t3, fun s s1 s2 s3 s4 => ?_, fun s hs => ?_, fun k hk => ?_, fun k hk => ?_, fun s s1 s2 s3 => ?_, fun s s1 s2 s3 s4 => ?_⟩
      · exact (((fr_M.refl _ m).wr (p := 80) (by decide) a 1).trans (hM.1.mono (by decide))).trans (g1.mono (by decide))
      · rw [g1.rdi (by decide), fS, sn]
      · have s5 := (sn0 s).mpr ⟨s3, s4⟩
        refine ⟨?_, ?_, ?_⟩
        · rw [((g4 s s1 s2).2.2.1 ⟨by omega, by rw [fS]; exact s5⟩), lv s s1 s2 s5]
        · rw [← lv s s1 s2 s5]
          exact hmin s s1 s2 s5
        · rw [g78]
          exact ((hM.2 s).1 ⟨s1, by omega, s2, s5⟩).2
      · rw [g78]
        exact ((hM.2 s).2 (fun z => (sn1 s).mpr hs z.2.2.2)).2
      · obtain ⟨s, z1, z2, z3⟩ := hk
        rw [g2 k ⟨s, by omega, z1, by rw [fS]; exact (sn1 s).mpr z2, by rw [fT]; exact z3⟩, fU]
      · show (ab_rd M9 75 k).toInt = _
        rw [g3 k (fun ⟨s, z0, z1, z2, z3⟩ => hk ⟨s, z1, by rw [fS] at z2; exact (sn1 s).mp z2, by rw [← fT]; exact z3⟩)]
        exact fU k
      · rw [(g4 s s1 s2).1 ⟨by omega, by rw [fS]; exact (sn1 s).mpr s3⟩, fV]
      · show (ab_rd M9 76 s).toInt = _
        rw [(g4 s s1 s2).2.1 (fun z => z.2 (by rw [fS]; exact (sn0 s).mpr ⟨s3, s4⟩))]
        exact fV s
    · obtain ⟨s, s1, s2, s3, s4⟩ := free
      exact ⟨s, s1, s2, (sn0 s).mpr ⟨s3, s4⟩⟩
  obtain ⟨r9, M, hC9, t, x, hr9, hh⟩ := key
  rw [hr9] at hC9
  exact ⟨t, M, x, hC9, hh⟩
/-! rows at columns -/
def gh_F (C i : Nat) (W : Nat → Nat → Int) (u v : Nat → Int) : Prop := (∀ k, 1 ≤ k → k ≤ i → 0 ≤ u k ∧ ∀ j, 1 ≤ j → j ≤ C → u k + v j ≤ W k j) ∧ ∀ j, 1 ≤ j → j ≤ C → v j ≤ 0
def gh_M (C i : Nat) (W : Nat → Nat → Int) (u v T : Nat → Int) : Prop := (∀ k : Nat, 1 ≤ k → k ≤ i → ∃ j, 1 ≤ j ∧ j ≤ C ∧ T j = k) ∧ (∀ j, 1 ≤ j → j ≤ C → (T j = 0 ∧ v j = 0) ∨ ∃ k : Nat, 1 ≤ k ∧ k ≤ i ∧ T j = k ∧ u k + v j = W k j) ∧ ∀ j j', 1 ≤ j → j ≤ C → 1 ≤ j' → j' ≤ C → T j = T j' → T j ≠ 0 → j = j'
theorem sm_one : ∀ n : Nat, sg_sum (fun _ => 1) n = n
  | 0 => rfl
  | n + 1 => by
    have := sm_one n
    show sg_sum (fun _ => 1) n + 1 = ((n + 1 : Nat) : Int)
    omega
/-- where each row is -/
theorem gh_col {C i : Nat} {W : Nat → Nat → Int} {u v T : Nat → Int} (h : gh_M C i W u v T) : ∃ x : Nat → Nat, (∀ l, l < i → x l < C ∧ T (x l + 1) = (l + 1 : Nat)) ∧ in_ok i C (fun _ => True) x ∧ ∀ s, s < C → T (s + 1) ≠ 0 → ∃ l, l < i ∧ True ∧ x l = s := by
  obtain ⟨h1, h2, h3⟩ := h
  have ex : ∀ l, ∃ s, l < i → s < C ∧ T (s + 1) = (l + 1 : Nat) := fun l => by
    by_cases q : l < i
    · obtain ⟨j, j1, j2, j3⟩ := h1 (l + 1) (by omega) (by omega)
      exact ⟨j - 1, fun _ => ⟨by omega, by rw [show j - 1 + 1 = j by omega]; exact j3⟩⟩
    · exact ⟨0, fun z => absurd z q⟩
  have hx : ∀ l, l < i → Classical.choose (ex l) < C ∧ T (Classical.choose (ex l) + 1) = (l + 1 : Nat) := fun l => Classical.choose_spec (ex l)
  refine ⟨fun l => Classical.choose (ex l), hx, ⟨fun l hl _ => by have := (hx l hl).1; show Classical.choose (ex l) ≤ C; omega, fun l l' hl hl' _ _ he _ => ?_⟩, fun s hs hn => ?_⟩
  · have a1 := (hx l hl).2
    have a2 := (hx l' hl').2
    have he : Classical.choose (ex l) = Classical.choose (ex l') := he
    rw [he, a2] at a1
    omega
  · rcases h2 (s + 1) (by omega) (by omega) with ⟨z, -⟩ | ⟨k, k1, k2, k3, -⟩
    · exact absurd z hn
    · refine ⟨k - 1, by omega, trivial, ?_⟩
      have a1 := (hx (k - 1) (by omega))
      have a2 : T (Classical.choose (ex (k - 1)) + 1) = (k : Int) := by
        have := a1.2
        omega
      have := h3 (Classical.choose (ex (k - 1)) + 1) (s + 1) (by omega) (by omega) (by omega) (by omega) (by rw [a2, k3]) (by rw [a2]; omega)
      show Classical.choose (ex (k - 1)) = s
      omega
theorem gh_free {C i : Nat} {W : Nat → Nat → Int} {u v T : Nat → Int} (h : gh_M C i W u v T) (hi : i < C) : ∃ j, 1 ≤ j ∧ j ≤ C ∧ T j = 0 := by
  obtain ⟨x, x1, x2, x3⟩ := gh_col h
  by_cases q : ∃ j, 1 ≤ j ∧ j ≤ C ∧ T j = 0
  · exact q
  · exfalso
    have e1 := in_eq (n := i) (f := fun s => if s < C then (1 : Int) else 0) x2 (if_neg (Nat.lt_irrefl C)) (fun s hs _ => x3 s hs (fun z => q ⟨s + 1, by omega, by omega, z⟩))
    have e2 : sg_sum (fun s => if s < C then (1 : Int) else 0) C = C := by
      rw [sg_sum_cong (g := fun _ => 1) (fun s hs => if_pos hs)]
      exact sm_one C
    have e3 : sg_sum (fun l => if True then (fun s => if s < C then (1 : Int) else 0) (x l) else 0) i = i := by
      rw [sg_sum_cong (g := fun _ => 1) (fun l hl => by
        rw [if_pos trivial]
        exact if_pos (x1 l hl).1)]
      exact sm_one i
    have e4 : ((i : Nat) : Int) = C := e3.symm.trans (e1.trans e2)
    omega
/-- the search for a row's column -/
def gt_I (m : ab_M) (C i n : Nat) (W : Nat → Nat → Int) (M : ab_M) (a cnt : Nat) (rk : Nat → Nat) : Prop :=
  fr_M [75, 76, 78, 79, 80] m M ∧ gh_F C i W (gU M) (gV M) ∧ gh_M C (i - 1) W (gU M) (gV M) (gT M) ∧ gT M 0 = i ∧ (∀ k, i < k → k ≤ n → gU M k = 0) ∧
  (∀ s, s ≤ C → ¬ ab_rd M 80 s = 0 → gT M s ≠ 0 ∧ rk s < cnt) ∧ cn_of (fun s => ¬ ab_rd M 80 s = 0) (C + 1) = cnt ∧ a ≤ C ∧ ab_rd M 80 a = 0 ∧
  ((a = 0 ∧ ∀ s, s ≤ C → ab_rd M 80 s = 0) ∨ (1 ≤ a ∧ ¬ ab_rd M 80 0 = 0 ∧ ∃ b k : Nat, b ≤ C ∧ ¬ ab_rd M 80 b = 0 ∧ gB M a = nI b ∧ gT M b = k ∧ gU M k + gV M a = W k a)) ∧
  (∀ s, 1 ≤ s → s ≤ C → ab_rd M 80 s = 0 → 0 ≤ gL M s ∧ (∀ (s' k : Nat), s' ≤ C → ¬ ab_rd M 80 s' = 0 → gT M s' = k → gL M s ≤ W k s - gU M k - gV M s) ∧ (((∀ s', s' ≤ C → ab_rd M 80 s' = 0) ∧ gL M s = 2147483647) ∨ ∃ b k : Nat, b ≤ C ∧ ¬ ab_rd M 80 b = 0 ∧ gB M s = nI b ∧ gT M b = k ∧ gL M s = W k s - gU M k - gV M s)) ∧
  ∀ s, 1 ≤ s → s ≤ C → ¬ ab_rd M 80 s = 0 → ∃ b k : Nat, b ≤ C ∧ ¬ ab_rd M 80 b = 0 ∧ rk b < rk s ∧ gB M s = nI b ∧ gT M b = k ∧ gU M k + gV M s = W k s
