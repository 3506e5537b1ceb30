/-! ===== the reference's matcher: one step of its search ===== -/
abbrev gU (m : ab_M) (k : Nat) : Int := (ab_rd m 75 k).toInt
abbrev gV (m : ab_M) (j : Nat) : Int := (ab_rd m 76 j).toInt
abbrev gT (m : ab_M) (j : Nat) : Int := (ab_rd m 77 j).toInt
abbrev gB (m : ab_M) (j : Nat) : Int32 := ab_rd m 78 j
abbrev gL (m : ab_M) (j : Nat) : Int := (ab_rd m 79 j).toInt
abbrev gP (m : ab_M) (k j : Nat) : Int := (ab_rd m 73 (48 * (k - 1) + (j - 1))).toInt
theorem nI_48 {r j : Nat} (hr : 1 ≤ r) (hj : 1 ≤ j) : 48 * (nI r - 1) + nI j - 1 = nI (48 * (r - 1) + (j - 1)) := by
  obtain ⟨r, rfl⟩ : ∃ q, r = q + 1 := ⟨r - 1, by omega⟩
  obtain ⟨j, rfl⟩ : ∃ q, j = q + 1 := ⟨j - 1, by omega⟩
  rw [nI_pred, show (48 : Int32) = nI 48 from rfl, pk_mul, nI_add, show 48 * r + (j + 1) = 48 * r + j + 1 by omega, nI_pred, show 48 * (r + 1 - 1) + (j + 1 - 1) = 48 * r + j by omega]
/-- what a step has noted for the columns below i: c is what the row adds -/
def gs_P (m : ab_M) (C a : Nat) (c : Nat → Int) (M : ab_M) (i : Nat) : Prop := fr_M [78, 79] m M ∧ ∀ s, (1 ≤ s ∧ s < i ∧ s ≤ C ∧ ab_rd m 80 s = 0 → gL M s = min (gL m s) (c s) ∧ gB M s = if c s < gL m s then nI a else gB m s) ∧ (¬ (1 ≤ s ∧ s < i ∧ s ≤ C ∧ ab_rd m 80 s = 0) → ab_rd M 79 s = ab_rd m 79 s ∧ gB M s = gB m s)
/-- what has been raised -/
def gr_P (m : ab_M) (C : Nat) (x : Int) (M : ab_M) (i : Nat) : Prop := fr_M [75, 76, 79] m M ∧ (∀ k : Nat, (∃ s, s < i ∧ s ≤ C ∧ ¬ ab_rd m 80 s = 0 ∧ gT m s = k) → gU M k = gU m k + x) ∧ (∀ k : Nat, ¬ (∃ s, s < i ∧ s ≤ C ∧ ¬ ab_rd m 80 s = 0 ∧ gT m s = k) → ab_rd M 75 k = ab_rd m 75 k) ∧ ∀ s, 1 ≤ s → s ≤ C → (s < i ∧ ¬ ab_rd m 80 s = 0 → gV M s = gV m s - x) ∧ (¬ (s < i ∧ ¬ ab_rd m 80 s = 0) → ab_rd M 76 s = ab_rd m 76 s) ∧ (s < i ∧ ab_rd m 80 s = 0 → gL M s = gL m s - x) ∧ (¬ (s < i ∧ ab_rd m 80 s = 0) → ab_rd M 79 s = ab_rd m 79 s)
theorem cl_M_step2 {Z : ab_Z} (hZ : ab_okZ Z) {m : ab_M} {C x1 x3 x5 : Int32} {CN N : Nat} {x : Int32} (hCN : CN ≤ 48) (hN : N ≤ 24) (eC : C = nI CN) (hsit : ∀ s, s ≤ CN → ¬ ab_rd m 80 s = 0 → ∃ k : Nat, 1 ≤ k ∧ k ≤ N ∧ gT m s = k) (hinj : ∀ s s', s ≤ CN → s' ≤ CN → ¬ ab_rd m 80 s = 0 → ¬ ab_rd m 80 s' = 0 → gT m s = gT m s' → s = s') (bx : 0 ≤ x.toInt ∧ x.toInt ≤ 100000000) (bU : ∀ k, 1 ≤ k → k ≤ N → 0 ≤ gU m k ∧ gU m k ≤ 20000000) (bV : ∀ s, 1 ≤ s → s ≤ CN → -20000000 ≤ gV m s ∧ gV m s ≤ 0) (bL : ∀ s, 1 ≤ s → s ≤ CN → ab_rd m 80 s = 0 → 0 ≤ gL m s) (hs0 : ¬ ab_rd m 80 0 = 0) : ∀ (k i : Nat) (M : ab_M), i + k = CN + 1 → gr_P m CN x.toInt M i → ab_T Z 120 0 (139, [(0, .inl (.ref 8)), (1, .inl (.int x1)), (2, .inl (.int C)), (3, .inl (.int x3)), (4, .inl (.int x)), (5, .inl (.int x5)), (6, .inl (.int (nI i)))], [], M) (fun r m9 => r = some x5 ∧ gr_P m CN x.toInt m9 (CN + 1)) := by
  subst eC
  intro k
  induction k with
  | zero =>
    intro i M hi hM
    have hi : i = CN + 1 := by omega
    subst hi
    exact tk_M_step_139_2 (nI_lt (by omega) (by omega)) ⟨rfl, hM⟩
  | succ k ih =>
    intro i M hi hM
    have hlt : ¬ nI CN < nI i := nI_nlt (by omega) (by omega)
    have ii := ab_in (n := i) (N := 49) (by omega) (by decide)
    have ci := ab_cl (n := i) (by omega)
    obtain ⟨h1, h2, h3, h4⟩ := hM
    have es : ab_rd M 80 i = ab_rd m 80 i := h1.rdi (by decide) i
    by_cases q : ab_rd m 80 i = 0
    · have i1 : 1 ≤ i := by
        rcases Nat.eq_zero_or_pos i with z | z
        · rw [z] at q
          exact absurd q hs0
        · exact z
      have eL := (h4 i i1 (by omega)).2.2.2 (fun z => by omega)
      have b3 : 0 ≤ (ab_rd m 79 i).toInt := bL i i1 (by omega) q
      have b4 := ab_rng (ab_rd m 79 i)
      refine tk_M_step_139_1 hlt ii (by rw [ci, es]; exact q) ii ii ?_
      rw [nI_1, ci, eL]
      refine ih (i + 1) _ (by omega) ⟨h1.wr (by decide) _ _, fun j hj => ?_, fun j hj => ?_, fun s s1 s2 => ⟨fun hs => ?_, fun hs => ?_, fun hs => ?_, fun hs => ?_⟩⟩
      · show (ab_rd _ 75 j).toInt = _
        rw [ab_rd_n _ _ _ _ (by decide)]
        obtain ⟨s, z1, z0, z2, z3⟩ := hj
        refine h2 j ⟨s, ?_, z0, z2, z3⟩
        have : s ≠ i := fun y => z2 (by rw [y]; exact q)
        omega
      · rw [ab_rd_n _ _ _ _ (by decide)]
        exact h3 j (fun ⟨s, z1, z0, z2, z3⟩ => hj ⟨s, by omega, z0, z2, z3⟩)
      · show (ab_rd _ 76 s).toInt = _
        rw [ab_rd_n _ _ _ _ (by decide)]
        refine (h4 s s1 s2).1 ⟨?_, hs.2⟩
        have : s ≠ i := fun e => hs.2 (by rw [e]; exact q)
        omega
      · rw [ab_rd_n _ _ _ _ (by decide)]
        exact (h4 s s1 s2).2.1 (fun z => hs ⟨by omega, z.2⟩)
      · show (ab_rd _ 79 s).toInt = _
        rw [ab_rd_p]
        by_cases e : s = i
        · rw [if_pos e, ab_subI (by omega) (by omega), e]
        · rw [if_neg e]
          exact (h4 s s1 s2).2.2.1 ⟨by omega, hs.2⟩
      · have e : s ≠ i := fun e => hs ⟨by omega, by rw [e]; exact q⟩
        rw [ab_rd_p, if_neg e]
        exact (h4 s s1 s2).2.2.2 (fun z => hs ⟨by omega, z.2⟩)
    · obtain ⟨l, hl1, hl24, hTl⟩ := hsit i (by omega) q
      have eT : ab_rd M 77 i = nI l := by
        rw [h1.rdi (by decide), in_I (by omega)]
        exact hTl
      have il := ab_in (n := l) (N := 25) (by omega) (by decide)
      have cl := ab_cl (n := l) (by omega)
      have nl : ¬ (∃ s, s < i ∧ s ≤ CN ∧ ¬ ab_rd m 80 s = 0 ∧ gT m s = l) := by
        rintro ⟨s, z1, z0, z2, z3⟩
        have := hinj s i z0 (by omega) z2 q (by rw [z3, hTl])
        omega
      have eU := h3 l nl
      refine tk_M_step_139_0 hlt ii (by rw [ci, es]; exact q) ii (by rw [ci, eT]; exact il) (by rw [ci, eT]; exact il) ii ii ?_
      rw [nI_1, ci, eT, cl, eU]
      have b1 : 0 ≤ (ab_rd m 75 l).toInt ∧ (ab_rd m 75 l).toInt ≤ 20000000 := bU l hl1 hl24
      refine ih (i + 1) _ (by omega) ⟨(h1.wr (by decide) _ _).wr (by decide) _ _, fun j hj => ?_, fun j hj => ?_, fun s s1 s2 => ⟨fun hs => ?_, fun hs => ?_, fun hs => ?_, fun hs => ?_⟩⟩
      · show (ab_rd _ 75 j).toInt = _
        rw [ab_rd_n _ _ _ _ (by decide), ab_rd_p]
        by_cases e : j = l
        · rw [if_pos e, ab_addI (by omega) (by omega), e]
        · rw [if_neg e]
          obtain ⟨s, z1, z0, z2, z3⟩ := hj
          refine h2 j ⟨s, ?_, z0, z2, z3⟩
          have : s ≠ i := fun y => e (by
            rw [y, hTl] at z3
            omega)
          omega
      · have e : j ≠ l := fun e => hj ⟨i, by omega, by omega, q, by rw [e]; exact hTl⟩
        rw [ab_rd_n _ _ _ _ (by decide), ab_rd_p, if_neg e]
        exact h3 j (fun ⟨s, z1, z0, z2, z3⟩ => hj ⟨s, by omega, z0, z2, z3⟩)
      · show (ab_rd _ 76 s).toInt = _
        rw [ab_rd_p, ab_rd_n _ _ _ _ (by decide)]
        by_cases e : s = i
        · have eV := (h4 i (by omega) (by omega)).2.1 (fun z => by omega)
          have b2 : -20000000 ≤ (ab_rd m 76 i).toInt ∧ (ab_rd m 76 i).toInt ≤ 0 := bV i (by omega) (by omega)
          rw [if_pos e, eV, ab_subI (by omega) (by omega), e]
        · rw [if_neg e]
          exact (h4 s s1 s2).1 ⟨by omega, hs.2⟩
      · have e : s ≠ i := fun e => hs ⟨by omega, by rw [e]; exact q⟩
        rw [ab_rd_p, if_neg e, ab_rd_n _ _ _ _ (by decide)]
        exact (h4 s s1 s2).2.1 (fun z => hs ⟨by omega, z.2⟩)
      · show (ab_rd _ 79 s).toInt = _
        rw [ab_rd_n _ _ _ _ (by decide), ab_rd_n _ _ _ _ (by decide)]
        refine (h4 s s1 s2).2.2.1 ⟨?_, hs.2⟩
        have : s ≠ i := fun e => q (by rw [← e]; exact hs.2)
        omega
      · rw [ab_rd_n _ _ _ _ (by decide), ab_rd_n _ _ _ _ (by decide)]
        exact (h4 s s1 s2).2.2.2 (fun z => hs ⟨by omega, z.2⟩)
/-- the first half: the next column -/
theorem cl_M_step1 {Z : ab_Z} (hZ : ab_okZ Z) {m : ab_M} {a C r : Nat} {c : Nat → Int} (hC : C ≤ 48) (hr : 1 ≤ r) (hr24 : r ≤ 24) (hc : ∀ j, 1 ≤ j → j ≤ C → c j = gP m r j - gU m r - gV m j ∧ 0 ≤ gP m r j ∧ gP m r j ≤ 10000000 ∧ -20000000 ≤ gV m j ∧ gV m j ≤ 0) (bU : 0 ≤ gU m r ∧ gU m r ≤ 20000000) {P : Option Int32 → ab_M → Prop} (fin : ∀ (M : ab_M) (t : Nat), gs_P m C a c M (C + 1) → 1 ≤ t → t ≤ C → ab_rd m 80 t = 0 → (∀ s, 1 ≤ s → s ≤ C → ab_rd m 80 s = 0 → gL M t ≤ gL M s) → ab_T Z 120 0 (139, [(0, .inl (.ref 8)), (1, .inl (.int (nI a))), (2, .inl (.int (nI C))), (3, .inl (.int (nI r))), (4, .inl (.int (ab_rd M 79 t))), (5, .inl (.int (nI t))), (6, .inl (.int 0))], [], M) P) (free : ∃ s, 1 ≤ s ∧ s ≤ C ∧ ab_rd m 80 s = 0) : ∀ (k i : Nat) (M : ab_M) (x4 x5 : Int32), i + k = C + 1 → 1 ≤ i → gs_P m C a c M i → ((x4 = 2147483647 ∧ x5 = 0 ∧ ∀ s, 1 ≤ s → s < i → ¬ ab_rd m 80 s = 0) ∨ ∃ t, 1 ≤ t ∧ t < i ∧ ab_rd m 80 t = 0 ∧ x4 = ab_rd M 79 t ∧ x5 = nI t ∧ ∀ s, 1 ≤ s → s < i → ab_rd m 80 s = 0 → gL M t ≤ gL M s) → ab_T Z 120 0 (24, [(0, .inl (.ref 8)), (1, .inl (.int (nI a))), (2, .inl (.int (nI C))), (3, .inl (.int (nI r))), (4, .inl (.int x4)), (5, .inl (.int x5)), (6, .inl (.int (nI i)))], [], M) P := by
  have eM : (2147483647 : Int32).toInt = 2147483647 := rfl
  intro k
  induction k with
  | zero =>
    intro i M x4 x5 hi hi1 hM hn
    have hi : i = C + 1 := by omega
    subst hi
    refine tk_M_step_24_5 (nI_lt (by omega) (by omega)) ?_
    rcases hn with ⟨-, -, z⟩ | ⟨t, z1, z2, z3, z4, z5, z6⟩
    · obtain ⟨s, y1, y2, y3⟩ := free
      exact absurd y3 (z s y1 (by omega))
    · rw [z4, z5]
      exact fin M t hM z1 (by omega) z3 (fun s y1 y2 y3 => z6 s y1 (by omega) y3)
  | succ k ih =>
    intro i M x4 x5 hi hi1 hM hn
    have hlt : ¬ nI C < nI i := nI_nlt (by omega) (by omega)
    have ii := ab_in (n := i) (N := 49) (by omega) (by decide)
    have ci := ab_cl (n := i) (by omega)
    have cr := ab_cl (n := r) (by omega)
    have es : ab_rd M 80 i = ab_rd m 80 i := hM.1.rdi (by decide) i
    by_cases q : ab_rd m 80 i = 0
    · obtain ⟨c1, c2, c3, c4, c5⟩ := hc i hi1 (by omega)
      have ix : vp_in (48 * (nI r - 1) + nI i - 1) 1152 := by
        rw [nI_48 hr hi1]
        exact ab_in (by omega) (by decide)
      have cx : (48 * (nI r - 1) + nI i - 1).toNatClampNeg = 48 * (r - 1) + (i - 1) := by
        rw [nI_48 hr hi1]
        exact ab_cl (by omega)
      have ir := ab_in (n := r) (N := 25) (by omega) (by decide)
      obtain ⟨o1, o2⟩ := (hM.2 i).2 (fun z => by omega)
      -- the number itself
      generalize hv : ab_rd M 73 (48 * (r - 1) + (i - 1)) - ab_rd M 75 r - ab_rd M 76 i = v
      have ev : v.toInt = c i := by
        rw [← hv, hM.1.rdi (p := 73) (by decide), hM.1.rdi (p := 75) (by decide), hM.1.rdi (p := 76) (by decide), c1]
        have c2 : 0 ≤ (ab_rd m 73 (48 * (r - 1) + (i - 1))).toInt := c2
        have c3 : (ab_rd m 73 (48 * (r - 1) + (i - 1))).toInt ≤ 10000000 := c3
        have bU : 0 ≤ (ab_rd m 75 r).toInt ∧ (ab_rd m 75 r).toInt ≤ 20000000 := bU
        have c4 : -20000000 ≤ (ab_rd m 76 i).toInt := c4
        have c5 : (ab_rd m 76 i).toInt ≤ 0 := c5
        have e : (ab_rd m 73 (48 * (r - 1) + (i - 1)) - ab_rd m 75 r).toInt = (ab_rd m 73 (48 * (r - 1) + (i - 1))).toInt - (ab_rd m 75 r).toInt := ab_subI (by omega) (by omega)
        rw [ab_subI (by omega) (by omega), e]
      have o1' : gL M i = gL m i := by
        show (ab_rd M 79 i).toInt = _
        rw [o1]
      by_cases q1 : ab_rd M 79 i ≤ v
      · have q1' : gL M i ≤ v.toInt := (ab_leI _ _).mp q1
        have hM' : gs_P m C a c M (i + 1) := by
          refine ⟨hM.1, fun s => ⟨fun h => ?_, fun h => (hM.2 s).2 (fun z => h ⟨z.1, by omega, z.2.2⟩)⟩⟩
          by_cases e : s = i
          · subst e
            rw [if_neg (by omega)]
            exact ⟨by omega, o2⟩
          · exact (hM.2 s).1 ⟨h.1, by omega, h.2.2⟩
        by_cases q2 : x4 ≤ ab_rd M 79 i
        · refine tk_M_step_24_4 hlt ii (by rw [ci, es]; exact q) ix ir ii ii (by rw [ci, cr, cx, hv]; exact q1) ii (by rw [ci]; exact q2) ?_
          rw [nI_1]
          refine ih (i + 1) M x4 x5 (by omega) (by omega) hM' ?_
          rcases hn with ⟨z1, z2, z3⟩ | ⟨t, z1, z2, z3, z4, z5, z6⟩
          · exfalso
            rw [z1, ab_leI, eM] at q2
            have q2 : 2147483647 ≤ gL M i := q2
            omega
          · refine Or.inr ⟨t, z1, by omega, z3, z4, z5, fun s y1 y2 y3 => ?_⟩
            by_cases e : s = i
            · rw [e]
              rw [z4] at q2
              exact (ab_leI _ _).mp q2
            · exact z6 s y1 (by omega) y3
        · refine tk_M_step_24_3 hlt ii (by rw [ci, es]; exact q) ix ir ii ii (by rw [ci, cr, cx, hv]; exact q1) ii (by rw [ci]; exact q2) ii ?_
          rw [nI_1, ci]
          refine ih (i + 1) M _ _ (by omega) (by omega) hM' (Or.inr ⟨i, hi1, by omega, q, rfl, rfl, fun s y1 y2 y3 => ?_⟩)
          by_cases e : s = i
          · rw [e]
            exact Int.le_refl _
          · rcases hn with ⟨z1, z2, z3⟩ | ⟨t, z1, z2, z3, z4, z5, z6⟩
            · exact absurd y3 (z3 s y1 (by omega))
            · have h1 := z6 s y1 (by omega) y3
              rw [z4] at q2
              have q2' : ¬ gL M t ≤ gL M i := fun z => q2 ((ab_leI _ _).mpr z)
              omega
      · have q1' : ¬ gL M i ≤ v.toInt := fun z => q1 ((ab_leI _ _).mpr z)
        have rL : ∀ s, ab_rd (ab_wr (ab_wr M 79 i v) 78 i (nI a)) 79 s = if s = i then v else ab_rd M 79 s := fun s => by rw [ab_rd_n _ _ _ _ (by decide), ab_rd_p]
        have rB : ∀ s, ab_rd (ab_wr (ab_wr M 79 i v) 78 i (nI a)) 78 s = if s = i then nI a else ab_rd M 78 s := fun s => by rw [ab_rd_p, ab_rd_n _ _ _ _ (by decide)]
        have hM' : gs_P m C a c (ab_wr (ab_wr M 79 i v) 78 i (nI a)) (i + 1) := by
          refine ⟨(hM.1.wr (by decide) _ _).wr (by decide) _ _, fun s => ⟨fun h => ?_, fun h => ?_⟩⟩
          · show (ab_rd _ 79 s).toInt = _ ∧ ab_rd _ 78 s = _
            rw [rL, rB]
            by_cases e : s = i
            · subst e
              rw [if_pos rfl, if_pos rfl, if_pos (by omega)]
              exact ⟨by omega, rfl⟩
            · rw [if_neg e, if_neg e]
              exact (hM.2 s).1 ⟨h.1, by omega, h.2.2⟩
          · have e : s ≠ i := fun e => h ⟨by omega, by omega, by omega, by rw [e]; exact q⟩
            show ab_rd _ 79 s = _ ∧ ab_rd _ 78 s = _
            rw [rL, rB, if_neg e, if_neg e]
            exact (hM.2 s).2 (fun z => h ⟨z.1, by omega, z.2.2⟩)
        have q1a : ¬ ab_rd M 79 (nI i).toNatClampNeg ≤ ab_rd M 73 (48 * (nI r - 1) + nI i - 1).toNatClampNeg - ab_rd M 75 (nI r).toNatClampNeg - ab_rd M 76 (nI i).toNatClampNeg := by
          rw [ci, cr, cx, hv]
          exact q1
        by_cases q2 : x4 ≤ v
        · refine tk_M_step_24_2 hlt ii (by rw [ci, es]; exact q) ix ir ii ii q1a ii ii ii (by rw [ci, cr, cx, hv, ab_rd_s]; exact q2) ?_
          rw [nI_1, ci, cr, cx, hv]
          refine ih (i + 1) _ x4 x5 (by omega) (by omega) hM' ?_
          rcases hn with ⟨z1, z2, z3⟩ | ⟨t, z1, z2, z3, z4, z5, z6⟩
          · exfalso
            rw [z1, ab_leI, eM] at q2
            omega
          · refine Or.inr ⟨t, z1, by omega, z3, by rw [rL, if_neg (by omega)]; exact z4, z5, fun s y1 y2 y3 => ?_⟩
            show (ab_rd _ 79 t).toInt ≤ (ab_rd _ 79 s).toInt
            rw [rL, rL, if_neg (show t ≠ i by omega)]
            by_cases e : s = i
            · rw [if_pos e]
              rw [z4] at q2
              exact (ab_leI _ _).mp q2
            · rw [if_neg e]
              exact z6 s y1 (by omega) y3
        · refine tk_M_step_24_1 hlt ii (by rw [ci, es]; exact q) ix ir ii ii q1a ii ii ii (by rw [ci, cr, cx, hv, ab_rd_s]; exact q2) ii ?_
          rw [nI_1, ci, cr, cx, hv, ab_rd_s]
          refine ih (i + 1) _ _ _ (by omega) (by omega) hM' (Or.inr ⟨i, hi1, by omega, q, by rw [rL, if_pos rfl], rfl, fun s y1 y2 y3 => ?_⟩)
          show (ab_rd _ 79 i).toInt ≤ (ab_rd _ 79 s).toInt
          rw [rL, rL, if_pos rfl]
          by_cases e : s = i
          · rw [if_pos e]
            exact Int.le_refl _
          · rw [if_neg e]
            rcases hn with ⟨z1, z2, z3⟩ | ⟨t, z1, z2, z3, z4, z5, z6⟩
            · exact absurd y3 (z3 s y1 (by omega))
            · have h1 := z6 s y1 (by omega) y3
              rw [z4] at q2
              have q2' : ¬ gL M t ≤ v.toInt := fun z => q2 ((ab_leI _ _).mpr z)
              show v.toInt ≤ gL M s
              omega
    · refine tk_M_step_24_0 hlt ii (by rw [ci, es]; exact q) ?_
      rw [nI_1]
      refine ih (i + 1) M x4 x5 (by omega) (by omega) ⟨hM.1, fun s => ⟨fun h => (hM.2 s).1 ⟨h.1, ?_, h.2.2⟩, fun h => (hM.2 s).2 (fun z => h ⟨z.1, by omega, z.2.2⟩)⟩⟩ ?_
      · have : s ≠ i := fun z => q (by rw [← z]; exact h.2.2.2)
        omega
      · rcases hn with ⟨z1, z2, z3⟩ | ⟨t, z1, z2, z3, z4, z5, z6⟩
        · refine Or.inl ⟨z1, z2, fun s y1 y2 => ?_⟩
          by_cases e : s = i
          · rw [e]
            exact q
          · exact z3 s y1 (by omega)
        · refine Or.inr ⟨t, z1, by omega, z3, z4, z5, fun s y1 y2 y3 => ?_⟩
          have : s ≠ i := fun z => q (by rw [← z]; exact y3)
          exact z6 s y1 (by omega) y3
