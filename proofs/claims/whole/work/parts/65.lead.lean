/-! ===== the class's matcher: seats that lead to another ===== -/
def st_C (m : ab_M) (n F : Nat) (w : Nat → Nat → Int) (Q : Nat → Prop) : Prop := n ≤ 24 ∧ F ≤ 24 ∧ ab_rd m 6 12 = nI n ∧ ab_rd m 6 13 = nI F ∧ (∀ l s, Q l → s ≤ F → hW m l s = w l s ∧ 0 ≤ w l s ∧ w l s ≤ 1000000) ∧ (∀ l, Q l → l < n ∧ w l F ≤ 100) ∧ hu_F F w Q (hU m) (hV m) ∧ hu_M F w Q (hU m) (hV m) (hS m) (hT m) ∧ ∀ l, l < n → ¬ Q l → ab_rd m 37 l = -1
theorem st_C.bU {m : ab_M} {n F : Nat} {w : Nat → Nat → Int} {Q : Nat → Prop} (h : st_C m n F w Q) {l : Nat} (hl : Q l) : 0 ≤ hU m l ∧ hU m l ≤ 100 := by
  obtain ⟨h1, h2, h3, h4, h5, h6, h7, h8, h9⟩ := h
  have a1 := h7.1 l hl
  have a2 := h7.2.1 l F hl (Nat.le_refl _)
  have a3 := (h6 l hl).2
  have a4 := h7.2.2.2
  omega
theorem st_C.bV {m : ab_M} {n F : Nat} {w : Nat → Nat → Int} {Q : Nat → Prop} (h : st_C m n F w Q) {s : Nat} (hs : s ≤ F) : -100 ≤ hV m s ∧ hV m s ≤ 0 := by
  have hb := fun l hl => h.bU (l := l) hl
  obtain ⟨h1, h2, h3, h4, h5, h6, h7, h8, h9⟩ := h
  by_cases e : s = F
  · have := h7.2.2.2
    rw [e]
    omega
  · have a1 := h7.2.2.1 s (by omega)
    rcases h8.2 s (by omega) with ⟨-, z⟩ | ⟨l', z1, z2, z3⟩
    · omega
    · obtain ⟨s', y1, y2, y3, y4⟩ := h8.1 l' z1
      have : s' = s := by omega
      subst this
      have := hb l' z1
      have := (h5 l' s' z1 hs).2
      omega
theorem st_C.slack {Z : ab_Z} (hZ : ab_okZ Z) {m : ab_M} {n F : Nat} {w : Nat → Nat → Int} {Q : Nat → Prop} (h : st_C m n F w Q) {l s : Nat} (hl : Q l) (hs : s ≤ F) : ∃ v : Int32, ab_C Z 0 31 [.inl (.ref 6), .inl (.int (nI l)), .inl (.int (nI s))] m (some v) m ∧ (v = 0 ↔ hU m l + hV m s = w l s) := by
  have b1 := h.bU hl
  have b2 := h.bV hs
  obtain ⟨h1, h2, h3, h4, h5, h6, h7, h8, h9⟩ := h
  have b3 := h5 l s hl hs
  have b4 := (h6 l hl).1
  obtain ⟨v, hv, ev⟩ := ct_Matcher_slack hZ (l := l) (s := s) (m := m) (by omega) (by omega) (by omega) (by omega) (by omega)
  refine ⟨v, hv, ?_⟩
  rw [ab_eqI, ev, ab_t0, b3.1]
  omega
theorem ct_Matcher_leastSeat {Z : ab_Z} (hZ : ab_okZ Z) {m : ab_M} {n F l home : Nat} {w : Nat → Nat → Int} {Q : Nat → Prop} {x : Int32} {A : Nat → Prop} (h : st_C m n F w Q) (hl : Q l) (hh : home ≤ F) (hx : ∀ s, s < home → ((((x.toUInt32 >>> ((nI s).toUInt32 &&& Int32.toUInt32 31)).toInt32) &&& 1) = 0 ↔ ¬ A s)) : ∃ t : Nat, ab_C Z 1 40 [.inl (.ref 6), .inl (.int (nI l)), .inl (.int (nI home)), .inl (.int x)] m (some (nI t)) m ∧ t ≤ home ∧ (t < home → A t ∧ hU m l + hV m t = w l t) ∧ ∀ s, s < t → A s → ¬ hU m l + hV m s = w l s := by
  have hF : F ≤ 24 := h.2.1
  have lp : ∀ (k i : Nat), i + k = home → (∀ s, s < i → A s → ¬ hU m l + hV m s = w l s) → ab_T Z 40 1 (3, [(0, .inl (.ref 6)), (1, .inl (.int (nI l))), (2, .inl (.int (nI home))), (3, .inl (.int x)), (4, .inl (.int (nI i)))], [], m) (fun r m9 => (∃ t : Nat, r = some (nI t) ∧ t ≤ home ∧ (t < home → A t ∧ hU m l + hV m t = w l t) ∧ ∀ s, s < t → A s → ¬ hU m l + hV m s = w l s) ∧ m9 = m) := by
    intro k
    induction k with
    | zero =>
      intro i hi inv
      have hi : i = home := by omega
      subst hi
      exact tk_Matcher_leastSeat_3_3 (Int32.le_refl _) ⟨⟨i, rfl, Nat.le_refl _, fun z => by omega, inv⟩, rfl⟩
    | succ k ih =>
      intro i hi inv
      have hlt : ¬ nI home ≤ nI i := nI_ge (by omega) (by omega)
      have bit := hx i (by omega)
      by_cases q : A i
      · obtain ⟨v, hC, hv⟩ := st_C.slack hZ h hl (show i ≤ F by omega)
        by_cases z : v = 0
        · exact tk_Matcher_leastSeat_3_0 hlt (fun y => bit.mp y q) ⟨(by decide : 0 < 1), hC⟩ z ⟨⟨i, rfl, by omega, fun _ => ⟨q, hv.mp z⟩, inv⟩, rfl⟩
        · refine tk_Matcher_leastSeat_3_1 hlt (fun y => bit.mp y q) ⟨(by decide : 0 < 1), hC⟩ z ?_
          rw [nI_1]
          refine ih (i + 1) (by omega) (fun s hs hA => ?_)
          by_cases e : s = i
          · rw [e]
            exact fun y => z (hv.mpr y)
          · exact inv s (by omega) hA
      · refine tk_Matcher_leastSeat_3_2 hlt (bit.mpr q) ?_
        rw [nI_1]
        refine ih (i + 1) (by omega) (fun s hs hA => ?_)
        by_cases e : s = i
        · rw [e] at hA
          exact absurd hA q
        · exact inv s (by omega) hA
  have key := ab_Ki (As := [.inl (.ref 6), .inl (.int (nI l)), .inl (.int (nI home)), .inl (.int x)]) hZ (tk_Matcher_leastSeat_0_0 (lp home 0 (by omega) (fun s hs => by omega))) (fun r m1 h => by obtain ⟨⟨v, rfl, -⟩, -⟩ := h; trivial) (by decide) (Nat.le_of_ble_eq_true rfl)
  obtain ⟨r, m1, hC, ⟨t, hr, ht⟩, hm⟩ := key
  rw [hr, hm] at hC
  exact ⟨t, hC, ht⟩
/-- who can move at no cost from a to b -/
def fm_Y (m : ab_M) (F : Nat) (w : Nat → Nat → Int) (Q : Nat → Prop) (l a b : Nat) (v : Int32) : Prop := (v = -1 ∧ (a = F ∨ hT m a = -1) ∧ hV m b = 0) ∨ ∃ k : Nat, v = nI k ∧ l < k ∧ Q k ∧ hS m k = a ∧ hU m k + hV m b = w k b
def fm_N (m : ab_M) (F : Nat) (w : Nat → Nat → Int) (Q : Nat → Prop) (l a b : Nat) : Prop := ¬ ((a = F ∨ hT m a = -1) ∧ hV m b = 0) ∧ ∀ k : Nat, l < k → Q k → hS m k = a → ¬ hU m k + hV m b = w k b
theorem ct_Matcher_freeMover {Z : ab_Z} (hZ : ab_okZ Z) {m : ab_M} {n F l a b : Nat} {w : Nat → Nat → Int} {Q : Nat → Prop} (h : st_C m n F w Q) (hl : Q l) (ha : a ≤ F) (hb : b ≤ F) : ∃ v : Int32, ab_C Z 1 42 [.inl (.ref 6), .inl (.int (nI a)), .inl (.int (nI b)), .inl (.int (nI l))] m (some v) m ∧ ((v = -2 ∧ fm_N m F w Q l a b) ∨ fm_Y m F w Q l a b v) := by
  have slk := fun l s h1 h2 => st_C.slack hZ (l := l) (s := s) h h1 h2
  obtain ⟨h1, h2, h3, h4, h5, h6, h7, h8, h9⟩ := id h
  have hln := (h6 l hl).1
  have hE := ct_Matcher_isEmpty hZ (s := a) (F := F) (m := m) h2 h4 ha
  have ib := ab_in (n := b) (N := 25) (by omega) (by decide)
  have cb := ab_cl (n := b) (by omega)
  have ca := ab_cl (n := a) (by omega)
  have v0 : ab_rd m 40 b = 0 ↔ hV m b = 0 := by
    rw [ab_eqI, ab_t0]
  have t1 : ab_rd m 38 a = -1 ↔ hT m a = -1 := dk_m1 _
  have nb : a ≠ F → ¬ nI a = ab_rd m 6 13 := fun e z => by
    rw [h4] at z
    exact e ((nI_eq (by omega) (by omega)).mp z)
  have lp : ∀ (k i : Nat), i + k = n → a = F → ¬ hV m b = 0 → l < i → (∀ k : Nat, l < k → k < i → Q k → hS m k = a → ¬ hU m k + hV m b = w k b) → ab_T Z 42 1 (64, [(0, .inl (.ref 6)), (1, .inl (.int (nI a))), (2, .inl (.int (nI b))), (3, .inl (.int (nI l))), (4, .inl (.int (nI i)))], [], m) (fun r m9 => (∃ v : Int32, r = some v ∧ ((v = -2 ∧ fm_N m F w Q l a b) ∨ fm_Y m F w Q l a b v)) ∧ m9 = m) := by
    intro k
    induction k with
    | zero =>
      intro i hi eF hV0 hli inv
      have hi : i = n := by omega
      subst hi
      exact tk_Matcher_freeMover_64_3 (by rw [h3]; exact Int32.le_refl _) ⟨⟨-2, rfl, Or.inl ⟨rfl, fun z => hV0 z.2, fun k z1 z2 => inv k z1 (h6 k z2).1 z2⟩⟩, rfl⟩
    | succ k ih =>
      intro i hi eF hV0 hli inv
      have hlt : ¬ ab_rd m 6 12 ≤ nI i := by rw [h3]; exact nI_ge (by omega) (by omega)
      have ii := ab_in (n := i) (N := 24) (by omega) (by decide)
      have ci := ab_cl (n := i) (by omega)
      by_cases q : ab_rd m 37 i = nI F
      · have qi : Q i := by
          by_cases z : Q i
          · exact z
          · have := h9 i (by omega) z
            rw [this] at q
            exact absurd q.symm (nI_m1 (by omega))
        have qs : hS m i = a := by rw [eF]; exact (in_I (by omega)).mp q
        obtain ⟨v, hC, hv⟩ := slk i b qi hb
        by_cases z : v = 0
        · exact tk_Matcher_freeMover_64_0 hlt ii (by rw [ci, h4]; exact q) ⟨(by decide : 0 < 1), hC⟩ z ⟨⟨_, rfl, Or.inr (Or.inr ⟨i, rfl, hli, qi, qs, hv.mp z⟩)⟩, rfl⟩
        · refine tk_Matcher_freeMover_64_1 hlt ii (by rw [ci, h4]; exact q) ⟨(by decide : 0 < 1), hC⟩ z ?_
          rw [nI_1]
          refine ih (i + 1) (by omega) eF hV0 (by omega) (fun k z1 z2 z3 z4 => ?_)
          by_cases e : k = i
          · rw [e]
            exact fun y => z (hv.mpr y)
          · exact inv k z1 (by omega) z3 z4
      · refine tk_Matcher_freeMover_64_2 hlt ii (by rw [ci, h4]; exact q) ?_
        rw [nI_1]
        refine ih (i + 1) (by omega) eF hV0 (by omega) (fun k z1 z2 z3 z4 => ?_)
        by_cases e : k = i
        · rw [e, eF] at z4
          exact absurd ((in_I (by omega)).mpr z4) q
        · exact inv k z1 (by omega) z3 z4
  have key : ab_K Z 1 42 [.inl (.ref 6), .inl (.int (nI a)), .inl (.int (nI b)), .inl (.int (nI l))] m (fun r m9 => (∃ v : Int32, r = some v ∧ ((v = -2 ∧ fm_N m F w Q l a b) ∨ fm_Y m F w Q l a b v)) ∧ m9 = m) := by
    refine ab_Ki hZ ?_ (fun r m1 h => by obtain ⟨⟨v, rfl, -⟩, -⟩ := h; trivial) (by decide) (Nat.le_of_ble_eq_true rfl)
    by_cases qe : a = F ∨ ab_rd m 38 a = -1
    · have qe' : a = F ∨ hT m a = -1 := qe.imp id t1.mp
      by_cases qv : hV m b = 0
      · exact tk_Matcher_freeMover_0_0 ⟨(by decide : 0 < 1), hE⟩ (ab_b_n.mpr qe) ib (by rw [cb]; exact v0.mpr qv) ⟨⟨-1, rfl, Or.inr (Or.inl ⟨rfl, qe', qv⟩)⟩, rfl⟩
      · have qv' : ¬ ab_rd m 40 (nI b).toNatClampNeg = 0 := by rw [cb]; exact fun z => qv (v0.mp z)
        by_cases e : a = F
        · refine tk_Matcher_freeMover_0_4 ⟨(by decide : 0 < 1), hE⟩ (ab_b_n.mpr qe) ib qv' (by rw [h4, e]) ?_
          rw [nI_1]
          exact lp (n - (l + 1)) (l + 1) (by omega) e qv (by omega) (fun k z1 z2 => by omega)
        · have qt := qe.resolve_left e
          refine tk_Matcher_freeMover_0_3 ⟨(by decide : 0 < 1), hE⟩ (ab_b_n.mpr qe) ib qv' (nb e) (ab_in (by omega) (by decide)) (by rw [ca, qt, ab_leI, ab_m1, nI_toInt (by omega)]; omega) ⟨⟨-2, rfl, Or.inl ⟨rfl, fun z => qv z.2, fun k z1 z2 z3 => ?_⟩⟩, rfl⟩
          exfalso
          obtain ⟨s, y1, y2, y3, y4⟩ := h8.1 k z2
          have : s = a := by omega
          subst this
          have := y4 (by omega)
          have := t1.mp qt
          omega
    · have e : a ≠ F := fun z => qe (Or.inl z)
      have haF : a < F := by omega
      obtain ⟨k, z1, z2, z3⟩ : ∃ k : Nat, Q k ∧ hT m a = k ∧ hS m k = a := by
        rcases h8.2 a haF with ⟨z, -⟩ | z
        · exact absurd (Or.inr (t1.mpr z)) qe
        · exact z
      have hk := (h6 k z1).1
      have eT : ab_rd m 38 a = nI k := (in_I (by omega)).mpr z2
      have only : ∀ k' : Nat, Q k' → hS m k' = a → k' = k := fun k' y1 y2 => by
        obtain ⟨s, x1, x2, x3, x4⟩ := h8.1 k' y1
        have : s = a := by omega
        subst this
        have := x4 haF
        omega
      have notE : ¬ ((a = F ∨ hT m a = -1) ∧ hV m b = 0) := fun y => qe (y.1.imp id t1.mpr)
      by_cases ql : k ≤ l
      · refine tk_Matcher_freeMover_0_7 ⟨(by decide : 0 < 1), hE⟩ (ab_b_0.mpr qe) (nb e) (ab_in (by omega) (by decide)) (by rw [ca, eT]; exact nI_le ql (by omega)) ⟨⟨-2, rfl, Or.inl ⟨rfl, notE, fun k' y1 y2 y3 => ?_⟩⟩, rfl⟩
        have := only k' y2 y3
        omega
      · obtain ⟨v, hC, hv⟩ := slk k b z1 hb
        have hgt : ¬ ab_rd m 38 (nI a).toNatClampNeg ≤ nI l := by rw [ca, eT]; exact nI_ge (by omega) (by omega)
        have hC' : ab_C Z 0 31 [.inl (.ref 6), .inl (.int (ab_rd m 38 (nI a).toNatClampNeg)), .inl (.int (nI b))] m (some v) m := by
          rw [ca, eT]
          exact hC
        by_cases z : v = 0
        · refine tk_Matcher_freeMover_0_5 ⟨(by decide : 0 < 1), hE⟩ (ab_b_0.mpr qe) (nb e) (ab_in (by omega) (by decide)) hgt ⟨(by decide : 0 < 1), hC'⟩ z ⟨⟨_, rfl, Or.inr (Or.inr ⟨k, by rw [ca, eT], by omega, z1, z3, hv.mp z⟩)⟩, rfl⟩
        · refine tk_Matcher_freeMover_0_6 ⟨(by decide : 0 < 1), hE⟩ (ab_b_0.mpr qe) (nb e) (ab_in (by omega) (by decide)) hgt ⟨(by decide : 0 < 1), hC'⟩ z ⟨⟨-2, rfl, Or.inl ⟨rfl, notE, fun k' y1 y2 y3 => ?_⟩⟩, rfl⟩
          rw [only k' y2 y3]
          exact fun y => z (hv.mpr y)
  obtain ⟨r, m1, hC, ⟨v, hr, hv⟩, hm⟩ := key
  rw [hr, hm] at hC
  exact ⟨v, hC, hv⟩
theorem st_C.fr {m M : ab_M} {n F : Nat} {w : Nat → Nat → Int} {Q : Nat → Prop} {S : List Nat} (h : st_C m n F w Q) (g : fr_M S m M) (hS' : ∀ p, p ∈ [6, 34, 37, 38, 39, 40] → p ∉ S) : st_C M n F w Q ∧ hU M = hU m ∧ hV M = hV m ∧ hS M = hS m ∧ hT M = hT m := by
  have e0 : ab_rd M 6 = ab_rd m 6 := g.rd (hS' _ (by decide))
  have e1 : ab_rd M 34 = ab_rd m 34 := g.rd (hS' _ (by decide))
  have e2 : ab_rd M 37 = ab_rd m 37 := g.rd (hS' _ (by decide))
  have kU : hU M = hU m := by
    funext l
    show (ab_rd M 39 l).toInt = _
    rw [g.rd (p := 39) (hS' _ (by decide))]
  have kV : hV M = hV m := by
    funext l
    show (ab_rd M 40 l).toInt = _
    rw [g.rd (p := 40) (hS' _ (by decide))]
  have kS : hS M = hS m := by
    funext l
    show (ab_rd M 37 l).toInt = _
    rw [e2]
  have kT : hT M = hT m := by
    funext l
    show (ab_rd M 38 l).toInt = _
    rw [g.rd (p := 38) (hS' _ (by decide))]
  have kW : hW M = hW m := by
    funext l s
    show (ab_rd M 34 (l * 25 + s)).toInt = _
    rw [e1]
  refine ⟨?_, kU, kV, kS, kT⟩
  unfold st_C
  rw [e0, e2, kU, kV, kS, kT, kW]
  exact h
/-- what the search backwards from a home keeps -/
def sl_I (m : ab_M) (F : Nat) (w : Nat → Nat → Int) (Q : Nat → Prop) (l home : Nat) (M : ab_M) (R len : Nat) (rk : Nat → Nat) : Prop :=
  fr_M [43, 44, 45] m M ∧ R < 2 ^ 25 ∧ (∀ s, R.testBit s = true → s ≤ F ∧ rk s < len ∧ ab_rd M 45 (rk s) = nI s) ∧ (∀ i, i < len → ∃ s, R.testBit s = true ∧ rk s = i) ∧ cn_of (fun s => R.testBit s = true) (F + 1) = len ∧ R.testBit home = true ∧
  ∀ s, R.testBit s = true → s ≠ home → ∃ b, R.testBit b = true ∧ rk b < rk s ∧ ab_rd M 44 s = nI b ∧ fm_Y m F w Q l s b (ab_rd M 43 s)
theorem ct_Matcher_seatsThatLead {Z : ab_Z} (hZ : ab_okZ Z) {m : ab_M} {n F l home : Nat} {w : Nat → Nat → Int} {Q : Nat → Prop} (h : st_C m n F w Q) (hl : Q l) (hh : home ≤ F) : ∃ (R len : Nat) (rk : Nat → Nat) (M : ab_M), ab_C Z 2 41 [.inl (.ref 6), .inl (.int (nI l)), .inl (.int (nI home))] m (some (nI R)) M ∧ sl_I m F w Q l home M R len rk ∧ ∀ a b, a ≤ F → ¬ R.testBit a = true → R.testBit b = true → fm_N m F w Q l a b := by
  have hF : F ≤ 24 := h.2.1
  have hb : ab_rd m 6 13 = nI F := h.2.2.2.1
  have inner : ∀ (f j k R len : Nat) (rk : Nat → Nat) (M : ab_M) (P : Option Int32 → ab_M → Prop), j + f = F + 1 → k < len → sl_I m F w Q l home M R len rk → (∀ a b, a ≤ F → ¬ R.testBit a = true → R.testBit b = true → (rk b < k ∨ (rk b = k ∧ a < j)) → fm_N m F w Q l a b) → (∀ R' len' rk' M', k < len' → sl_I m F w Q l home M' R' len' rk' → (∀ a b, a ≤ F → ¬ R'.testBit a = true → R'.testBit b = true → rk' b < k + 1 → fm_N m F w Q l a b) → ab_T Z 41 2 (17, [(0, .inl (.ref 6)), (1, .inl (.int (nI l))), (2, .inl (.int (nI home))), (3, .inl (.int (nI R'))), (4, .inl (.int (nI len'))), (5, .inl (.int (nI (k + 1))))], [], M') P) → ab_T Z 41 2 (36, [(0, .inl (.ref 6)), (1, .inl (.int (nI l))), (2, .inl (.int (nI home))), (3, .inl (.int (nI R))), (4, .inl (.int (nI len))), (5, .inl (.int (nI k))), (6, .inl (.int (nI j)))], [], M) P := by
    intro f
    induction f with
    | zero =>
      intro j k R len rk M P hj hk hI hN fin
      have eb : ab_rd M 6 13 = nI F := by rw [hI.1.rdi (by decide)]; exact hb
      refine tk_Matcher_seatsThatLead_36_3 (by rw [eb]; exact nI_lt (by omega) (by omega)) ?_
      rw [nI_1]
      exact fin R len rk M hk hI (fun a b h1 h2 h3 h4 => hN a b h1 h2 h3 (by omega))
    | succ f ih =>
      intro j k R len rk M P hj hk hI hN fin
      obtain ⟨i1, i2, i3, i4, i5, i6, i7⟩ := id hI
      have eb : ab_rd M 6 13 = nI F := by rw [i1.rdi (by decide)]; exact hb
      have hlt : ¬ ab_rd M 6 13 < nI j := by rw [eb]; exact nI_nlt (by omega) (by omega)
      have bit := bt_bit0 (n := R) (j := j) (by omega) (by omega)
      have hlen : len ≤ F + 1 := by rw [← i5]; exact cn_le _ _
      have ik := ab_in (n := k) (N := 25) (by omega) (by decide)
      have ck := ab_cl (n := k) (by omega)
      have ij := ab_in (n := j) (N := 25) (by omega) (by decide)
      have cj := ab_cl (n := j) (by omega)
      by_cases q : R.testBit j = true
      · refine tk_Matcher_seatsThatLead_36_0 hlt (fun z => bit.mp z q) ?_
        rw [nI_1]
        refine ih (j + 1) k R len rk M P (by omega) hk hI (fun a b h1 h2 h3 h4 => hN a b h1 h2 h3 ?_) fin
        have : a ≠ j := fun e => h2 (by rw [e]; exact q)
        omega
      · obtain ⟨b, b1, b2⟩ := i4 k hk
        obtain ⟨b3, b4, b5⟩ := i3 b b1
        rw [b2] at b5
        obtain ⟨hM, kU, kV, kS, kT⟩ := h.fr i1 (by decide)
        obtain ⟨v, hC, hv⟩ := ct_Matcher_freeMover hZ hM hl (show j ≤ F by omega) b3
        have hC' : ab_C Z 1 42 [.inl (.ref 6), .inl (.int (nI j)), .inl (.int (ab_rd M 45 (nI k).toNatClampNeg)), .inl (.int (nI l))] M (some v) M := by
          rw [ck, b5]
          exact hC
        have hv' : (v = -2 ∧ fm_N m F w Q l j b) ∨ fm_Y m F w Q l j b v := by
          unfold fm_N fm_Y at hv
          rw [kU, kV, kS, kT] at hv
          exact hv
        rcases hv' with ⟨z, hno⟩ | hyes
        · refine tk_Matcher_seatsThatLead_36_1 hlt (bit.mpr q) ik ⟨(by decide : 1 < 2), hC'⟩ z ?_
          rw [nI_1]
          refine ih (j + 1) k R len rk M P (by omega) hk hI (fun a b' h1 h2 h3 h4 => ?_) fin
          by_cases e : rk b' = k ∧ a = j
          · have e2 : b' = b := by
              have x1 := (i3 b' h3).2.2
              rw [e.1, b5] at x1
              exact (nI_eq (by have := (i3 b' h3).1; omega) (by omega)).mp x1.symm
            rw [e.2, e2]
            exact hno
          · exact hN a b' h1 h2 h3 (by omega)
        · have hv2 : ¬ v = -2 := fun z => by
            rcases hyes with ⟨y, -⟩ | ⟨k', y, y1, y2, -⟩
            · rw [y] at z
              exact absurd z (by decide)
            · rw [y] at z
              have hk' := (h.2.2.2.2.2.1 k' y2).1
              have := h.1
              rw [ab_eqI, nI_toInt (by omega)] at z
              have : (-2 : Int32).toInt = -2 := rfl
              omega
          have hlen2 : len < F + 1 := by
            have := cn_ins (S := fun s => R.testBit s = true) (T := fun s => (R ||| 2 ^ j).testBit s = true) (i := j) (n := F + 1) (by omega) q (fun s => bt_ins R j s)
            have := cn_le (fun s => (R ||| 2 ^ j).testBit s = true) (F + 1)
            omega
          have il := ab_in (n := len) (N := 25) (by omega) (by decide)
          have cl := ab_cl (n := len) (by omega)
          refine tk_Matcher_seatsThatLead_36_2 hlt (bit.mpr q) ik ⟨(by decide : 1 < 2), hC'⟩ hv2 ij ik ij il ?_
          rw [nI_1, nI_1, bt_or (by omega), cj, cl, ck, b5]
          have ins := fun s => bt_ins R j s
          have rq : ∀ i, ab_rd (ab_wr (ab_wr (ab_wr M 43 j v) 44 j (nI b)) 45 len (nI j)) 45 i = if i = len then nI j else ab_rd M 45 i := fun i => by
            rw [ab_rd_p, ab_rd_n _ _ _ _ (by decide), ab_rd_n _ _ _ _ (by decide)]
          have ra : ∀ i, ab_rd (ab_wr (ab_wr (ab_wr M 43 j v) 44 j (nI b)) 45 len (nI j)) 44 i = if i = j then nI b else ab_rd M 44 i := fun i => by
            rw [ab_rd_n _ _ _ _ (by decide), ab_rd_p, ab_rd_n _ _ _ _ (by decide)]
          have rm : ∀ i, ab_rd (ab_wr (ab_wr (ab_wr M 43 j v) 44 j (nI b)) 45 len (nI j)) 43 i = if i = j then v else ab_rd M 43 i := fun i => by
            rw [ab_rd_n _ _ _ _ (by decide), ab_rd_n _ _ _ _ (by decide), ab_rd_p]
          have rkR : ∀ s, R.testBit s = true → (if s = j then len else rk s) = rk s := fun s hs => if_neg (fun e => q (by rw [← e]; exact hs))
          refine ih (j + 1) k (R ||| 2 ^ j) (len + 1) (fun s => if s = j then len else rk s) _ P (by omega) (by omega) ⟨((i1.wr (by decide) _ _).wr (by decide) _ _).wr (by decide) _ _, bt_or_lt i2 (by omega), fun s hs => ?_, fun i hi => ?_, ?_, (ins home).mpr (Or.inl i6), fun s hs hne => ?_⟩ (fun a b' h1 h2 h3 h4 => ?_) fin
          · rw [rq]
            show s ≤ F ∧ (if s = j then len else rk s) < len + 1 ∧ (if (if s = j then len else rk s) = len then nI j else ab_rd M 45 (if s = j then len else rk s)) = nI s
            rcases (ins s).mp hs with z | z
            · obtain ⟨x1, x2, x3⟩ := i3 s z
              rw [rkR s z, if_neg (by omega)]
              exact ⟨x1, by omega, x3⟩
            · rw [if_pos z, if_pos rfl, z]
              exact ⟨by omega, by omega, rfl⟩
          · by_cases e : i = len
            · exact ⟨j, (ins j).mpr (Or.inr rfl), by show (if j = j then len else rk j) = i; rw [if_pos rfl, e]⟩
            · obtain ⟨s, x1, x2⟩ := i4 i (by omega)
              exact ⟨s, (ins s).mpr (Or.inl x1), by show (if s = j then len else rk s) = i; rw [rkR s x1]; exact x2⟩
          · rw [cn_ins (S := fun s => R.testBit s = true) (T := fun s => (R ||| 2 ^ j).testBit s = true) (by omega) q ins, i5]
          · rw [ra, rm]
            rcases (ins s).mp hs with z | z
            · obtain ⟨b', x1, x2, x3, x4⟩ := i7 s z hne
              have e : s ≠ j := fun e => q (by rw [← e]; exact z)
              rw [if_neg e, if_neg e]
              refine ⟨b', (ins b').mpr (Or.inl x1), ?_, x3, x4⟩
              show (if b' = j then len else rk b') < (if s = j then len else rk s)
              rw [rkR b' x1, rkR s z]
              exact x2
            · rw [if_pos z, if_pos z]
              refine ⟨b, (ins b).mpr (Or.inl b1), ?_, rfl, by rw [z]; exact hyes⟩
              show (if b = j then len else rk b) < (if s = j then len else rk s)
              rw [rkR b b1, if_pos z]
              exact b4
          · have h4 : (if b' = j then len else rk b') < k ∨ ((if b' = j then len else rk b') = k ∧ a < j + 1) := h4
            have h2' : ¬ R.testBit a = true := fun z => h2 ((ins a).mpr (Or.inl z))
            have haj : a ≠ j := fun e => h2 ((ins a).mpr (Or.inr e))
            rcases (ins b').mp h3 with z | z
            · rw [rkR b' z] at h4
              exact hN a b' h1 h2' z (by omega)
            · rw [if_pos z] at h4
              omega
  have outer : ∀ (f k R len : Nat) (rk : Nat → Nat) (M : ab_M), k + f = F + 1 → k ≤ len → sl_I m F w Q l home M R len rk → (∀ a b, a ≤ F → ¬ R.testBit a = true → R.testBit b = true → rk b < k → fm_N m F w Q l a b) → ab_T Z 41 2 (17, [(0, .inl (.ref 6)), (1, .inl (.int (nI l))), (2, .inl (.int (nI home))), (3, .inl (.int (nI R))), (4, .inl (.int (nI len))), (5, .inl (.int (nI k)))], [], M) (fun r m9 => ∃ (R len : Nat) (rk : Nat → Nat), r = some (nI R) ∧ sl_I m F w Q l home m9 R len rk ∧ ∀ a b, a ≤ F → ¬ R.testBit a = true → R.testBit b = true → fm_N m F w Q l a b) := by
    intro f
    induction f with
    | zero =>
      intro k R len rk M hk hkl hI hN
      have hlen : len ≤ F + 1 := by rw [← hI.2.2.2.2.1]; exact cn_le _ _
      exact tk_Matcher_seatsThatLead_17_2 (nI_le (by omega) (by omega)) ⟨R, len, rk, rfl, hI, fun a b h1 h2 h3 => hN a b h1 h2 h3 (by have := (hI.2.2.1 b h3).2.1; omega)⟩
    | succ f ih =>
      intro k R len rk M hk hkl hI hN
      have hlen : len ≤ F + 1 := by rw [← hI.2.2.2.2.1]; exact cn_le _ _
      have eb : ab_rd M 6 13 = nI F := by rw [hI.1.rdi (by decide)]; exact hb
      by_cases q : len ≤ k
      · exact tk_Matcher_seatsThatLead_17_2 (nI_le q (by omega)) ⟨R, len, rk, rfl, hI, fun a b h1 h2 h3 => hN a b h1 h2 h3 (by have := (hI.2.2.1 b h3).2.1; omega)⟩
      · refine tk_Matcher_seatsThatLead_17_0 (nI_ge (by omega) (by omega)) (by rw [eb]; exact nI_nlt (by omega) (by omega)) ?_
        exact inner (F + 1) 0 k R len rk M _ (by omega) (by omega) hI (fun a b h1 h2 h3 h4 => hN a b h1 h2 h3 (by omega)) (fun R' len' rk' M' g1 g2 g3 => ih (k + 1) R' len' rk' M' (by omega) (by omega) g2 g3)
  have tb : ∀ s, (2 ^ home).testBit s = true ↔ s = home := fun s => by
    rw [Nat.testBit_two_pow, decide_eq_true_eq]
    exact ⟨Eq.symm, Eq.symm⟩
  have start : sl_I m F w Q l home (ab_wr m 45 0 (nI home)) (2 ^ home) 1 (fun _ => 0) := by
    refine ⟨(fr_M.refl _ m).wr (by decide) _ _, Nat.pow_lt_pow_right (by decide) (by omega), fun s hs => ?_, fun i hi => ⟨home, (tb home).mpr rfl, by show 0 = i; omega⟩, ?_, (tb home).mpr rfl, fun s hs hne => absurd ((tb s).mp hs) hne⟩
    · rw [(tb s).mp hs]
      exact ⟨hh, by show 0 < 1; decide, ab_rd_s _ _ _ _⟩
    · have := cn_ins (S := fun s => (0 : Nat).testBit s = true) (T := fun s => (2 ^ home).testBit s = true) (i := home) (n := F + 1) (by omega) (by rw [Nat.zero_testBit]; decide) (fun s => by
        rw [tb, Nat.zero_testBit]
        exact ⟨Or.inr, fun z => z.resolve_left (by decide)⟩)
      rw [this, cn_0 (fun s _ => by rw [Nat.zero_testBit]; decide)]
  have key := ab_Ki (d := 2) (As := [.inl (.ref 6), .inl (.int (nI l)), .inl (.int (nI home))]) (m := m) (P := fun r m9 => ∃ (R len : Nat) (rk : Nat → Nat), r = some (nI R) ∧ sl_I m F w Q l home m9 R len rk ∧ ∀ a b, a ≤ F → ¬ R.testBit a = true → R.testBit b = true → fm_N m F w Q l a b) hZ (tk_Matcher_seatsThatLead_0_0 (ab_in (n := 0) (N := 25) (by decide) (by decide)) (by
    rw [bt_shl (by omega)]
    exact outer (F + 1) 0 (2 ^ home) 1 (fun _ => 0) _ (by omega) (by omega) start (fun a b _ _ _ h4 => absurd h4 (by show ¬ 0 < 0; omega)))) (fun r m1 h => by obtain ⟨R, len, rk, rfl, -⟩ := h; trivial) (by decide) (Nat.le_of_ble_eq_true rfl)
  obtain ⟨r, M, hC, R, len, rk, hr, hI, hN⟩ := key
  rw [hr] at hC
  exact ⟨R, len, rk, M, hC, hI, hN⟩
