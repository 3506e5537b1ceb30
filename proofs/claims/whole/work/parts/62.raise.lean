/-! ===== the class's matcher: raised dues, moving up ===== -/
def rd_P (m : ab_M) (l0 B : Nat) (x : Int) (M : ab_M) (i : Nat) : Prop := fr_M [39, 40, 41] m M ∧ (∀ l : Nat, (l = l0 ∨ ∃ s, s < i ∧ B.testBit s = true ∧ hT m s = l) → hU M l = hU m l + x) ∧ (∀ l : Nat, ¬ (l = l0 ∨ ∃ s, s < i ∧ B.testBit s = true ∧ hT m s = l) → ab_rd M 39 l = ab_rd m 39 l) ∧ ∀ s, (s < i ∧ B.testBit s = true → hV M s = hV m s - x) ∧ (¬ (s < i ∧ B.testBit s = true) → ab_rd M 40 s = ab_rd m 40 s) ∧ (s < i ∧ ¬ B.testBit s = true → hL M s = hL m s - x) ∧ (¬ (s < i ∧ ¬ B.testBit s = true) → ab_rd M 41 s = ab_rd m 41 s)
theorem ct_Matcher_raiseDues {Z : ab_Z} (hZ : ab_okZ Z) {m : ab_M} {F l0 B : Nat} {x : Int32} (hF : F ≤ 24) (hb : ab_rd m 6 13 = nI F) (hl : l0 < 24) (hB2 : B < 2 ^ 24) (hBF : ∀ s, B.testBit s = true → s < F) (hsit : ∀ s, B.testBit s = true → ∃ l : Nat, l < 24 ∧ l ≠ l0 ∧ hT m s = l) (hinj : ∀ s s', B.testBit s = true → B.testBit s' = true → hT m s = hT m s' → s = s') (bx : 0 ≤ x.toInt ∧ x.toInt ≤ 1000) (bU : ∀ l, l < 24 → 0 ≤ hU m l ∧ hU m l ≤ 1000) (bV : ∀ s, s ≤ F → -1000 ≤ hV m s ∧ hV m s ≤ 0) (bL : ∀ s, s ≤ F → ¬ B.testBit s = true → -1000 ≤ hL m s ∧ hL m s ≤ 1000000) : ab_K Z 0 37 [.inl (.ref 6), .inl (.int (nI l0)), .inl (.int (nI B)), .inl (.int x)] m (fun r m9 => r = none ∧ rd_P m l0 B x.toInt m9 (F + 1)) := by
  have lp : ∀ (k i : Nat) (M : ab_M), i + k = F + 1 → rd_P m l0 B x.toInt M i → ab_T Z 37 0 (13, [(0, .inl (.ref 6)), (1, .inl (.int (nI l0))), (2, .inl (.int (nI B))), (3, .inl (.int x)), (4, .inl (.int (nI i)))], [], M) (fun r m9 => r = none ∧ rd_P m l0 B x.toInt m9 (F + 1)) := by
    intro k
    induction k with
    | zero =>
      intro i M hi hM
      have hi : i = F + 1 := by omega
      subst hi
      have eb : ab_rd M 6 13 = nI F := by rw [hM.1.rdi (by decide)]; exact hb
      exact tk_Matcher_raiseDues_13_4 (by rw [eb]; exact nI_lt (by omega) (by omega)) ⟨rfl, hM⟩
    | succ k ih =>
      intro i M hi hM
      have eb : ab_rd M 6 13 = nI F := by rw [hM.1.rdi (by decide)]; exact hb
      have hlt : ¬ ab_rd M 6 13 < nI i := by rw [eb]; exact nI_nlt (by omega) (by omega)
      have bit := bt_bit0 (n := B) (j := i) (by omega) (by omega)
      have ii := ab_in (n := i) (N := 25) (by omega) (by decide)
      have ci := ab_cl (n := i) (by omega)
      obtain ⟨h1, h2, h3, h4⟩ := hM
      by_cases q : B.testBit i = true
      · have hiF := hBF i q
        obtain ⟨l, hl24, hll, hTl⟩ := hsit i q
        have eT : ab_rd M 38 i = nI l := by
          rw [h1.rdi (by decide), in_I (by omega)]
          exact hTl
        have il := ab_in (n := l) (N := 24) hl24 (by decide)
        have cl := ab_cl (n := l) (by omega)
        have nl : ¬ (l = l0 ∨ ∃ s, s < i ∧ B.testBit s = true ∧ hT m s = l) := by
          rintro (z | ⟨s, z1, z2, z3⟩)
          · exact hll z
          · have := hinj s i z2 q (by rw [z3, hTl])
            omega
        have eU := h3 l nl
        have eV := (h4 i).2.1 (fun z => by omega)
        refine tk_Matcher_raiseDues_13_1 hlt (fun z => bit.mp z q) (ab_in hiF (by omega) |> fun _ => ab_in (n := i) (N := 24) (by omega) (by decide)) (by rw [ci, eT]; exact nI_m1 (by omega)) (by rw [ci, eT]; exact il) (by rw [ci, eT]; exact il) ii ii ?_
        rw [nI_1, ci, eT, cl, eU, eV]
        have b1 := bU l hl24
        have b2 := bV i (by omega)
        have b1 : 0 ≤ (ab_rd m 39 l).toInt ∧ (ab_rd m 39 l).toInt ≤ 1000 := b1
        have b2 : -1000 ≤ (ab_rd m 40 i).toInt ∧ (ab_rd m 40 i).toInt ≤ 0 := b2
        refine ih (i + 1) _ (by omega) ⟨(h1.wr (by decide) _ _).wr (by decide) _ _, fun j hj => ?_, fun j hj => ?_, fun s => ⟨fun hs => ?_, fun hs => ?_, fun hs => ?_, fun hs => ?_⟩⟩
        · show (ab_rd _ 39 j).toInt = _
          rw [ab_rd_n _ _ _ _ (by decide), ab_rd_p]
          by_cases e : j = l
          · rw [if_pos e, ab_addI (by omega) (by omega), e]
          · rw [if_neg e]
            refine h2 j (hj.imp id (fun ⟨s, z1, z2, z3⟩ => ⟨s, ?_, z2, z3⟩))
            have : s ≠ i := fun y => e (by
              rw [y, hTl] at z3
              omega)
            omega
        · have e : j ≠ l := fun e => hj (Or.inr ⟨i, by omega, q, by rw [e]; exact hTl⟩)
          rw [ab_rd_n _ _ _ _ (by decide), ab_rd_p, if_neg e]
          exact h3 j (fun z => hj (z.imp id (fun ⟨s, z1, z2, z3⟩ => ⟨s, by omega, z2, z3⟩)))
        · show (ab_rd _ 40 s).toInt = _
          rw [ab_rd_p, ab_rd_n _ _ _ _ (by decide)]
          by_cases e : s = i
          · rw [if_pos e, ab_subI (by omega) (by omega), e]
          · rw [if_neg e]
            exact (h4 s).1 ⟨by omega, hs.2⟩
        · have e : s ≠ i := fun e => hs ⟨by omega, by rw [e]; exact q⟩
          rw [ab_rd_p, if_neg e, ab_rd_n _ _ _ _ (by decide)]
          exact (h4 s).2.1 (fun z => hs ⟨by omega, z.2⟩)
        · show (ab_rd _ 41 s).toInt = _
          rw [ab_rd_n _ _ _ _ (by decide), ab_rd_n _ _ _ _ (by decide)]
          refine (h4 s).2.2.1 ⟨?_, hs.2⟩
          have : s ≠ i := fun e => hs.2 (by rw [e]; exact q)
          omega
        · rw [ab_rd_n _ _ _ _ (by decide), ab_rd_n _ _ _ _ (by decide)]
          exact (h4 s).2.2.2 (fun z => hs ⟨by omega, z.2⟩)
      · have eL := (h4 i).2.2.2 (fun z => by omega)
        have b3 : -1000 ≤ (ab_rd m 41 i).toInt ∧ (ab_rd m 41 i).toInt ≤ 1000000 := bL i (by omega) q
        refine tk_Matcher_raiseDues_13_2 hlt (bit.mpr q) rfl ii ii ?_
        rw [nI_1, ci, eL]
        refine ih (i + 1) _ (by omega) ⟨h1.wr (by decide) _ _, fun j hj => ?_, fun j hj => ?_, fun s => ⟨fun hs => ?_, fun hs => ?_, fun hs => ?_, fun hs => ?_⟩⟩
        · show (ab_rd _ 39 j).toInt = _
          rw [ab_rd_n _ _ _ _ (by decide)]
          refine h2 j (hj.imp id (fun ⟨s, z1, z2, z3⟩ => ⟨s, ?_, z2, z3⟩))
          have : s ≠ i := fun y => q (by rw [← y]; exact z2)
          omega
        · rw [ab_rd_n _ _ _ _ (by decide)]
          exact h3 j (fun z => hj (z.imp id (fun ⟨s, z1, z2, z3⟩ => ⟨s, by omega, z2, z3⟩)))
        · show (ab_rd _ 40 s).toInt = _
          rw [ab_rd_n _ _ _ _ (by decide)]
          refine (h4 s).1 ⟨?_, hs.2⟩
          have : s ≠ i := fun e => q (by rw [← e]; exact hs.2)
          omega
        · rw [ab_rd_n _ _ _ _ (by decide)]
          exact (h4 s).2.1 (fun z => hs ⟨by omega, z.2⟩)
        · show (ab_rd _ 41 s).toInt = _
          rw [ab_rd_p]
          by_cases e : s = i
          · rw [if_pos e, ab_subI (by omega) (by omega), e]
          · rw [if_neg e]
            exact (h4 s).2.2.1 ⟨by omega, hs.2⟩
        · have e : s ≠ i := fun e => hs ⟨by omega, by rw [e]; exact q⟩
          rw [ab_rd_p, if_neg e]
          exact (h4 s).2.2.2 (fun z => hs ⟨by omega, z.2⟩)
  have i0 := ab_in (n := l0) (N := 24) hl (by decide)
  have b1 : 0 ≤ (ab_rd m 39 l0).toInt ∧ (ab_rd m 39 l0).toInt ≤ 1000 := bU l0 hl
  refine ab_Ki hZ (tk_Matcher_raiseDues_0_0 i0 i0 ?_) (fun r m1 h => by rw [h.1]; trivial) (by decide) (Nat.le_of_ble_eq_true rfl)
  rw [ab_cl (by omega)]
  refine lp (F + 1) 0 _ (by omega) ⟨(fr_M.refl _ m).wr (by decide) _ _, fun j hj => ?_, fun j hj => ?_, fun s => ⟨fun hs => by omega, fun _ => ab_rd_n _ _ _ _ (by decide), fun hs => by omega, fun _ => ab_rd_n _ _ _ _ (by decide)⟩⟩
  · have e : j = l0 := hj.elim id (fun ⟨s, z, _⟩ => by omega)
    show (ab_rd _ 39 j).toInt = _
    rw [ab_rd_p, if_pos e, ab_addI (by omega) (by omega), e]
  · rw [ab_rd_p, if_neg (fun e => hj (Or.inl e))]
/-! a seating: losses Q at seats, F the bench -/
def hu_F (F : Nat) (w : Nat → Nat → Int) (Q : Nat → Prop) (u v : Nat → Int) : Prop := (∀ l, Q l → 0 ≤ u l) ∧ (∀ l s, Q l → s ≤ F → u l + v s ≤ w l s) ∧ (∀ s, s < F → v s ≤ 0) ∧ v F = 0
def hu_M (F : Nat) (w : Nat → Nat → Int) (Q : Nat → Prop) (u v S T : Nat → Int) : Prop := (∀ l : Nat, Q l → ∃ s : Nat, s ≤ F ∧ S l = s ∧ u l + v s = w l s ∧ (s < F → T s = l)) ∧ ∀ s : Nat, s < F → (T s = -1 ∧ v s = 0) ∨ ∃ l : Nat, Q l ∧ T s = l ∧ S l = s
/-- the same, but for a seat that somebody has just left -/
def mv_H (F : Nat) (w : Nat → Nat → Int) (Q : Nat → Prop) (u v S T : Nat → Int) (h : Nat) : Prop := (∀ l : Nat, Q l → ∃ s : Nat, s ≤ F ∧ S l = s ∧ u l + v s = w l s ∧ (s < F → s ≠ h ∧ T s = l)) ∧ ∀ s : Nat, s < F → s ≠ h → (T s = -1 ∧ v s = 0) ∨ ∃ l : Nat, Q l ∧ T s = l ∧ S l = s
theorem hT_sit (m : ab_M) {F l s : Nat} (hl : l < 24) (j : Nat) : hT (hm_sit m F l s) j = if j = s ∧ s ≠ F then (l : Int) else hT m j := by
  show (ab_rd _ 38 j).toInt = _
  rw [hm_sit_T]
  by_cases q : j = s ∧ s ≠ F
  · rw [if_pos q, if_pos q, nI_toInt (by omega)]
  · rw [if_neg q, if_neg q]
theorem hS_sit (m : ab_M) {F l s : Nat} (hs : s ≤ 24) (j : Nat) : hS (hm_sit m F l s) j = if j = l then (s : Int) else hS m j := by
  show (ab_rd _ 37 j).toInt = _
  rw [hm_sit_S]
  by_cases q : j = l
  · rw [if_pos q, if_pos q, nI_toInt (by omega)]
  · rw [if_neg q, if_neg q]
theorem ct_Matcher_moveUp {Z : ab_Z} (hZ : ab_okZ Z) {m : ab_M} {F l0 t : Nat} {w : Nat → Nat → Int} {Q PB : Nat → Prop} {u v : Nat → Int} {rk : Nat → Nat} (hF : F ≤ 24) (hb : ab_rd m 6 13 = nI F) (hQ : ∀ l, Q l → l < 24) (hl0 : l0 < 24) (hn0 : ¬ Q l0) (ht : t ≤ F) (he : t = F ∨ hT m t = -1) (hM : hu_M F w Q u v (hS m) (hT m)) (path : ∀ s, (s = t ∨ PB s) → (hB m s = -1 ∧ u l0 + v s = w l0 s) ∨ ∃ a l : Nat, PB a ∧ rk a < rk s ∧ hB m s = nI a ∧ a < F ∧ Q l ∧ hT m a = l ∧ u l + v s = w l s) (hrk : rk t ≤ F) : ab_K Z 1 38 [.inl (.ref 6), .inl (.int (nI l0)), .inl (.int (nI t))] m (fun r m9 => r = none ∧ fr_M [37, 38] m m9 ∧ hu_M F w (fun l => Q l ∨ l = l0) u v (hS m9) (hT m9) ∧ ∀ l, ¬ Q l → l ≠ l0 → ab_rd m9 37 l = ab_rd m 37 l) := by
  have lp : ∀ (f h k : Nat) (M : ab_M), rk h < f → h ≤ F → (h = t ∨ PB h) → k + rk h ≤ F → fr_M [37, 38] m M → mv_H F w Q u v (hS M) (hT M) h → (∀ a, PB a → rk a < rk h → hT M a = hT m a) → (∀ l, ¬ Q l → ab_rd M 37 l = ab_rd m 37 l) → ab_T Z 38 1 (5, [(0, .inl (.ref 6)), (1, .inl (.int (nI l0))), (2, .inl (.int (nI t))), (3, .inl (.int (nI h))), (4, .inl (.int (nI k)))], [], M) (fun r m9 => r = none ∧ fr_M [37, 38] m m9 ∧ hu_M F w (fun l => Q l ∨ l = l0) u v (hS m9) (hT m9) ∧ ∀ l, ¬ Q l → l ≠ l0 → ab_rd m9 37 l = ab_rd m 37 l) := by
    intro f
    induction f with
    | zero => intro h k M h0; omega
    | succ f ih =>
      intro h k M hf hhF hh hk hfr hH hold hS0
      have eb : ab_rd M 6 13 = nI F := by rw [hfr.rdi (by decide)]; exact hb
      have hlt : ¬ ab_rd M 6 13 < nI k := by rw [eb]; exact nI_nlt (by omega) (by omega)
      have ih25 := ab_in (n := h) (N := 25) (by omega) (by decide)
      have ch := ab_cl (n := h) (by omega)
      have eB : ab_rd M 42 h = ab_rd m 42 h := hfr.rdi (by decide) h
      rcases path h hh with ⟨p1, p2⟩ | ⟨a, l, p1, p2, p3, p4, p5, p6, p7⟩
      · have p1 : ab_rd m 42 h = -1 := p1
        refine tk_Matcher_moveUp_5_0 hlt (nI_m1 (by omega)) ih25 (by rw [ch, eB]; exact p1) ⟨(by decide : 0 < 1), ct_Matcher_sit hZ hF eb hl0 hhF⟩ ?_
        rw [ch, eB, p1, nI_1]
        have fin : (none : Option Int32) = none ∧ fr_M [37, 38] m (hm_sit M F l0 h) ∧ hu_M F w (fun l => Q l ∨ l = l0) u v (hS (hm_sit M F l0 h)) (hT (hm_sit M F l0 h)) ∧ ∀ l, ¬ Q l → l ≠ l0 → ab_rd (hm_sit M F l0 h) 37 l = ab_rd m 37 l := by
          refine ⟨rfl, hfr.trans (hm_sit_fr M F l0 h), ⟨fun l hl => ?_, fun s hs => ?_⟩, fun l h1 h2 => ?_⟩
          · rw [hS_sit M (by omega)]
            by_cases e : l = l0
            · rw [if_pos e]
              refine ⟨h, hhF, rfl, by rw [e]; exact p2, fun z => ?_⟩
              rw [hT_sit M hl0, if_pos ⟨rfl, by omega⟩, e]
            · rw [if_neg e]
              obtain ⟨s, z1, z2, z3, z4⟩ := hH.1 l (hl.resolve_right e)
              refine ⟨s, z1, z2, z3, fun z => ?_⟩
              rw [hT_sit M hl0, if_neg (fun y => (z4 z).1 y.1)]
              exact (z4 z).2
          · rw [hT_sit M hl0]
            by_cases e : s = h
            · rw [if_pos ⟨e, by omega⟩]
              exact Or.inr ⟨l0, Or.inr rfl, rfl, by rw [hS_sit M (by omega), if_pos rfl, e]⟩
            · rw [if_neg (fun z => e z.1)]
              rcases hH.2 s hs e with z | ⟨l, z1, z2, z3⟩
              · exact Or.inl z
              · refine Or.inr ⟨l, Or.inl z1, z2, ?_⟩
                rw [hS_sit M (by omega), if_neg (fun y => hn0 (by rw [← y]; exact z1))]
                exact z3
          · rw [hm_sit_S, if_neg h2]
            exact hS0 l h1
        by_cases q : ab_rd (hm_sit M F l0 h) 6 13 < nI (k + 1)
        · exact tk_Matcher_moveUp_5_3 q fin
        · exact tk_Matcher_moveUp_5_2 q rfl fin
      · have hl := hQ l p5
        have p3 : ab_rd m 42 h = nI a := p3
        have eT : ab_rd M 38 a = nI l := by
          rw [in_I (by omega)]
          exact (hold a p1 p2).trans p6
        have ca := ab_cl (n := a) (by omega)
        refine tk_Matcher_moveUp_5_1 hlt (nI_m1 (by omega)) ih25 (by rw [ch, eB, p3]; exact nI_m1 (by omega)) (by rw [ch, eB, p3]; exact ab_in (by omega) (by decide)) ⟨(by decide : 0 < 1), (by rw [ch, eB, p3, ca, eT]; exact ct_Matcher_sit hZ hF eb hl hhF)⟩ ?_
        rw [ch, eB, p3, nI_1]
        have hah : a ≠ h := fun e => by rw [e] at p2; omega
        have Ta : hT M a = l := (hold a p1 p2).trans p6
        have Sl : hS M l = a := by
          rcases hH.2 a p4 hah with z | ⟨l', z1, z2, z3⟩
          · omega
          · have : l' = l := by omega
            rw [← this]
            exact z3
        refine ih a (k + 1) _ (by omega) (by omega) (Or.inr p1) (by omega) (hfr.trans (hm_sit_fr M F l h)) ⟨fun l' hl' => ?_, fun s hs hsa => ?_⟩ (fun b hb1 hb2 => ?_) (fun l' hl' => ?_)
        · rw [hS_sit M (by omega)]
          by_cases e : l' = l
          · rw [if_pos e]
            refine ⟨h, hhF, rfl, by rw [e]; exact p7, fun z => ⟨fun y => hah y.symm, ?_⟩⟩
            rw [hT_sit M hl, if_pos ⟨rfl, by omega⟩, e]
          · rw [if_neg e]
            obtain ⟨s, z1, z2, z3, z4⟩ := hH.1 l' hl'
            refine ⟨s, z1, z2, z3, fun z => ⟨fun y => ?_, ?_⟩⟩
            · have := (z4 z).2
              rw [y, Ta] at this
              omega
            · rw [hT_sit M hl, if_neg (fun y => (z4 z).1 y.1)]
              exact (z4 z).2
        · rw [hT_sit M hl]
          by_cases e : s = h
          · rw [if_pos ⟨e, by omega⟩]
            exact Or.inr ⟨l, p5, rfl, by rw [hS_sit M (by omega), if_pos rfl, e]⟩
          · rw [if_neg (fun z => e z.1)]
            rcases hH.2 s hs e with z | ⟨l', z1, z2, z3⟩
            · exact Or.inl z
            · refine Or.inr ⟨l', z1, z2, ?_⟩
              rw [hS_sit M (by omega), if_neg (fun y => ?_)]
              · exact z3
              · rw [y, Sl] at z3
                omega
        · rw [hT_sit M hl, if_neg (fun z => ?_)]
          · exact hold b hb1 (by omega)
          · rw [z.1] at hb2
            omega
        · rw [hm_sit_S, if_neg (fun z => hl' (by rw [z]; exact p5))]
          exact hS0 l' hl'
  refine ab_Ki hZ (tk_Matcher_moveUp_0_0 (lp (rk t + 1) t 0 m (by omega) ht (Or.inl rfl) (by omega) (fr_M.refl _ m) ⟨fun l hl => ?_, fun s hs _ => hM.2 s hs⟩ (fun a _ _ => rfl) (fun l _ => rfl))) (fun r m1 h => by rw [h.1]; trivial) (by decide) (Nat.le_of_ble_eq_true rfl)
  obtain ⟨s, z1, z2, z3, z4⟩ := hM.1 l hl
  refine ⟨s, z1, z2, z3, fun z => ⟨fun y => ?_, z4 z⟩⟩
  have := z4 z
  rw [y] at this
  omega
