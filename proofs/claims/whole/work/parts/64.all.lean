/-! ===== the class's matcher: all losses ===== -/
theorem ct_J_fill_39 {Z : ab_Z} (hZ : ab_okZ Z) {m : ab_M} {v : Int32} : ab_C Z 0 146 [.inl (.ref 39), .inl (.int v)] m none (lp_f m 39 0 24 (fun _ _ => v)) := by
  have lp : ∀ (k i : Nat), i + k = 24 → ab_T Z 146 0 (5, [(0, .inl (.ref 39)), (1, .inl (.int v)), (2, .inl (.int (nI i))), (3, .inl (.int (Int32.ofNat 24)))], [], lp_f m 39 0 i (fun _ _ => v)) (fun r m9 => r = none ∧ m9 = lp_f m 39 0 24 (fun _ _ => v)) := by
    intro k
    induction k with
    | zero =>
      intro i hi
      have hi : i = 24 := by omega
      subst hi
      exact tk_J_fill39_5_1 (Int32.le_refl _) ⟨rfl, rfl⟩
    | succ k ih =>
      intro i hi
      refine tk_J_fill39_5_0 (nI_ge (b := 24) (by omega) (by decide)) (ab_in (by omega) (by decide)) ?_
      rw [ab_cl (by omega), nI_1]
      have := lp_f_s m 39 0 i (fun _ _ => v) (v := v) rfl
      rw [Nat.zero_add] at this
      rw [this]
      exact ih (i + 1) (by omega)
  refine ab_Kv hZ (tk_J_fill39_0_0 ?_) trivial (by decide) (Nat.le_of_ble_eq_true rfl)
  have := lp 24 0 rfl
  rw [lp_f_0] at this
  exact this
theorem ct_J_fill_40 {Z : ab_Z} (hZ : ab_okZ Z) {m : ab_M} {v : Int32} : ab_C Z 0 146 [.inl (.ref 40), .inl (.int v)] m none (lp_f m 40 0 25 (fun _ _ => v)) := by
  have lp : ∀ (k i : Nat), i + k = 25 → ab_T Z 146 0 (5, [(0, .inl (.ref 40)), (1, .inl (.int v)), (2, .inl (.int (nI i))), (3, .inl (.int (Int32.ofNat 25)))], [], lp_f m 40 0 i (fun _ _ => v)) (fun r m9 => r = none ∧ m9 = lp_f m 40 0 25 (fun _ _ => v)) := by
    intro k
    induction k with
    | zero =>
      intro i hi
      have hi : i = 25 := by omega
      subst hi
      exact tk_J_fill40_5_1 (Int32.le_refl _) ⟨rfl, rfl⟩
    | succ k ih =>
      intro i hi
      refine tk_J_fill40_5_0 (nI_ge (b := 25) (by omega) (by decide)) (ab_in (by omega) (by decide)) ?_
      rw [ab_cl (by omega), nI_1]
      have := lp_f_s m 40 0 i (fun _ _ => v) (v := v) rfl
      rw [Nat.zero_add] at this
      rw [this]
      exact ih (i + 1) (by omega)
  refine ab_Kv hZ (tk_J_fill40_0_0 ?_) trivial (by decide) (Nat.le_of_ble_eq_true rfl)
  have := lp 25 0 rfl
  rw [lp_f_0] at this
  exact this
theorem ct_J_fill_38 {Z : ab_Z} (hZ : ab_okZ Z) {m : ab_M} {v : Int32} : ab_C Z 0 146 [.inl (.ref 38), .inl (.int v)] m none (lp_f m 38 0 24 (fun _ _ => v)) := by
  have lp : ∀ (k i : Nat), i + k = 24 → ab_T Z 146 0 (5, [(0, .inl (.ref 38)), (1, .inl (.int v)), (2, .inl (.int (nI i))), (3, .inl (.int (Int32.ofNat 24)))], [], lp_f m 38 0 i (fun _ _ => v)) (fun r m9 => r = none ∧ m9 = lp_f m 38 0 24 (fun _ _ => v)) := by
    intro k
    induction k with
    | zero =>
      intro i hi
      have hi : i = 24 := by omega
      subst hi
      exact tk_J_fill38_5_1 (Int32.le_refl _) ⟨rfl, rfl⟩
    | succ k ih =>
      intro i hi
      refine tk_J_fill38_5_0 (nI_ge (b := 24) (by omega) (by decide)) (ab_in (by omega) (by decide)) ?_
      rw [ab_cl (by omega), nI_1]
      have := lp_f_s m 38 0 i (fun _ _ => v) (v := v) rfl
      rw [Nat.zero_add] at this
      rw [this]
      exact ih (i + 1) (by omega)
  refine ab_Kv hZ (tk_J_fill38_0_0 ?_) trivial (by decide) (Nat.le_of_ble_eq_true rfl)
  have := lp 24 0 rfl
  rw [lp_f_0] at this
  exact this
theorem ct_J_fill_37 {Z : ab_Z} (hZ : ab_okZ Z) {m : ab_M} {v : Int32} : ab_C Z 0 146 [.inl (.ref 37), .inl (.int v)] m none (lp_f m 37 0 24 (fun _ _ => v)) := by
  have lp : ∀ (k i : Nat), i + k = 24 → ab_T Z 146 0 (5, [(0, .inl (.ref 37)), (1, .inl (.int v)), (2, .inl (.int (nI i))), (3, .inl (.int (Int32.ofNat 24)))], [], lp_f m 37 0 i (fun _ _ => v)) (fun r m9 => r = none ∧ m9 = lp_f m 37 0 24 (fun _ _ => v)) := by
    intro k
    induction k with
    | zero =>
      intro i hi
      have hi : i = 24 := by omega
      subst hi
      exact tk_J_fill37_5_1 (Int32.le_refl _) ⟨rfl, rfl⟩
    | succ k ih =>
      intro i hi
      refine tk_J_fill37_5_0 (nI_ge (b := 24) (by omega) (by decide)) (ab_in (by omega) (by decide)) ?_
      rw [ab_cl (by omega), nI_1]
      have := lp_f_s m 37 0 i (fun _ _ => v) (v := v) rfl
      rw [Nat.zero_add] at this
      rw [this]
      exact ih (i + 1) (by omega)
  refine ab_Kv hZ (tk_J_fill37_0_0 ?_) trivial (by decide) (Nat.le_of_ble_eq_true rfl)
  have := lp 24 0 rfl
  rw [lp_f_0] at this
  exact this
theorem fr_M.lp {S : List Nat} {m M : ab_M} (h : fr_M S m M) {p : Nat} (hp : p ∈ S) (a n : Nat) (g : Nat → Int32 → Int32) : fr_M S m (lp_f M p a n g) := ⟨fun q hq => (lp_f_n M a n g (fun (e : q = p) => hq (by rw [e]; exact hp))).trans (h.1 q hq), h.2⟩
/-- who takes part -/
def hu_Q (m : ab_M) (i l : Nat) : Prop := l < i ∧ ¬ ab_rd m 35 l = 0
theorem hu_F.cong {F : Nat} {w : Nat → Nat → Int} {Q R : Nat → Prop} {u v : Nat → Int} (h : hu_F F w Q u v) (e : ∀ l, R l → Q l) : hu_F F w R u v := ⟨fun l hl => h.1 l (e l hl), fun l s hl => h.2.1 l s (e l hl), h.2.2.1, h.2.2.2⟩
theorem hu_M.cong {F : Nat} {w : Nat → Nat → Int} {Q R : Nat → Prop} {u v S T : Nat → Int} (h : hu_M F w Q u v S T) (e : ∀ l, Q l ↔ R l) : hu_M F w R u v S T := ⟨fun l hl => h.1 l ((e l).mpr hl), fun s hs => (h.2 s hs).imp id (fun ⟨l, z1, z2⟩ => ⟨l, (e l).mp z1, z2⟩)⟩
theorem ct_Matcher_seatAll {Z : ab_Z} (hZ : ab_okZ Z) {m : ab_M} {n F : Nat} {w : Nat → Nat → Int} (hn : n ≤ 24) (hF : F ≤ 24) (hc : ab_rd m 6 12 = nI n) (hb : ab_rd m 6 13 = nI F) (hw : ∀ l s, hu_Q m n l → s ≤ F → hW m l s = w l s ∧ 0 ≤ w l s ∧ w l s ≤ 1000000) (hg : ∀ l, hu_Q m n l → w l F ≤ 100) : ab_K Z 3 29 [.inl (.ref 6)] m (fun r m9 => r = none ∧ fr_M [37, 38, 39, 40, 41, 42] m m9 ∧ hu_F F w (hu_Q m n) (hU m9) (hV m9) ∧ hu_M F w (hu_Q m n) (hU m9) (hV m9) (hS m9) (hT m9) ∧ ∀ l, l < 24 → ¬ hu_Q m n l → ab_rd m9 37 l = -1) := by
  have lp : ∀ (k i : Nat) (M : ab_M), i + k = n → fr_M [37, 38, 39, 40, 41, 42] m M → hu_F F w (hu_Q m i) (hU M) (hV M) → hu_M F w (hu_Q m i) (hU M) (hV M) (hS M) (hT M) → (∀ l, l < 24 → ¬ hu_Q m i l → hU M l = 0 ∧ ab_rd M 37 l = -1) → ab_T Z 29 3 (34, [(0, .inl (.ref 6)), (1, .inl (.int (nI i)))], [], M) (fun r m9 => r = none ∧ fr_M [37, 38, 39, 40, 41, 42] m m9 ∧ hu_F F w (hu_Q m n) (hU m9) (hV m9) ∧ hu_M F w (hu_Q m n) (hU m9) (hV m9) (hS m9) (hT m9) ∧ ∀ l, l < 24 → ¬ hu_Q m n l → ab_rd m9 37 l = -1) := by
    intro k
    induction k with
    | zero =>
      intro i M hi h1 h2 h3 h4
      have hi : i = n := by omega
      subst hi
      have ec : ab_rd M 6 12 = nI i := by rw [h1.rdi (by decide)]; exact hc
      exact tk_Matcher_seatAll_34_2 (by rw [ec]; exact Int32.le_refl _) ⟨rfl, h1, h2, h3, fun l hl hq => (h4 l hl hq).2⟩
    | succ k ih =>
      intro i M hi h1 h2 h3 h4
      have ec : ab_rd M 6 12 = nI n := by rw [h1.rdi (by decide)]; exact hc
      have hlt : ¬ ab_rd M 6 12 ≤ nI i := by rw [ec]; exact nI_ge (by omega) (by omega)
      have ii := ab_in (n := i) (N := 24) (by omega) (by decide)
      have ci := ab_cl (n := i) (by omega)
      have eo : ab_rd M 35 i = ab_rd m 35 i := h1.rdi (by decide) i
      by_cases q : ab_rd m 35 i = 0
      · have e : ∀ l, hu_Q m i l ↔ hu_Q m (i + 1) l := fun l => by
          unfold hu_Q
          constructor
          · intro h
            exact ⟨by omega, h.2⟩
          · intro h
            have : l ≠ i := fun z => h.2 (by rw [z]; exact q)
            exact ⟨by omega, h.2⟩
        refine tk_Matcher_seatAll_34_1 hlt ii (by rw [ci, eo]; exact q) ?_
        rw [nI_1]
        exact ih (i + 1) M (by omega) h1 (h2.cong (fun l h => (e l).mpr h)) (h3.cong e) (fun l hl hq => h4 l hl (fun z => hq ((e l).mp z)))
      · have e : ∀ l, (hu_Q m i l ∨ l = i) ↔ hu_Q m (i + 1) l := fun l => by
          unfold hu_Q
          constructor
          · rintro (h | h)
            · exact ⟨by omega, h.2⟩
            · rw [h]
              exact ⟨by omega, q⟩
          · intro h
            by_cases z : l = i
            · exact Or.inr z
            · exact Or.inl ⟨by omega, h.2⟩
        have up : ∀ l, hu_Q m (i + 1) l → hu_Q m n l := fun l h => ⟨by have := h.1; omega, h.2⟩
        obtain ⟨r, M1, hC, hr, g1, g2, g3, g4⟩ := ct_Matcher_seatOne hZ (m := M) (F := F) (l0 := i) (w := w) (Q := hu_Q m i) hF (by rw [h1.rdi (by decide)]; exact hb) (fun l h => by have := h.1; omega) (by omega) (fun h => by have := h.1; omega) (fun l s hl hs => by
          have := hw l s (up l ((e l).mp hl)) hs
          have eW : hW M l s = hW m l s := by
            show (ab_rd M 34 (l * 25 + s)).toInt = _
            rw [h1.rdi (by decide)]
          rw [eW]
          exact this) (fun l hl => hg l (up l ((e l).mp hl))) h2 h3 (fun l hl hq => (h4 l hl hq).1)
        rw [hr] at hC
        refine tk_Matcher_seatAll_34_0 hlt ii (by rw [ci, eo]; exact q) ⟨(by decide : 2 < 3), hC⟩ ?_
        rw [nI_1]
        refine ih (i + 1) M1 (by omega) (h1.trans g1) (g2.cong (fun l h => (e l).mpr h)) (g3.cong e) (fun l hl hq => ?_)
        have q1 : ¬ hu_Q m i l := fun z => hq ((e l).mp (Or.inl z))
        have q2 : l ≠ i := fun z => hq ((e l).mp (Or.inr z))
        have := g4 l hl q1 q2
        rw [this.2]
        exact ⟨this.1, (h4 l hl q1).2⟩
  refine ab_Ki hZ (tk_Matcher_seatAll_0_0 ⟨(by decide : 0 < 3), ct_J_fill_39 hZ⟩ ⟨(by decide : 0 < 3), ct_J_fill_40 hZ⟩ ⟨(by decide : 0 < 3), ct_J_fill_38 hZ⟩ ⟨(by decide : 0 < 3), ct_J_fill_37 hZ⟩ ?_) (fun r m1 h => by rw [h.1]; trivial) (by decide) (Nat.le_of_ble_eq_true rfl)
  generalize hM : lp_f (lp_f (lp_f (lp_f m 39 0 24 (fun _ _ => 0)) 40 0 25 (fun _ _ => 0)) 38 0 24 (fun _ _ => -1)) 37 0 24 (fun _ _ => -1) = M
  have rU : ∀ l, l < 24 → hU M l = 0 := fun l hl => by
    show (ab_rd M 39 l).toInt = 0
    rw [← hM, lp_f_rn _ _ _ _ (by decide), lp_f_rn _ _ _ _ (by decide), lp_f_rn _ _ _ _ (by decide), lp_f_rd, if_pos (by omega)]
    rfl
  have rV : ∀ s, s ≤ 24 → hV M s = 0 := fun s hs => by
    show (ab_rd M 40 s).toInt = 0
    rw [← hM, lp_f_rn _ _ _ _ (by decide), lp_f_rn _ _ _ _ (by decide), lp_f_rd, if_pos (by omega)]
    rfl
  have rT : ∀ s, s < 24 → hT M s = -1 := fun s hs => by
    show (ab_rd M 38 s).toInt = -1
    rw [← hM, lp_f_rn _ _ _ _ (by decide), lp_f_rd, if_pos (by omega)]
    rfl
  have rS : ∀ l, l < 24 → ab_rd M 37 l = -1 := fun l hl => by
    rw [← hM, lp_f_rd, if_pos (by omega)]
  have nq : ∀ l, ¬ hu_Q m 0 l := fun l h => by have := h.1; omega
  refine lp n 0 M (by omega) (by rw [← hM]; exact ((((fr_M.refl _ m).lp (by decide) _ _ _).lp (by decide) _ _ _).lp (by decide) _ _ _).lp (by decide) _ _ _) ⟨fun l hl => absurd hl (nq l), fun l s hl => absurd hl (nq l), fun s hs => by rw [rV s (by omega)]; exact Int.le_refl _, rV F hF⟩ ⟨fun l hl => absurd hl (nq l), fun s hs => Or.inl ⟨rT s (by omega), rV s (by omega)⟩⟩ (fun l hl _ => ⟨rU l hl, rS l hl⟩)
/-- what a seating costs -/
theorem ct_Matcher_seatingCost {Z : ab_Z} (hZ : ab_okZ Z) {m : ab_M} {n F : Nat} {Q : Nat → Prop} [DecidablePred Q] {v : Nat → Nat} (hn : n ≤ 24) (hF : F ≤ 24) (hc : ab_rd m 6 12 = nI n) (h1 : ∀ l, l < n → Q l → v l ≤ F ∧ ab_rd m 37 l = nI (v l) ∧ 0 ≤ hW m l (v l) ∧ hW m l (v l) ≤ 1000000) (h2 : ∀ l, l < n → ¬ Q l → ab_rd m 37 l = -1) : ∃ c : Int32, ab_C Z 0 30 [.inl (.ref 6)] m (some c) m ∧ c.toInt = sg_cost n Q (hW m) v := by
  have key : ab_K Z 0 30 [.inl (.ref 6)] m (fun r m9 => (∃ c : Int32, r = some c ∧ c.toInt = sg_cost n Q (hW m) v) ∧ m9 = m) := by
    have lp : ∀ (k i : Nat) (c : Int32), i + k = n → c.toInt = sg_sum (fun l => if Q l then hW m l (v l) else 0) i → 0 ≤ c.toInt → c.toInt ≤ 1000000 * (i : Int) → ab_T Z 30 0 (4, [(0, .inl (.ref 6)), (1, .inl (.int c)), (2, .inl (.int (nI i)))], [], m) (fun r m9 => (∃ c : Int32, r = some c ∧ c.toInt = sg_cost n Q (hW m) v) ∧ m9 = m) := by
      intro k
      induction k with
      | zero =>
        intro i c hi h3 h4 h5
        have hi : i = n := by omega
        subst hi
        exact tk_Matcher_seatingCost_4_2 (by rw [hc]; exact Int32.le_refl _) ⟨⟨c, rfl, h3⟩, rfl⟩
      | succ k ih =>
        intro i c hi h3 h4 h5
        have hlt : ¬ ab_rd m 6 12 ≤ nI i := by rw [hc]; exact nI_ge (by omega) (by omega)
        have ii := ab_in (n := i) (N := 24) (by omega) (by decide)
        have ci := ab_cl (n := i) (by omega)
        by_cases q : Q i
        · obtain ⟨g1, g2, g3, g4⟩ := h1 i (by omega) q
          have cv := ab_cl (n := v i) (by omega)
          refine tk_Matcher_seatingCost_4_0 hlt ii (by rw [ci, g2]; exact nI_m1 (by omega)) ii ⟨ii, (by rw [ci, g2]; exact ab_in (by omega) (by decide))⟩ ?_
          rw [ci, g2, cv, nI_1]
          have g3 : 0 ≤ (ab_rd m 34 (i * 25 + v i)).toInt := g3
          have g4 : (ab_rd m 34 (i * 25 + v i)).toInt ≤ 1000000 := g4
          have es : (c + ab_rd m 34 (i * 25 + v i)).toInt = c.toInt + (ab_rd m 34 (i * 25 + v i)).toInt := ab_addI (by omega) (by omega)
          refine ih (i + 1) _ (by omega) ?_ (by omega) (by omega)
          show _ = sg_sum (fun l => if Q l then hW m l (v l) else 0) i + (if Q i then hW m i (v i) else 0)
          rw [if_pos q, es, h3]
        · refine tk_Matcher_seatingCost_4_1 hlt ii (by rw [ci]; exact h2 i (by omega) q) ?_
          rw [nI_1]
          refine ih (i + 1) c (by omega) ?_ h4 (by omega)
          show _ = sg_sum (fun l => if Q l then hW m l (v l) else 0) i + (if Q i then hW m i (v i) else 0)
          rw [if_neg q, h3]
          omega
    exact ab_Ki hZ (tk_Matcher_seatingCost_0_0 (lp n 0 0 (by omega) rfl (by decide) (by decide))) (fun r m1 h => by obtain ⟨⟨v, rfl, -⟩, -⟩ := h; trivial) (by decide) (Nat.le_of_ble_eq_true rfl)
  obtain ⟨r, m1, hC, ⟨c, hr, hv⟩, hm⟩ := key
  rw [hr, hm] at hC
  exact ⟨c, hC, hv⟩
