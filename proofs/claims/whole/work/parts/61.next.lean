/-! ===== the class's matcher: the leaves, the next seat ===== -/
def fr_M (S : List Nat) (m M : ab_M) : Prop := (∀ p, p ∉ S → M.1 p = m.1 p) ∧ ∀ p, M.2 p = m.2 p
theorem fr_M.refl (S : List Nat) (m : ab_M) : fr_M S m m := ⟨fun _ _ => rfl, fun _ => rfl⟩
theorem fr_M.trans {S : List Nat} {m m1 m2 : ab_M} (h : fr_M S m m1) (g : fr_M S m1 m2) : fr_M S m m2 := ⟨fun p hp => (g.1 p hp).trans (h.1 p hp), fun p => (g.2 p).trans (h.2 p)⟩
theorem fr_M.mono {S T : List Nat} {m m1 : ab_M} (h : fr_M S m m1) (hST : ∀ p ∈ S, p ∈ T) : fr_M T m m1 := ⟨fun p hp => h.1 p (fun q => hp (hST p q)), h.2⟩
theorem fr_M.wr {S : List Nat} {m M : ab_M} (h : fr_M S m M) {p : Nat} (hp : p ∈ S) (i : Nat) (x : Int32) : fr_M S m (ab_wr M p i x) := ⟨fun q hq => (ab_wr_n M i x (fun (e : q = p) => hq (by rw [e]; exact hp))).trans (h.1 q hq), h.2⟩
theorem fr_M.rd {S : List Nat} {m M : ab_M} (h : fr_M S m M) {p : Nat} (hp : p ∉ S) : ab_rd M p = ab_rd m p := h.1 p hp
theorem fr_M.rdi {S : List Nat} {m M : ab_M} (h : fr_M S m M) {p : Nat} (hp : p ∉ S) (i : Nat) : ab_rd M p i = ab_rd m p i := congrFun (h.1 p hp) i
abbrev hU (m : ab_M) (l : Nat) : Int := (ab_rd m 39 l).toInt
abbrev hV (m : ab_M) (s : Nat) : Int := (ab_rd m 40 s).toInt
abbrev hS (m : ab_M) (l : Nat) : Int := (ab_rd m 37 l).toInt
abbrev hT (m : ab_M) (s : Nat) : Int := (ab_rd m 38 s).toInt
abbrev hW (m : ab_M) (l s : Nat) : Int := (ab_rd m 34 (l * 25 + s)).toInt
abbrev hL (m : ab_M) (s : Nat) : Int := (ab_rd m 41 s).toInt
abbrev hB (m : ab_M) (s : Nat) : Int32 := ab_rd m 42 s
theorem nI_m1 {n : Nat} (h : n < 2 ^ 31) : ¬ nI n = -1 := fun z => by
  rw [ab_eqI, nI_toInt h, ab_m1] at z
  omega
/-- an int that is a number -/
theorem in_I {x : Int32} {n : Nat} (hn : n < 2 ^ 31) : x = nI n ↔ x.toInt = n := by rw [ab_eqI, nI_toInt hn]
theorem ct_Matcher_slack {Z : ab_Z} (hZ : ab_okZ Z) {l s : Nat} {m : ab_M} (hl : l < 24) (hs : s ≤ 24) (bW : 0 ≤ hW m l s ∧ hW m l s ≤ 1000000) (bU : 0 ≤ hU m l ∧ hU m l ≤ 1000) (bV : -1000 ≤ hV m s ∧ hV m s ≤ 0) : ∃ v : Int32, ab_C Z 0 31 [.inl (.ref 6), .inl (.int (nI l)), .inl (.int (nI s))] m (some v) m ∧ v.toInt = hW m l s - hU m l - hV m s := by
  have il := ab_in (n := l) (N := 24) hl (by decide)
  have is := ab_in (n := s) (N := 25) (by omega) (by decide)
  refine ⟨ab_rd m 34 (l * 25 + s) - ab_rd m 39 l - ab_rd m 40 s, ab_Kc hZ (tk_Matcher_slack_0_0 il ⟨il, is⟩ il is ⟨?_, rfl⟩) trivial (by decide) (Nat.le_of_ble_eq_true rfl), ?_⟩
  · rw [ab_cl (by omega), ab_cl (by omega)]
  · have bW : 0 ≤ (ab_rd m 34 (l * 25 + s)).toInt ∧ (ab_rd m 34 (l * 25 + s)).toInt ≤ 1000000 := bW
    have bU : 0 ≤ (ab_rd m 39 l).toInt ∧ (ab_rd m 39 l).toInt ≤ 1000 := bU
    have bV : -1000 ≤ (ab_rd m 40 s).toInt ∧ (ab_rd m 40 s).toInt ≤ 0 := bV
    have e : (ab_rd m 34 (l * 25 + s) - ab_rd m 39 l).toInt = (ab_rd m 34 (l * 25 + s)).toInt - (ab_rd m 39 l).toInt := ab_subI (by omega) (by omega)
    rw [ab_subI (by omega) (by omega), e]
theorem ct_Matcher_isEmpty {Z : ab_Z} (hZ : ab_okZ Z) {s F : Nat} {m : ab_M} (hF : F ≤ 24) (hb : ab_rd m 6 13 = nI F) (hs : s ≤ F) : ab_C Z 0 32 [.inl (.ref 6), .inl (.int (nI s))] m (some (ab_b (s = F ∨ ab_rd m 38 s = -1))) m := by
  refine ab_Kc hZ ?_ (ab_b_zk _) (by decide) (Nat.le_of_ble_eq_true rfl)
  by_cases e : s = F
  · exact tk_Matcher_isEmpty_0_2 (by rw [hb, e]) ⟨congrArg some (ab_b_t (Or.inl e)).symm, rfl⟩
  · have n1 : ¬ nI s = ab_rd m 6 13 := fun z => by
      rw [hb] at z
      exact e ((nI_eq (by omega) (by omega)).mp z)
    have is := ab_in (n := s) (N := 24) (by omega) (by decide)
    by_cases q : ab_rd m 38 s = -1
    · exact tk_Matcher_isEmpty_0_0 n1 is (by rw [ab_cl (by omega)]; exact q) ⟨congrArg some (ab_b_t (Or.inr q)).symm, rfl⟩
    · exact tk_Matcher_isEmpty_0_1 n1 is (by rw [ab_cl (by omega)]; exact q) ⟨congrArg some (ab_b_f (fun z => z.elim e q)).symm, rfl⟩
/-- a loss sits -/
def hm_sit (m : ab_M) (F l s : Nat) : ab_M := if s = F then ab_wr m 37 l (nI s) else ab_wr (ab_wr m 37 l (nI s)) 38 s (nI l)
theorem hm_sit_fr (m : ab_M) (F l s : Nat) : fr_M [37, 38] m (hm_sit m F l s) := by
  unfold hm_sit
  by_cases e : s = F
  · rw [if_pos e]
    exact (fr_M.refl _ m).wr (by decide) _ _
  · rw [if_neg e]
    exact ((fr_M.refl _ m).wr (by decide) _ _).wr (by decide) _ _
theorem hm_sit_S (m : ab_M) (F l s j : Nat) : ab_rd (hm_sit m F l s) 37 j = if j = l then nI s else ab_rd m 37 j := by
  unfold hm_sit
  by_cases e : s = F
  · rw [if_pos e, ab_rd_p]
  · rw [if_neg e, ab_rd_n _ _ _ _ (by decide), ab_rd_p]
theorem hm_sit_T (m : ab_M) (F l s j : Nat) : ab_rd (hm_sit m F l s) 38 j = if j = s ∧ s ≠ F then nI l else ab_rd m 38 j := by
  unfold hm_sit
  by_cases e : s = F
  · rw [if_pos e, ab_rd_n _ _ _ _ (by decide), if_neg (fun z => z.2 e)]
  · rw [if_neg e, ab_rd_p, ab_rd_n _ _ _ _ (by decide)]
    by_cases q : j = s
    · rw [if_pos q, if_pos ⟨q, e⟩]
    · rw [if_neg q, if_neg (fun z => q z.1)]
theorem ct_Matcher_sit {Z : ab_Z} (hZ : ab_okZ Z) {l s F : Nat} {m : ab_M} (hF : F ≤ 24) (hb : ab_rd m 6 13 = nI F) (hl : l < 24) (hs : s ≤ F) : ab_C Z 0 33 [.inl (.ref 6), .inl (.int (nI l)), .inl (.int (nI s))] m none (hm_sit m F l s) := by
  refine ab_Kv hZ ?_ trivial (by decide) (Nat.le_of_ble_eq_true rfl)
  have il := ab_in (n := l) (N := 24) hl (by decide)
  unfold hm_sit
  by_cases e : s = F
  · rw [if_pos e]
    refine tk_Matcher_sit_0_1 il (by show nI s = ab_rd m 6 13; rw [hb, e]) ⟨rfl, ?_⟩
    rw [ab_cl (by omega)]
  · rw [if_neg e]
    refine tk_Matcher_sit_0_0 il (fun z => ?_) (ab_in (by omega) (by decide)) ⟨rfl, ?_⟩
    · have z : nI s = ab_rd m 6 13 := z
      rw [hb] at z
      exact e ((nI_eq (by omega) (by omega)).mp z)
    · rw [ab_cl (by omega), ab_cl (by omega)]
theorem ct_Matcher_leaveEmpty {Z : ab_Z} (hZ : ab_okZ Z) {s F : Nat} {m : ab_M} (hF : F ≤ 24) (hb : ab_rd m 6 13 = nI F) (hs : s ≤ F) : ab_C Z 0 34 [.inl (.ref 6), .inl (.int (nI s))] m none (if s = F then m else ab_wr m 38 s (-1)) := by
  refine ab_Kv hZ ?_ trivial (by decide) (Nat.le_of_ble_eq_true rfl)
  by_cases e : s = F
  · rw [if_pos e]
    exact tk_Matcher_leaveEmpty_0_1 (by rw [hb, e]) ⟨rfl, rfl⟩
  · rw [if_neg e]
    refine tk_Matcher_leaveEmpty_0_0 (fun z => ?_) (ab_in (by omega) (by decide)) ⟨rfl, ?_⟩
    · rw [hb] at z
      exact e ((nI_eq (by omega) (by omega)).mp z)
    · rw [ab_cl (by omega)]
/-- what the search for the next seat has noted for the seats below i -/
def ns_P (m : ab_M) (l B : Nat) (x : Int32) (M : ab_M) (i : Nat) : Prop := fr_M [41, 42] m M ∧ ∀ s, (s < i ∧ ¬ B.testBit s = true → hL M s = min (hL m s) (hW m l s - hU m l - hV m s) ∧ hB M s = if hW m l s - hU m l - hV m s < hL m s then x else hB m s) ∧ (¬ (s < i ∧ ¬ B.testBit s = true) → ab_rd M 41 s = ab_rd m 41 s ∧ hB M s = hB m s)
theorem ct_Matcher_nextSeat {Z : ab_Z} (hZ : ab_okZ Z) {m : ab_M} {F l B : Nat} {x : Int32} (hF : F ≤ 24) (hb : ab_rd m 6 13 = nI F) (hl : l < 24) (hB2 : B < 2 ^ 24) (hBF : ∀ s, B.testBit s = true → s < F) (bd : ∀ s, s ≤ F → 0 ≤ hW m l s ∧ hW m l s ≤ 1000000 ∧ -1000 ≤ hV m s ∧ hV m s ≤ 0) (bU : 0 ≤ hU m l ∧ hU m l ≤ 1000) : ab_K Z 1 36 [.inl (.ref 6), .inl (.int (nI l)), .inl (.int x), .inl (.int (nI B))] m (fun r m9 => ∃ t, t ≤ F ∧ ¬ B.testBit t = true ∧ r = some (nI t) ∧ ns_P m l B x m9 (F + 1) ∧ ∀ s, s ≤ F → ¬ B.testBit s = true → hL m9 t ≤ hL m9 s) := by
  have nF : ¬ B.testBit F = true := fun z => by
    have := hBF F z
    omega
  have lp : ∀ (k i t : Nat) (M : ab_M), i + k = F + 1 → ns_P m l B x M i → t ≤ F → ¬ B.testBit t = true → (t = F ∨ t < i) → (∀ s, s < i → ¬ B.testBit s = true → hL M t ≤ hL M s) → ab_T Z 36 1 (9, [(0, .inl (.ref 6)), (1, .inl (.int (nI l))), (2, .inl (.int x)), (3, .inl (.int (nI B))), (4, .inl (.int (nI t))), (5, .inl (.int (nI i)))], [], M) (fun r m9 => ∃ t, t ≤ F ∧ ¬ B.testBit t = true ∧ r = some (nI t) ∧ ns_P m l B x m9 (F + 1) ∧ ∀ s, s ≤ F → ¬ B.testBit s = true → hL m9 t ≤ hL m9 s) := by
    intro k
    induction k with
    | zero =>
      intro i t M hi hM ht htB hti hmin
      have hi : i = F + 1 := by omega
      subst hi
      have eb : ab_rd M 6 13 = nI F := by rw [hM.1.rdi (by decide)]; exact hb
      exact tk_Matcher_nextSeat_9_5 (by rw [eb]; exact nI_lt (by omega) (by omega)) ⟨t, ht, htB, rfl, hM, fun s hs hsB => hmin s (by omega) hsB⟩
    | succ k ih =>
      intro i t M hi hM ht htB hti hmin
      have eb : ab_rd M 6 13 = nI F := by rw [hM.1.rdi (by decide)]; exact hb
      have hlt : ¬ ab_rd M 6 13 < nI i := by rw [eb]; exact nI_nlt (by omega) (by omega)
      have bit := bt_bit0 (n := B) (j := i) (by omega) (by omega)
      have ii := ab_in (n := i) (N := 25) (by omega) (by decide)
      have it := ab_in (n := t) (N := 25) (by omega) (by decide)
      have ci := ab_cl (n := i) (by omega)
      have ct := ab_cl (n := t) (by omega)
      by_cases q : B.testBit i = true
      · refine tk_Matcher_nextSeat_9_0 hlt (fun z => bit.mp z q) ?_
        rw [nI_1]
        refine ih (i + 1) t M (by omega) ⟨hM.1, fun s => ⟨fun h => (hM.2 s).1 ⟨?_, h.2⟩, fun h => (hM.2 s).2 (fun z => h ⟨by omega, z.2⟩)⟩⟩ ht htB (by omega) (fun s hs hsB => ?_)
        · have : s ≠ i := fun z => h.2 (by rw [z]; exact q)
          omega
        · have : s ≠ i := fun z => hsB (by rw [z]; exact q)
          exact hmin s (by omega) hsB
      · have b1 := bd i (by omega)
        have eW : hW M l i = hW m l i := by
          show (ab_rd M 34 (l * 25 + i)).toInt = _
          rw [hM.1.rdi (by decide)]
        have eU : hU M l = hU m l := by
          show (ab_rd M 39 l).toInt = _
          rw [hM.1.rdi (by decide)]
        have eV : hV M i = hV m i := by
          show (ab_rd M 40 i).toInt = _
          rw [hM.1.rdi (by decide)]
        obtain ⟨v, hC, hv⟩ := ct_Matcher_slack hZ (l := l) (s := i) (m := M) hl (by omega) (by omega) (by omega) (by omega)
        rw [eW, eU, eV] at hv
        obtain ⟨o1, o2⟩ := (hM.2 i).2 (fun z => by omega)
        have o1' : hL M i = hL m i := by
          show (ab_rd M 41 i).toInt = _
          rw [o1]
        by_cases q1 : ab_rd M 41 i ≤ v
        · have q1' : hL M i ≤ v.toInt := (ab_leI _ _).mp q1
          have hM' : ns_P m l B x M (i + 1) := ⟨hM.1, fun s => ⟨fun h => ?_, fun h => (hM.2 s).2 (fun z => h ⟨by omega, z.2⟩)⟩⟩
          · by_cases q2 : ab_rd M 41 t ≤ ab_rd M 41 i
            · refine tk_Matcher_nextSeat_9_4 hlt (bit.mpr q) ⟨(by decide : 0 < 1), hC⟩ ii (by rw [ci]; exact q1) ii it (by rw [ci, ct]; exact q2) ?_
              rw [nI_1]
              refine ih (i + 1) t M (by omega) hM' ht htB (by omega) (fun s hs hsB => ?_)
              by_cases e : s = i
              · rw [e]
                exact (ab_leI _ _).mp q2
              · exact hmin s (by omega) hsB
            · refine tk_Matcher_nextSeat_9_3 hlt (bit.mpr q) ⟨(by decide : 0 < 1), hC⟩ ii (by rw [ci]; exact q1) ii it (by rw [ci, ct]; exact q2) ?_
              rw [nI_1]
              refine ih (i + 1) i M (by omega) hM' (by omega) q (by omega) (fun s hs hsB => ?_)
              by_cases e : s = i
              · rw [e]
                exact Int.le_refl _
              · have := hmin s (by omega) hsB
                have q2' : ¬ hL M t ≤ hL M i := fun z => q2 ((ab_leI _ _).mpr z)
                omega
          · by_cases e : s = i
            · subst e
              rw [if_neg (by omega)]
              exact ⟨by omega, o2⟩
            · exact (hM.2 s).1 ⟨by omega, h.2⟩
        · have q1' : ¬ hL M i ≤ v.toInt := fun z => q1 ((ab_leI _ _).mpr z)
          have rL : ∀ s, ab_rd (ab_wr (ab_wr M 41 i v) 42 i x) 41 s = if s = i then v else ab_rd M 41 s := fun s => by rw [ab_rd_n _ _ _ _ (by decide), ab_rd_p]
          have rB : ∀ s, ab_rd (ab_wr (ab_wr M 41 i v) 42 i x) 42 s = if s = i then x else ab_rd M 42 s := fun s => by rw [ab_rd_p, ab_rd_n _ _ _ _ (by decide)]
          have hM' : ns_P m l B x (ab_wr (ab_wr M 41 i v) 42 i x) (i + 1) := by
            refine ⟨(hM.1.wr (by decide) _ _).wr (by decide) _ _, fun s => ⟨fun h => ?_, fun h => ?_⟩⟩
            · show (ab_rd _ 41 s).toInt = _ ∧ ab_rd _ 42 s = _
              rw [rL, rB]
              by_cases e : s = i
              · subst e
                rw [if_pos rfl, if_pos rfl, if_pos (by omega)]
                exact ⟨by omega, rfl⟩
              · rw [if_neg e, if_neg e]
                exact (hM.2 s).1 ⟨by omega, h.2⟩
            · have e : s ≠ i := fun e => h ⟨by omega, by rw [e]; exact q⟩
              show ab_rd _ 41 s = _ ∧ ab_rd _ 42 s = _
              rw [rL, rB, if_neg e, if_neg e]
              exact (hM.2 s).2 (fun z => h ⟨by omega, z.2⟩)
          have rt : ab_rd (ab_wr M 41 i v) 41 t = if t = i then v else ab_rd M 41 t := ab_rd_p _ _ _ _ _
          by_cases q2 : (if t = i then v else ab_rd M 41 t) ≤ v
          · refine tk_Matcher_nextSeat_9_2 hlt (bit.mpr q) ⟨(by decide : 0 < 1), hC⟩ ii (by rw [ci]; exact q1) ii ii ii it (by rw [ci, ct, ab_rd_s, rt]; exact q2) ?_
            rw [nI_1, ci]
            refine ih (i + 1) t _ (by omega) hM' ht htB (by omega) (fun s hs hsB => ?_)
            show (ab_rd _ 41 t).toInt ≤ (ab_rd _ 41 s).toInt
            rw [rL, rL]
            by_cases e : s = i
            · rw [if_pos e]
              exact (ab_leI _ _).mp q2
            · rw [if_neg e]
              have h1 := hmin s (by omega) hsB
              by_cases e2 : t = i
              · subst e2
                rw [if_pos rfl]
                show v.toInt ≤ hL M s
                omega
              · rw [if_neg e2]
                exact h1
          · refine tk_Matcher_nextSeat_9_1 hlt (bit.mpr q) ⟨(by decide : 0 < 1), hC⟩ ii (by rw [ci]; exact q1) ii ii ii it (by rw [ci, ct, ab_rd_s, rt]; exact q2) ?_
            rw [nI_1, ci]
            refine ih (i + 1) i _ (by omega) hM' (by omega) q (by omega) (fun s hs hsB => ?_)
            show (ab_rd _ 41 i).toInt ≤ (ab_rd _ 41 s).toInt
            rw [rL, rL, if_pos rfl]
            by_cases e : s = i
            · rw [if_pos e]
              exact Int.le_refl _
            · rw [if_neg e]
              have h1 := hmin s (by omega) hsB
              by_cases e2 : t = i
              · rw [if_pos e2] at q2
                exact absurd (Int32.le_refl _) q2
              · rw [if_neg e2, ab_leI] at q2
                have q2 : ¬ hL M t ≤ v.toInt := q2
                show v.toInt ≤ hL M s
                omega
  refine ab_Ki hZ (tk_Matcher_nextSeat_0_0 ?_) (fun r m1 h => by obtain ⟨t, -, -, rfl, -⟩ := h; trivial) (by decide) (Nat.le_of_ble_eq_true rfl)
  rw [hb]
  exact lp (F + 1) 0 F m (by omega) ⟨fr_M.refl _ m, fun s => ⟨fun h => by omega, fun _ => ⟨rfl, rfl⟩⟩⟩ (Nat.le_refl _) nF (Or.inl rfl) (fun s hs => by omega)
