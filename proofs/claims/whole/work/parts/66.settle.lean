/-! ===== the class's matcher: settling ===== -/
theorem lead_full {n F : Nat} {op : Nat → Prop} [DecidablePred op] {w : Nat → Nat → Int} {u v : Nat → Int} {c x : Nat → Nat} (h : du_ok n F op w u v c) (hx : in_ok n F op x) (xt : ∀ k, k < n → op k → u k + v (x k) = w k (x k)) (xh : ∀ t, t < F → v t ≠ 0 → ∃ k, k < n ∧ op k ∧ x k = t) {l : Nat} (hl : l < n) (ho : op l) (agree : ∀ k, k < l → op k → x k = c k) {R : Nat → Prop} [DecidablePred R] (hR : R (c l)) (cl : ∀ a b, a ≤ F → b ≤ F → ¬ R a → R b → ¬ ((a = F ∨ ¬ ∃ k, k < n ∧ op k ∧ c k = a) ∧ v b = 0) ∧ ∀ k, l < k → k < n → op k → c k = a → ¬ u k + v b = w k b) : R (x l) := by
  by_cases hxl : R (x l)
  · exact hxl
  · exfalso
    have vF := h.2.2.2.2.2
    have far : ∀ k, l < k → k < n → op k → ¬ R (c k) → ¬ R (x k) := fun k h1 h2 h3 h4 h5 => (cl (c k) (x k) (h.1.1 k h2 h3) (hx.1 k h2 h3) h4 h5).2 k h1 h2 h3 rfl (xt k h2 h3)
    by_cases q : R F
    · have e1 := in_eq (n := n) (f := fun s => if R s then (0 : Int) else 1) h.1 (if_pos q) (fun s hs hf => by
        have hns : ¬ R s := fun z => hf (if_pos z)
        by_cases y : ∃ k, k < n ∧ op k ∧ c k = s
        · exact y
        · exact absurd ⟨Or.inr y, vF⟩ (cl s F (by omega) (Nat.le_refl _) hns q).1)
      have e2 := in_le (n := n) (f := fun s => if R s then (0 : Int) else 1) hx (if_pos q) (fun s _ => by
        show (0 : Int) ≤ if R s then 0 else 1
        by_cases y : R s
        · rw [if_pos y]
          exact Int.le_refl _
        · rw [if_neg y]
          decide)
      have e3 := sm_lt (a := l) (n := n) (f := fun k => if op k then (fun s => if R s then (0 : Int) else 1) (c k) else 0) (g := fun k => if op k then (fun s => if R s then (0 : Int) else 1) (x k) else 0) (fun k hk => by
        show (if op k then (if R (c k) then (0 : Int) else 1) else 0) ≤ (if op k then (if R (x k) then (0 : Int) else 1) else 0)
        by_cases o : op k
        · rw [if_pos o, if_pos o]
          rcases Nat.lt_trichotomy k l with z | z | z
          · rw [agree k z o]
            exact Int.le_refl _
          · rw [z, if_pos hR, if_neg hxl]
            decide
          · by_cases y : R (c k)
            · rw [if_pos y]
              by_cases y2 : R (x k)
              · rw [if_pos y2]
                exact Int.le_refl _
              · rw [if_neg y2]
                decide
            · rw [if_neg y, if_neg (far k z hk o y)]
              exact Int.le_refl _
        · rw [if_neg o, if_neg o]
          exact Int.le_refl _) hl (by
        show (if op l then (if R (c l) then (0 : Int) else 1) else 0) < (if op l then (if R (x l) then (0 : Int) else 1) else 0)
        rw [if_pos ho, if_pos ho, if_pos hR, if_neg hxl]
        decide)
      exact absurd (Int.lt_of_lt_of_le e3 e2) (Int.not_lt.mpr (Int.le_of_eq e1.symm))
    · have e1 := in_eq (n := n) (f := fun s => if R s then (1 : Int) else 0) hx (if_neg q) (fun s hs hf => by
        have hns : R s := by
          by_cases z : R s
          · exact z
          · exact absurd (if_neg z) hf
        exact xh s hs (fun y => (cl F s (Nat.le_refl _) (by omega) q hns).1 ⟨Or.inl rfl, y⟩))
      have e2 := in_le (n := n) (f := fun s => if R s then (1 : Int) else 0) h.1 (if_neg q) (fun s _ => by
        show (0 : Int) ≤ if R s then 1 else 0
        by_cases y : R s
        · rw [if_pos y]
          decide
        · rw [if_neg y]
          exact Int.le_refl _)
      have e3 := sm_lt (a := l) (n := n) (f := fun k => if op k then (fun s => if R s then (1 : Int) else 0) (x k) else 0) (g := fun k => if op k then (fun s => if R s then (1 : Int) else 0) (c k) else 0) (fun k hk => by
        show (if op k then (if R (x k) then (1 : Int) else 0) else 0) ≤ (if op k then (if R (c k) then (1 : Int) else 0) else 0)
        by_cases o : op k
        · rw [if_pos o, if_pos o]
          rcases Nat.lt_trichotomy k l with z | z | z
          · rw [agree k z o]
            exact Int.le_refl _
          · rw [z, if_pos hR, if_neg hxl]
            decide
          · by_cases y : R (c k)
            · rw [if_pos y]
              by_cases y2 : R (x k)
              · rw [if_pos y2]
                exact Int.le_refl _
              · rw [if_neg y2]
                decide
            · rw [if_neg y, if_neg (far k z hk o y)]
              exact Int.le_refl _
        · rw [if_neg o, if_neg o]
          exact Int.le_refl _) hl (by
        show (if op l then (if R (x l) then (1 : Int) else 0) else 0) < (if op l then (if R (c l) then (1 : Int) else 0) else 0)
        rw [if_pos ho, if_pos ho, if_pos hR, if_neg hxl]
        decide)
      exact absurd (Int.lt_of_lt_of_le e3 e2) (Int.not_lt.mpr (Int.le_of_eq e1.symm))
/-- the seats as numbers -/
def hu_s (m : ab_M) (l : Nat) : Nat := (hS m l).toNat
theorem hu_du {m : ab_M} {n F : Nat} {w : Nat → Nat → Int} {Q : Nat → Prop} {u v : Nat → Int} (hQ : ∀ l, Q l → l < n) (h1 : hu_F F w Q u v) (h2 : hu_M F w Q u v (hS m) (hT m)) : du_ok n F Q w u v (hu_s m) := by
  have e : ∀ (l s : Nat), hS m l = s → hu_s m l = s := fun l s h => by
    unfold hu_s
    rw [h]
    rfl
  refine ⟨⟨fun l _ hl => ?_, fun l l' _ _ hl hl' he hs => ?_⟩, fun l _ hl => ?_, fun l t _ hl ht => h1.2.1 l t hl ht, h1.2.2.1, fun t ht hv => ?_, h1.2.2.2⟩
  · obtain ⟨s, z1, z2, -⟩ := h2.1 l hl
    rw [e l s z2]
    exact z1
  · obtain ⟨s, z1, z2, z3, z4⟩ := h2.1 l hl
    obtain ⟨s', y1, y2, y3, y4⟩ := h2.1 l' hl'
    rw [e l s z2, e l' s' y2] at he
    rw [e l s z2] at hs
    have a1 := z4 hs
    have a2 := y4 (by omega)
    rw [← he] at a2
    omega
  · obtain ⟨s, z1, z2, z3, -⟩ := h2.1 l hl
    rw [e l s z2]
    exact z3
  · rcases h2.2 t ht with ⟨-, z⟩ | ⟨l, z1, z2, z3⟩
    · exact absurd z hv
    · exact ⟨l, hQ l z1, z1, e l t z3⟩
/-- the state of a round of moves at seat t: one loss is in the air, the home is to be filled -/
def mr_I (m : ab_M) (F l home start : Nat) (w : Nat → Nat → Int) (Q : Nat → Prop) (u v : Nat → Int) (R : Nat → Prop) (rk : Nat → Nat) (t : Nat) (M : ab_M) : Prop :=
  fr_M [37, 38] m M ∧ (∀ s, R s → rk s < rk t → hT M s = hT m s) ∧ (∀ (k s : Nat), Q k → k ≠ l → hS m k = s → R s → rk s ≤ rk t → hS M k = hS m k) ∧
  (∀ k : Nat, Q k → ¬ ab_rd m 43 t = nI k → ∃ s : Nat, s ≤ F ∧ hS M k = s ∧ u k + v s = w k s ∧ (s < F → s ≠ home ∧ hT M s = k)) ∧
  (∀ s : Nat, s < F → s ≠ home → (hT M s = -1 ∧ v s = 0) ∨ ∃ k : Nat, Q k ∧ ¬ ab_rd m 43 t = nI k ∧ hT M s = k ∧ hS M k = s) ∧
  (∀ k, (k < l ∨ ¬ Q k) → ab_rd M 37 k = ab_rd m 37 k) ∧ hS M l = start
theorem ct_Matcher_moveRound {Z : ab_Z} (hZ : ab_okZ Z) {m : ab_M} {F l home start : Nat} {w : Nat → Nat → Int} {Q R : Nat → Prop} {rk : Nat → Nat} (hF : F ≤ 24) (hb : ab_rd m 6 13 = nI F) (hQ : ∀ l, Q l → l < 24) (hl : Q l) (hM : hu_M F w Q (hU m) (hV m) (hS m) (hT m)) (hhome : hS m l = home) (hh : home ≤ F) (hst : start < home) (hR : R start) (htight : hU m l + hV m start = w l start) (hRF : ∀ s, R s → s ≤ F ∧ rk s ≤ F) (chain : ∀ s, R s → s ≠ home → ∃ b, R b ∧ rk b < rk s ∧ ab_rd m 44 s = nI b ∧ fm_Y m F w Q l s b (ab_rd m 43 s)) : ab_K Z 1 43 [.inl (.ref 6), .inl (.int (nI l)), .inl (.int (nI start)), .inl (.int (nI home))] m (fun r m9 => r = none ∧ fr_M [37, 38] m m9 ∧ hu_M F w Q (hU m) (hV m) (hS m9) (hT m9) ∧ (∀ k, (k < l ∨ ¬ Q k) → ab_rd m9 37 k = ab_rd m 37 k) ∧ hS m9 l = start) := by
  have l24 := hQ l hl
  -- what is known of the first seating
  have sitO : ∀ (k s : Nat), Q k → s < F → hT m s = k → hS m k = s := fun k s h1 h2 h3 => by
    rcases hM.2 s h2 with ⟨z, -⟩ | ⟨k', z1, z2, z3⟩
    · omega
    · have : k' = k := by omega
      rw [← this]
      exact z3
  have sitT : ∀ (k s : Nat), Q k → s < F → hS m k = s → hT m s = k := fun k s h1 h2 h3 => by
    obtain ⟨s', z1, z2, z3, z4⟩ := hM.1 k h1
    have : s' = s := by omega
    subst this
    exact z4 h2
  -- whoever sat at a seat of the chain is the one in the air there
  have airO : ∀ (b k : Nat), R b → b ≠ home → b < F → Q k → hT m b = k → ab_rd m 43 b = nI k := fun b k h1 h2 h3 h4 h5 => by
    obtain ⟨b', -, -, -, hy⟩ := chain b h1 h2
    rcases hy with ⟨-, z, -⟩ | ⟨k', z1, -, z2, z3, -⟩
    · omega
    · have := sitT k' b z2 h3 z3
      have : k' = k := by omega
      rw [z1, this]
  have airS : ∀ (b k : Nat), R b → b ≠ home → k < 24 → ab_rd m 43 b = nI k → l < k ∧ Q k ∧ hS m k = b := fun b k h1 h2 h3 h4 => by
    obtain ⟨b', -, -, -, hy⟩ := chain b h1 h2
    rcases hy with ⟨z, -⟩ | ⟨k', z1, z0, z2, z3, -⟩
    · rw [z] at h4
      exact absurd h4.symm (nI_m1 (by omega))
    · rw [z1] at h4
      have := hQ k' z2
      have e : k' = k := (nI_eq (by omega) (by omega)).mp h4
      rw [← e]
      exact ⟨z0, z2, z3⟩
  have lp : ∀ (f t k : Nat) (M : ab_M), rk t < f → R t → t ≠ home → k + rk t ≤ F → mr_I m F l home start w Q (hU m) (hV m) R rk t M → ab_T Z 43 1 (12, [(0, .inl (.ref 6)), (1, .inl (.int (nI l))), (2, .inl (.int (nI start))), (3, .inl (.int (nI home))), (4, .inl (.int (nI t))), (5, .inl (.int (nI k)))], [], M) (fun r m9 => r = none ∧ fr_M [37, 38] m m9 ∧ hu_M F w Q (hU m) (hV m) (hS m9) (hT m9) ∧ (∀ k, (k < l ∨ ¬ Q k) → ab_rd m9 37 k = ab_rd m 37 k) ∧ hS m9 l = start) := by
    intro f
    induction f with
    | zero => intro t k M h0; omega
    | succ f ih =>
      intro t k M hf hRt hth hk hI
      obtain ⟨c1, c2, c3, c4, c5, c6, c7⟩ := hI
      have htF := (hRF t hRt).1
      have eb : ab_rd M 6 13 = nI F := by rw [c1.rdi (by decide)]; exact hb
      have hlt : ¬ ab_rd M 6 13 < nI k := by rw [eb]; exact nI_nlt (by omega) (by omega)
      have hne : ¬ nI t = nI home := fun z => hth ((nI_eq (by omega) (by omega)).mp z)
      have it := ab_in (n := t) (N := 25) (by omega) (by decide)
      have ct := ab_cl (n := t) (by omega)
      obtain ⟨b, hRb, hrb, ea, hy⟩ := chain t hRt hth
      have hbF := (hRF b hRb).1
      have ea' : ab_rd M 44 t = nI b := by rw [c1.rdi (by decide)]; exact ea
      have em : ab_rd M 43 t = ab_rd m 43 t := c1.rdi (by decide) t
      have hbt : b ≠ t := fun e => by rw [e] at hrb; omega
      -- the row behind: home is reached or not
      have go : ∀ M' : ab_M, (b = home → (fr_M [37, 38] m M' ∧ hu_M F w Q (hU m) (hV m) (hS M') (hT M') ∧ (∀ k, (k < l ∨ ¬ Q k) → ab_rd M' 37 k = ab_rd m 37 k) ∧ hS M' l = start)) → (b ≠ home → mr_I m F l home start w Q (hU m) (hV m) R rk b M') → ab_T Z 43 1 (12, [(0, .inl (.ref 6)), (1, .inl (.int (nI l))), (2, .inl (.int (nI start))), (3, .inl (.int (nI home))), (4, .inl (.int (nI b))), (5, .inl (.int (nI k + 1)))], [], M') (fun r m9 => r = none ∧ fr_M [37, 38] m m9 ∧ hu_M F w Q (hU m) (hV m) (hS m9) (hT m9) ∧ (∀ k, (k < l ∨ ¬ Q k) → ab_rd m9 37 k = ab_rd m 37 k) ∧ hS m9 l = start) := by
        intro M' g1 g2
        rw [nI_1]
        by_cases e : b = home
        · by_cases q : ab_rd M' 6 13 < nI (k + 1)
          · exact tk_Matcher_moveRound_12_3 q ⟨rfl, g1 e⟩
          · exact tk_Matcher_moveRound_12_2 q (by rw [e]) ⟨rfl, g1 e⟩
        · exact ih b (k + 1) M' (by omega) hRb e (by omega) (g2 e)
      rcases hy with ⟨y1, y2, y3⟩ | ⟨k1, y1, y2, y3, y4, y5⟩
      · -- nobody comes: the seat behind is left empty
        have nair : ∀ k : Nat, Q k → ¬ ab_rd m 43 t = nI k := fun k hk z => by
          rw [y1] at z
          exact nI_m1 (by have := hQ k hk; omega) z.symm
        refine tk_Matcher_moveRound_12_0 hlt hne it it (by rw [ct, em]; exact y1) ⟨(by decide : 0 < 1), (by rw [ct, ea']; exact ct_Matcher_leaveEmpty hZ hF eb hbF)⟩ ?_
        rw [ct, ea']
        generalize hM' : (if b = F then M else ab_wr M 38 b (-1)) = M'
        have fr' : fr_M [37, 38] m M' := by
          rw [← hM']
          by_cases e : b = F
          · rw [if_pos e]
            exact c1
          · rw [if_neg e]
            exact c1.wr (by decide) _ _
        have rS : ∀ j, ab_rd M' 37 j = ab_rd M 37 j := fun j => by
          rw [← hM']
          by_cases e : b = F
          · rw [if_pos e]
          · rw [if_neg e, ab_rd_n _ _ _ _ (by decide)]
        have rS' : ∀ j, hS M' j = hS M j := fun j => by
          show (ab_rd M' 37 j).toInt = _
          rw [rS]
        have rT : ∀ j, hT M' j = if j = b ∧ b ≠ F then -1 else hT M j := fun j => by
          show (ab_rd M' 38 j).toInt = _
          rw [← hM']
          by_cases e : b = F
          · rw [if_pos e, if_neg (fun z => z.2 e)]
          · rw [if_neg e, ab_rd_p]
            by_cases z : j = b
            · rw [if_pos z, if_pos ⟨z, e⟩]
              rfl
            · rw [if_neg z, if_neg (fun y => z y.1)]
        refine go M' (fun e => ⟨fr', ⟨fun k' hk' => ?_, fun s hs => ?_⟩, fun k' hk' => by rw [rS]; exact c6 k' hk', by rw [rS']; exact c7⟩) (fun e => ⟨fr', fun s hs1 hs2 => ?_, fun k' s h1 h2 h3 h4 h5 => by rw [rS']; exact c3 k' s h1 h2 h3 h4 (by omega), fun k' hk' hn => ?_, fun s hs hsh => ?_, fun k' hk' => by rw [rS]; exact c6 k' hk', by rw [rS']; exact c7⟩)
        · obtain ⟨s, z1, z2, z3, z4⟩ := c4 k' hk' (nair k' hk')
          refine ⟨s, z1, by rw [rS']; exact z2, z3, fun z => ?_⟩
          rw [rT, if_neg (fun y => (z4 z).1 (by rw [y.1, e]))]
          exact (z4 z).2
        · rw [rT]
          by_cases q : s = home
          · rw [if_pos ⟨by rw [q, e], by omega⟩]
            exact Or.inl ⟨rfl, by rw [q, ← e]; exact y3⟩
          · rw [if_neg (fun y => q (by rw [y.1, e]))]
            rcases c5 s hs q with z | ⟨k', z1, z2, z3, z4⟩
            · exact Or.inl z
            · exact Or.inr ⟨k', z1, z3, by rw [rS']; exact z4⟩
        · rw [rT, if_neg (fun y => by rw [y.1] at hs2; omega)]
          exact c2 s hs1 (by omega)
        · obtain ⟨s, z1, z2, z3, z4⟩ := c4 k' hk' (nair k' hk')
          refine ⟨s, z1, by rw [rS']; exact z2, z3, fun z => ⟨(z4 z).1, ?_⟩⟩
          rw [rT, if_neg]
          · exact (z4 z).2
          · rintro ⟨y, -⟩
            have := (z4 z).2
            rw [y, c2 b hRb hrb] at this
            exact hn (airO b k' hRb e (by omega) hk' this)
        · rw [rT]
          by_cases q : s = b
          · rw [if_pos ⟨q, by omega⟩]
            exact Or.inl ⟨rfl, by rw [q]; exact y3⟩
          · rw [if_neg (fun y => q y.1)]
            rcases c5 s hs hsh with z | ⟨k', z1, z2, z3, z4⟩
            · exact Or.inl z
            · refine Or.inr ⟨k', z1, fun y => ?_, z3, by rw [rS']; exact z4⟩
              have := airS b k' hRb e (hQ k' z1) y
              have h3 := c3 k' b z1 (by omega) this.2.2 hRb (by omega)
              omega
      · -- somebody moves on
        have k24 := hQ k1 y3
        have uniq : ∀ k : Nat, Q k → (ab_rd m 43 t = nI k ↔ k = k1) := fun k hk => by
          have := hQ k hk
          rw [y1]
          exact ⟨fun z => ((nI_eq (by omega) (by omega)).mp z).symm, fun z => by rw [z]⟩
        refine tk_Matcher_moveRound_12_1 hlt hne it it (by rw [ct, em, y1]; exact nI_m1 (by omega)) it ⟨(by decide : 0 < 1), (by rw [ct, em, ea', y1]; exact ct_Matcher_sit hZ hF eb k24 hbF)⟩ ?_
        rw [ct, ea']
        have fr' := c1.trans (hm_sit_fr M F k1 b)
        have rS := fun j => hm_sit_S M F k1 b j
        have rS' := fun j => hS_sit M (F := F) (l := k1) (s := b) (by omega) j
        have rT := fun j => hT_sit M (F := F) (l := k1) (s := b) k24 j
        refine go _ (fun e => ⟨fr', ⟨fun k' hk' => ?_, fun s hs => ?_⟩, fun k' hk' => ?_, ?_⟩) (fun e => ⟨fr', fun s hs1 hs2 => ?_, fun k' s h1 h2 h3 h4 h5 => ?_, fun k' hk' hn => ?_, fun s hs hsh => ?_, fun k' hk' => ?_, ?_⟩)
        · rw [rS']
          by_cases q : k' = k1
          · rw [if_pos q]
            refine ⟨b, hbF, rfl, by rw [q]; exact y5, fun z => ?_⟩
            rw [rT, if_pos ⟨rfl, by omega⟩, q]
          · rw [if_neg q]
            obtain ⟨s, z1, z2, z3, z4⟩ := c4 k' hk' (fun z => q ((uniq k' hk').mp z))
            refine ⟨s, z1, z2, z3, fun z => ?_⟩
            rw [rT, if_neg (fun y => (z4 z).1 (by rw [y.1, e]))]
            exact (z4 z).2
        · rw [rT]
          by_cases q : s = home
          · rw [if_pos ⟨by rw [q, e], by omega⟩]
            exact Or.inr ⟨k1, y3, rfl, by rw [rS', if_pos rfl, q, e]⟩
          · rw [if_neg (fun y => q (by rw [y.1, e]))]
            rcases c5 s hs q with z | ⟨k', z1, z2, z3, z4⟩
            · exact Or.inl z
            · refine Or.inr ⟨k', z1, z3, ?_⟩
              rw [rS', if_neg (fun y => z2 ((uniq k' z1).mpr y))]
              exact z4
        · rw [rS, if_neg (fun y => by
            rcases hk' with z | z
            · omega
            · exact z (by rw [y]; exact y3))]
          exact c6 k' hk'
        · rw [rS', if_neg (by omega)]
          exact c7
        · rw [rT, if_neg (fun y => by rw [y.1] at hs2; omega)]
          exact c2 s hs1 (by omega)
        · rw [rS', if_neg]
          · exact c3 k' s h1 h2 h3 h4 (by omega)
          · intro y
            rw [y, y4] at h3
            have : s = t := by omega
            rw [this] at h5
            omega
        · rw [rS']
          by_cases q : k' = k1
          · rw [if_pos q]
            refine ⟨b, hbF, rfl, by rw [q]; exact y5, fun z => ⟨e, ?_⟩⟩
            rw [rT, if_pos ⟨rfl, by omega⟩, q]
          · rw [if_neg q]
            obtain ⟨s, z1, z2, z3, z4⟩ := c4 k' hk' (fun z => q ((uniq k' hk').mp z))
            refine ⟨s, z1, z2, z3, fun z => ⟨(z4 z).1, ?_⟩⟩
            rw [rT, if_neg]
            · exact (z4 z).2
            · rintro ⟨y, -⟩
              have := (z4 z).2
              rw [y, c2 b hRb hrb] at this
              exact hn (airO b k' hRb e (by omega) hk' this)
        · rw [rT]
          by_cases q : s = b
          · rw [if_pos ⟨q, by omega⟩]
            refine Or.inr ⟨k1, y3, fun z => ?_, rfl, by rw [rS', if_pos rfl, q]⟩
            have := (airS b k1 hRb e k24 z).2.2
            omega
          · rw [if_neg (fun y => q y.1)]
            rcases c5 s hs hsh with z | ⟨k', z1, z2, z3, z4⟩
            · exact Or.inl z
            · refine Or.inr ⟨k', z1, fun y => ?_, z3, ?_⟩
              · have := airS b k' hRb e (hQ k' z1) y
                have h3 := c3 k' b z1 (by omega) this.2.2 hRb (by omega)
                omega
              · rw [rS', if_neg (fun y => z2 ((uniq k' z1).mpr y))]
                exact z4
        · rw [rS, if_neg (fun y => by
            rcases hk' with z | z
            · omega
            · exact z (by rw [y]; exact y3))]
          exact c6 k' hk'
        · rw [rS', if_neg (by omega)]
          exact c7
  refine ab_Ki hZ (tk_Matcher_moveRound_0_0 ⟨(by decide : 0 < 1), ct_Matcher_sit hZ hF hb l24 (by omega)⟩ (lp (rk start + 1) start 0 _ (by omega) hR (by omega) (by have := (hRF start hR).2; omega) ?_)) (fun r m1 h => by rw [h.1]; trivial) (by decide) (Nat.le_of_ble_eq_true rfl)
  have rS := fun j => hm_sit_S m F l start j
  have rS' := fun j => hS_sit m (F := F) (l := l) (s := start) (by omega) j
  have rT := fun j => hT_sit m (F := F) (l := l) (s := start) l24 j
  refine ⟨hm_sit_fr m F l start, fun s hs1 hs2 => ?_, fun k' s h1 h2 h3 h4 h5 => ?_, fun k' hk' hn => ?_, fun s hs hsh => ?_, fun k' hk' => ?_, ?_⟩
  · rw [rT, if_neg (fun y => by rw [y.1] at hs2; omega)]
  · rw [rS', if_neg h2]
  · rw [rS']
    by_cases q : k' = l
    · rw [if_pos q]
      refine ⟨start, by omega, rfl, by rw [q]; exact htight, fun z => ⟨by omega, ?_⟩⟩
      rw [rT, if_pos ⟨rfl, by omega⟩, q]
    · rw [if_neg q]
      obtain ⟨s, z1, z2, z3, z4⟩ := hM.1 k' hk'
      refine ⟨s, z1, z2, z3, fun z => ⟨fun y => ?_, ?_⟩⟩
      · have a1 := z4 z
        have a2 := sitT l home hl (by omega) hhome
        rw [y] at a1
        omega
      · rw [rT, if_neg]
        · exact z4 z
        · rintro ⟨y, -⟩
          have a1 := z4 z
          rw [y] at a1
          exact hn (airO start k' hR (by omega) (by omega) hk' a1)
  · rw [rT]
    by_cases q : s = start
    · rw [if_pos ⟨q, by omega⟩]
      refine Or.inr ⟨l, hl, fun z => ?_, rfl, by rw [rS', if_pos rfl, q]⟩
      have := (airS start l hR (by omega) l24 z).1
      omega
    · rw [if_neg (fun y => q y.1)]
      rcases hM.2 s hs with z | ⟨k', z1, z2, z3⟩
      · exact Or.inl z
      · refine Or.inr ⟨k', z1, fun y => ?_, z2, ?_⟩
        · have := (airS start k' hR (by omega) (hQ k' z1) y).2.2
          omega
        · rw [rS', if_neg (fun y => by rw [y, hhome] at z3; omega)]
          exact z3
  · rw [rS]
    by_cases q : k' = l
    · rcases hk' with z | z
      · omega
      · exact absurd (by rw [q]; exact hl) z
    · rw [if_neg q]
  · rw [rS', if_pos rfl]
