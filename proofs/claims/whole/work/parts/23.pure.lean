/-! ===== what the words of the document are: kinds, ways, costs, matchings ===== -/
/-- shifts as the machine does them -/
def ab_us (x n : Int32) : Int32 := (x.toUInt32 >>> (n.toUInt32 &&& Int32.toUInt32 31)).toInt32
/-- Integer.bitCount -/
def bc_a (x : Int32) : Int32 := x - (ab_us x 1 &&& 1431655765)
def bc_b (x : Int32) : Int32 := (bc_a x &&& 858993459) + (ab_us (bc_a x) 2 &&& 858993459)
def bc_c (x : Int32) : Int32 := (bc_b x + ab_us (bc_b x) 4) &&& 252645135
def bc_d (x : Int32) : Int32 := bc_c x + ab_us (bc_c x) 8
def bc_e (x : Int32) : Int32 := bc_d x + ab_us (bc_d x) 16
def ab_bc (x : Int32) : Int32 := bc_e x &&& 63
theorem ct_J_bitCount {Z : ab_Z} (hZ : ab_okZ Z) (x : Int32) (m : ab_M) : ab_C Z 0 141 [.inl (.int x)] m (some (ab_bc x)) m :=
  ab_Kc hZ (tk_J_bitCount_0_0 ⟨rfl, rfl⟩) trivial (by decide) (Nat.le_of_ble_eq_true rfl)
theorem ab_bc_le (x : Int32) : 0 ≤ (ab_bc x).toInt ∧ (ab_bc x).toInt ≤ 63 := by
  obtain ⟨j, hj, e⟩ := pk_andE (bc_e x) (m := 63) 6 (by decide)
  unfold ab_bc
  rw [e, nI_toInt (by omega)]
  omega
/-- from a kind up to another: how many steps -/
def kd_up (up : Nat → Int32) : Nat → Nat → Nat → Option Nat
  | 0, _, _ => none
  | n + 1, k, t => if k = t then some 0 else if up k < 0 then none else (kd_up up n (up k).toNatClampNeg t).map (fun j => j + 1)
/-- the line of a kind, a bit each -/
def kd_line (up : Nat → Int32) : Nat → Nat → Nat
  | 0, _ => 0
  | n + 1, k => 2 ^ k + (if up k < 0 then 0 else kd_line up n (up k).toNatClampNeg)
/-- a tree: each kind but the first is below an earlier one -/
def kd_ok (up : Nat → Int32) (n : Nat) : Prop := ∀ k, k < n → (k = 0 ∧ up k = -1) ∨ ∃ j, j < k ∧ up k = nI j
/-- steps in the line from one to the other -/
def kd_st (up : Nat → Int32) (a b : Nat) : Option Nat := match kd_up up 41 a b with
  | some n => some n
  | none => kd_up up 41 b a
theorem kd_cases {up : Nat → Int32} {n k : Nat} (h : kd_ok up n) (hk : k < n) (hn : n ≤ 2 ^ 30) : (up k < 0 ∧ k = 0 ∧ up k = -1) ∨ (¬ up k < 0 ∧ ∃ j, j < k ∧ up k = nI j ∧ (up k).toNatClampNeg = j) := by
  rcases h k hk with ⟨h0, h1⟩ | ⟨j, hj, h1⟩
  · left
    rw [h1]
    exact ⟨by decide, h0, rfl⟩
  · right
    rw [h1]
    exact ⟨nI_pos (by omega), j, hj, rfl, nI_clamp (by omega)⟩
theorem kd_up_cong {up up' : Nat → Int32} {n : Nat} (h : kd_ok up n) (hn : n ≤ 2 ^ 30) (he : ∀ k, k < n → up' k = up k) (t : Nat) : ∀ (f k : Nat), k < n → kd_up up' f k t = kd_up up f k t
  | 0, _, _ => rfl
  | f + 1, k, hk => by
    unfold kd_up
    rw [he k hk]
    by_cases e : k = t
    · rw [if_pos e, if_pos e]
    · rw [if_neg e, if_neg e]
      rcases kd_cases h hk hn with ⟨h1, -⟩ | ⟨h1, j, hj, -, h2⟩
      · rw [if_pos h1, if_pos h1]
      · rw [if_neg h1, if_neg h1, h2, kd_up_cong h hn he t f j (by omega)]
theorem kd_line_cong {up up' : Nat → Int32} {n : Nat} (h : kd_ok up n) (hn : n ≤ 2 ^ 30) (he : ∀ k, k < n → up' k = up k) : ∀ (f k : Nat), k < n → kd_line up' f k = kd_line up f k
  | 0, _, _ => rfl
  | f + 1, k, hk => by
    unfold kd_line
    rw [he k hk]
    rcases kd_cases h hk hn with ⟨h1, -⟩ | ⟨h1, j, hj, -, h2⟩
    · rw [if_pos h1, if_pos h1]
    · rw [if_neg h1, if_neg h1, h2, kd_line_cong h hn he f j (by omega)]
theorem kd_st_cong {up up' : Nat → Int32} {n a b : Nat} (h : kd_ok up n) (hn : n ≤ 2 ^ 30) (he : ∀ k, k < n → up' k = up k) (ha : a < n) (hb : b < n) : kd_st up' a b = kd_st up a b := by
  unfold kd_st
  rw [kd_up_cong h hn he b 41 a ha, kd_up_cong h hn he a 41 b hb]
/-- more fuel than the number of the kind is enough -/
theorem kd_line_fuel {up : Nat → Int32} {n : Nat} (h : kd_ok up n) (hn : n ≤ 2 ^ 30) : ∀ (k f g : Nat), k < n → k < f → k < g → kd_line up f k = kd_line up g k := by
  intro k
  induction k using Nat.strongRecOn with
  | ind k ih =>
    intro f g hk hf hg
    obtain ⟨f, rfl⟩ : ∃ z, f = z + 1 := ⟨f - 1, by omega⟩
    obtain ⟨g, rfl⟩ : ∃ z, g = z + 1 := ⟨g - 1, by omega⟩
    unfold kd_line
    rcases kd_cases h hk hn with ⟨h1, -⟩ | ⟨h1, j, hj, -, h2⟩
    · rw [if_pos h1, if_pos h1]
    · rw [if_neg h1, if_neg h1, h2, ih j hj f g (by omega) (by omega) (by omega)]
theorem kd_up_fuel {up : Nat → Int32} {n : Nat} (h : kd_ok up n) (hn : n ≤ 2 ^ 30) (t : Nat) : ∀ (k f g : Nat), k < n → k < f → k < g → kd_up up f k t = kd_up up g k t := by
  intro k
  induction k using Nat.strongRecOn with
  | ind k ih =>
    intro f g hk hf hg
    obtain ⟨f, rfl⟩ : ∃ z, f = z + 1 := ⟨f - 1, by omega⟩
    obtain ⟨g, rfl⟩ : ∃ z, g = z + 1 := ⟨g - 1, by omega⟩
    unfold kd_up
    by_cases e : k = t
    · rw [if_pos e, if_pos e]
    · rw [if_neg e, if_neg e]
      rcases kd_cases h hk hn with ⟨h1, -⟩ | ⟨h1, j, hj, -, h2⟩
      · rw [if_pos h1, if_pos h1]
      · rw [if_neg h1, if_neg h1, h2, ih j hj f g (by omega) (by omega) (by omega)]
/-! ways: w a b e: a way between a and b takes e ticks -/
def ds_wk (w : Nat → Nat → Nat → Prop) : Nat → Nat → Nat → Nat → Prop
  | 0, a, b, d => a = b ∧ d = 0
  | n + 1, a, b, d => ∃ c e, w a c e ∧ e ≤ d ∧ ds_wk w n c b (d - e)
/-- a walk of d ticks -/
def ds_go (w : Nat → Nat → Nat → Prop) (a b d : Nat) : Prop := ∃ n, ds_wk w n a b d
/-- FAR, as a number: -1 if there are no ways -/
def ds_is (w : Nat → Nat → Nat → Prop) (a b : Nat) (r : Int) : Prop := (r = -1 ∧ ∀ d, ¬ ds_go w a b d) ∨ ∃ d : Nat, r = d ∧ ds_go w a b d ∧ ∀ d', ds_go w a b d' → d ≤ d'
theorem ds_is_one {w : Nat → Nat → Nat → Prop} {a b : Nat} {r r' : Int} (h : ds_is w a b r) (h' : ds_is w a b r') : r = r' := by
  rcases h with ⟨h1, h2⟩ | ⟨d, h1, h2, h3⟩ <;> rcases h' with ⟨g1, g2⟩ | ⟨d', g1, g2, g3⟩
  · omega
  · exact absurd g2 (h2 d')
  · exact absurd h2 (g2 d)
  · have := h3 d' g2
    have := g3 d h2
    omega
theorem ds_is_some (w : Nat → Nat → Nat → Prop) (a b : Nat) : ∃ r, ds_is w a b r := by
  by_cases h : ∃ d, ds_go w a b d
  · obtain ⟨d, h1, h2⟩ := pk_least _ h
    exact ⟨d, Or.inr ⟨d, rfl, h1, fun d' h' => by
      rcases Nat.lt_or_ge d' d with q | q
      · exact absurd h' (h2 d' q)
      · exact q⟩⟩
  · exact ⟨-1, Or.inl ⟨rfl, fun d hd => h ⟨d, hd⟩⟩⟩
noncomputable def ds_far (w : Nat → Nat → Nat → Prop) (a b : Nat) : Int := Classical.choose (ds_is_some w a b)
theorem ds_far_is (w : Nat → Nat → Nat → Prop) (a b : Nat) : ds_is w a b (ds_far w a b) := Classical.choose_spec (ds_is_some w a b)
theorem ds_far_eq {w : Nat → Nat → Nat → Prop} {a b : Nat} {r : Int} (h : ds_is w a b r) : ds_far w a b = r := ds_is_one (ds_far_is w a b) h
theorem ds_far_m1 (w : Nat → Nat → Nat → Prop) (a b : Nat) : -1 ≤ ds_far w a b := by
  rcases ds_far_is w a b with ⟨h, -⟩ | ⟨d, h, -⟩ <;> omega
/-! costs: the parts of two colours; the whole -/
def ct_col (near : Nat → Nat → Prop) [∀ a b, Decidable (near a b)] (a b : Int32) : Int := if a = b then 0 else if a = -1 ∨ b = -1 then 2 else if near a.toNatClampNeg b.toNatClampNeg then 1 else -1
/-- what a pair costs, -1 if they can't be one: steps (-1: none), colours (-1: none), ticks far (-1: none), marks, the find's tick, the loss's from and to -/
def ct_sum (st co fa : Int) (mk tf fr to : Int) : Int := if st < 0 ∨ co < 0 ∨ fa < 0 ∨ tf - fr < fa then -1 else 2 * st + co + 3 * mk + (max 0 (tf - to - fa)) / 10
/-! matchings -/
def sg_sum (f : Nat → Int) : Nat → Int
  | 0 => 0
  | n + 1 => sg_sum f n + f n
theorem sg_sum_cong {f g : Nat → Int} : ∀ {n : Nat}, (∀ k, k < n → f k = g k) → sg_sum f n = sg_sum g n
  | 0, _ => rfl
  | n + 1, h => by
    unfold sg_sum
    rw [sg_sum_cong (fun k hk => h k (by omega)), h n (by omega)]
/-- n losses, of which op are open; F finds, F itself stands for none; w: what they cost, a million and more: can't be -/
def sg_ok (n F : Nat) (op : Nat → Prop) (w : Nat → Nat → Int) (v : Nat → Nat) : Prop := (∀ l, l < n → op l → v l ≤ F ∧ w l (v l) < 1000000) ∧ ∀ l l', l < n → l' < n → op l → op l' → v l = v l' → v l < F → l = l'
def sg_cost (n : Nat) (op : Nat → Prop) [DecidablePred op] (w : Nat → Nat → Int) (v : Nat → Nat) : Int := sg_sum (fun l => if op l then w l (v l) else 0) n
/-- the best one, and its cost -/
def sg_best (n F : Nat) (op : Nat → Prop) [DecidablePred op] (w : Nat → Nat → Int) (v : Nat → Nat) (c : Int) : Prop :=
  sg_ok n F op w v ∧ sg_cost n op w v = c ∧ (∀ v', sg_ok n F op w v' → c ≤ sg_cost n op w v') ∧ ∀ l, l < n → op l → ∀ v', sg_ok n F op w v' → sg_cost n op w v' = c → (∀ l', l' < l → op l' → v' l' = v l') → v l ≤ v' l
theorem sg_best_cost {n F : Nat} {op : Nat → Prop} [DecidablePred op] {w : Nat → Nat → Int} {v v' : Nat → Nat} {c c' : Int} (h : sg_best n F op w v c) (h' : sg_best n F op w v' c') : c = c' := by
  have h1 := h.2.2.1 v' h'.1
  have h2 := h'.2.2.1 v h.1
  have h3 := h.2.1
  have h4 := h'.2.1
  omega
theorem sg_best_one {n F : Nat} {op : Nat → Prop} [DecidablePred op] {w : Nat → Nat → Int} {v v' : Nat → Nat} {c c' : Int} (h : sg_best n F op w v c) (h' : sg_best n F op w v' c') : ∀ l, l < n → op l → v l = v' l := by
  have hc := sg_best_cost h h'
  subst hc
  intro l
  induction l using Nat.strongRecOn with
  | ind l ih =>
    intro hl ho
    have h1 := h.2.2.2 l hl ho v' h'.1 h'.2.1 (fun l' hl' ho' => (ih l' hl' (by omega) ho').symm)
    have h2 := h'.2.2.2 l hl ho v h.1 h.2.1 (fun l' hl' ho' => ih l' hl' (by omega) ho')
    omega
theorem sg_best_cong {n F : Nat} {op op' : Nat → Prop} [DecidablePred op] [DecidablePred op'] {w w' : Nat → Nat → Int} {v : Nat → Nat} {c : Int} (ho : ∀ l, l < n → (op l ↔ op' l)) (hw : ∀ l, l < n → op l → ∀ s, s ≤ F → w l s = w' l s) (h : sg_best n F op w v c) : sg_best n F op' w' v c := by
  have ok : ∀ u, sg_ok n F op w u ↔ sg_ok n F op' w' u := by
    intro u
    constructor
    · rintro ⟨h1, h2⟩
      exact ⟨fun l hl hp => by
        have hq := (ho l hl).mpr hp
        have := h1 l hl hq
        rw [← hw l hl hq _ this.1]
        exact this, fun l l' hl hl' hp hp' => h2 l l' hl hl' ((ho l hl).mpr hp) ((ho l' hl').mpr hp')⟩
    · rintro ⟨h1, h2⟩
      exact ⟨fun l hl hq => by
        have := h1 l hl ((ho l hl).mp hq)
        rw [hw l hl hq _ this.1]
        exact this, fun l l' hl hl' hp hp' => h2 l l' hl hl' ((ho l hl).mp hp) ((ho l' hl').mp hp')⟩
  have co : ∀ u, sg_ok n F op w u → sg_cost n op w u = sg_cost n op' w' u := by
    intro u hu
    refine sg_sum_cong (fun l hl => ?_)
    by_cases hp : op l
    · rw [if_pos hp, if_pos ((ho l hl).mp hp), hw l hl hp _ (hu.1 l hl hp).1]
    · rw [if_neg hp, if_neg (fun q => hp ((ho l hl).mpr q))]
  obtain ⟨h1, h2, h3, h4⟩ := h
  refine ⟨(ok v).mp h1, by rw [← co v h1]; exact h2, fun u hu => by rw [← co u ((ok u).mpr hu)]; exact h3 u ((ok u).mpr hu), fun l hl hp u hu hc hb => ?_⟩
  exact h4 l hl ((ho l hl).mpr hp) u ((ok u).mpr hu) (by rw [co u ((ok u).mpr hu)]; exact hc) (fun l' hl' hp' => hb l' hl' ((ho l' (by omega)).mp hp'))
