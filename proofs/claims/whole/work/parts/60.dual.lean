/-! ===== sums over matchings ===== -/
theorem sm_add (f g : Nat → Int) : ∀ n, sg_sum (fun k => f k + g k) n = sg_sum f n + sg_sum g n
  | 0 => rfl
  | n + 1 => by
    have := sm_add f g n
    show sg_sum (fun k => f k + g k) n + (f n + g n) = sg_sum f n + f n + (sg_sum g n + g n)
    omega
theorem sm_le {f g : Nat → Int} : ∀ {n : Nat}, (∀ k, k < n → f k ≤ g k) → sg_sum f n ≤ sg_sum g n
  | 0, _ => Int.le_refl _
  | n + 1, h => by
    have h1 := sm_le (f := f) (g := g) (n := n) (fun k hk => h k (by omega))
    have h2 := h n (by omega)
    show sg_sum f n + f n ≤ sg_sum g n + g n
    omega
theorem sm_lt {f g : Nat → Int} {a : Nat} : ∀ {n : Nat}, (∀ k, k < n → f k ≤ g k) → a < n → f a < g a → sg_sum f n < sg_sum g n
  | 0, _, h, _ => absurd h (by omega)
  | n + 1, h, ha, hl => by
    have h2 := h n (by omega)
    show sg_sum f n + f n < sg_sum g n + g n
    by_cases e : a = n
    · subst e
      have h1 := sm_le (f := f) (g := g) (n := a) (fun k hk => h k (by omega))
      omega
    · have h1 := sm_lt (f := f) (g := g) (a := a) (n := n) (fun k hk => h k (by omega)) (by omega) hl
      omega
theorem sm_0 {f : Nat → Int} : ∀ {n : Nat}, (∀ k, k < n → f k = 0) → sg_sum f n = 0
  | 0, _ => rfl
  | n + 1, h => by
    have h1 := sm_0 (f := f) (n := n) (fun k hk => h k (by omega))
    have h2 := h n (by omega)
    show sg_sum f n + f n = 0
    omega
theorem sm_upd (f : Nat → Int) (a : Nat) : ∀ n, sg_sum (fun s => if s = a then 0 else f s) n = sg_sum f n - if a < n then f a else 0
  | 0 => by rw [if_neg (by omega)]; rfl
  | n + 1 => by
    have ih := sm_upd f a n
    show sg_sum (fun s => if s = a then 0 else f s) n + (if n = a then 0 else f n) = sg_sum f n + f n - (if a < n + 1 then f a else 0)
    rw [ih]
    by_cases e : n = a
    · subst e
      rw [if_neg (by omega), if_pos rfl, if_pos (by omega)]
      omega
    · rw [if_neg e]
      by_cases q : a < n
      · rw [if_pos q, if_pos (by omega)]
        omega
      · rw [if_neg q, if_neg (by omega)]
        omega
/-- rows at seats: F is the bench -/
def in_ok (n F : Nat) (op : Nat → Prop) (v : Nat → Nat) : Prop := (∀ l, l < n → op l → v l ≤ F) ∧ ∀ l l', l < n → l' < n → op l → op l' → v l = v l' → v l < F → l = l'
theorem in_ok.less {n F : Nat} {op : Nat → Prop} {v : Nat → Nat} (h : in_ok (n + 1) F op v) : in_ok n F op v := ⟨fun l hl => h.1 l (by omega), fun l l' hl hl' => h.2 l l' (by omega) (by omega)⟩
theorem in_cut {n F : Nat} {op : Nat → Prop} [DecidablePred op] {v : Nat → Nat} (h : in_ok (n + 1) F op v) (f : Nat → Int) (ho : op n) (hv : v n < F) : sg_sum (fun l => if op l then (fun s => if s = v n then 0 else f s) (v l) else 0) n = sg_sum (fun l => if op l then f (v l) else 0) n := by
  refine sg_sum_cong (fun l hl => ?_)
  by_cases q : op l
  · rw [if_pos q, if_pos q]
    show (if v l = v n then 0 else f (v l)) = f (v l)
    rw [if_neg]
    intro e
    have := h.2 l n (by omega) (by omega) q ho e (by omega)
    omega
  · rw [if_neg q, if_neg q]
theorem in_eq {F : Nat} {op : Nat → Prop} [DecidablePred op] {v : Nat → Nat} : ∀ {n : Nat} {f : Nat → Int}, in_ok n F op v → f F = 0 → (∀ s, s < F → f s ≠ 0 → ∃ l, l < n ∧ op l ∧ v l = s) → sg_sum (fun l => if op l then f (v l) else 0) n = sg_sum f F
  | 0, f, _, _, hit => by
    symm
    refine sm_0 (fun s hs => ?_)
    by_cases q : f s = 0
    · exact q
    · obtain ⟨l, hl, -⟩ := hit s hs q
      omega
  | n + 1, f, h, hF, hit => by
    show sg_sum (fun l => if op l then f (v l) else 0) n + (if op n then f (v n) else 0) = sg_sum f F
    by_cases ho : op n
    · rw [if_pos ho]
      by_cases hv : v n < F
      · have ih := in_eq (n := n) (f := fun s => if s = v n then 0 else f s) h.less (by
          show (if F = v n then 0 else f F) = 0
          rw [if_neg (by omega)]
          exact hF) (fun s hs q => by
            by_cases e : s = v n
            · exact absurd (if_pos e) q
            · have q' : f s ≠ 0 := by
                have : (if s = v n then 0 else f s) ≠ 0 := q
                rw [if_neg e] at this
                exact this
              obtain ⟨l, h1, h2, h3⟩ := hit s hs q'
              have : l ≠ n := fun z => e (by rw [← h3, z])
              exact ⟨l, by omega, h2, h3⟩)
        rw [in_cut h f ho hv, sm_upd, if_pos hv] at ih
        omega
      · have e : v n = F := by
          have := h.1 n (by omega) ho
          omega
        have ih := in_eq (n := n) (f := f) h.less hF (fun s hs q => by
          obtain ⟨l, h1, h2, h3⟩ := hit s hs q
          have : l ≠ n := fun z => by rw [z] at h3; omega
          exact ⟨l, by omega, h2, h3⟩)
        rw [ih, e, hF]
        omega
    · rw [if_neg ho]
      have ih := in_eq (n := n) (f := f) h.less hF (fun s hs q => by
        obtain ⟨l, h1, h2, h3⟩ := hit s hs q
        have : l ≠ n := fun z => ho (by rw [← z]; exact h2)
        exact ⟨l, by omega, h2, h3⟩)
      rw [ih]
      omega
theorem in_le {F : Nat} {op : Nat → Prop} [DecidablePred op] {v : Nat → Nat} : ∀ {n : Nat} {f : Nat → Int}, in_ok n F op v → f F = 0 → (∀ s, s < F → 0 ≤ f s) → sg_sum (fun l => if op l then f (v l) else 0) n ≤ sg_sum f F
  | 0, f, _, _, hp => by
    have := sm_le (f := fun _ => 0) (g := f) (n := F) (fun s hs => hp s hs)
    have h0 : sg_sum (fun _ => 0) F = 0 := sm_0 (fun _ _ => rfl)
    show (0 : Int) ≤ _
    omega
  | n + 1, f, h, hF, hp => by
    show sg_sum (fun l => if op l then f (v l) else 0) n + (if op n then f (v n) else 0) ≤ sg_sum f F
    by_cases ho : op n
    · rw [if_pos ho]
      by_cases hv : v n < F
      · have ih := in_le (n := n) (f := fun s => if s = v n then 0 else f s) h.less (by
          show (if F = v n then 0 else f F) = 0
          rw [if_neg (by omega)]
          exact hF) (fun s hs => by
            show 0 ≤ if s = v n then 0 else f s
            by_cases e : s = v n
            · rw [if_pos e]
              exact Int.le_refl _
            · rw [if_neg e]
              exact hp s hs)
        rw [in_cut h f ho hv, sm_upd, if_pos hv] at ih
        omega
      · have e : v n = F := by
          have := h.1 n (by omega) ho
          omega
        have ih := in_le (n := n) (f := f) h.less hF hp
        rw [e, hF]
        omega
    · rw [if_neg ho]
      have ih := in_le (n := n) (f := f) h.less hF hp
      omega
/-- dues that show a seating to be the least -/
def du_ok (n F : Nat) (op : Nat → Prop) (w : Nat → Nat → Int) (u v : Nat → Int) (s : Nat → Nat) : Prop :=
  in_ok n F op s ∧ (∀ l, l < n → op l → u l + v (s l) = w l (s l)) ∧ (∀ l t, l < n → op l → t ≤ F → u l + v t ≤ w l t) ∧ (∀ t, t < F → v t ≤ 0) ∧ (∀ t, t < F → v t ≠ 0 → ∃ l, l < n ∧ op l ∧ s l = t) ∧ v F = 0
theorem du_sum {n F : Nat} {op : Nat → Prop} [DecidablePred op] {w : Nat → Nat → Int} {u v : Nat → Int} {s : Nat → Nat} (h : du_ok n F op w u v s) : sg_cost n op w s = sg_sum (fun l => if op l then u l else 0) n + sg_sum v F := by
  obtain ⟨h1, h2, h3, h4, h5, h6⟩ := h
  rw [← in_eq h1 h6 h5, ← sm_add]
  refine sg_sum_cong (fun l hl => ?_)
  by_cases q : op l
  · rw [if_pos q, if_pos q, if_pos q, h2 l hl q]
  · rw [if_neg q, if_neg q, if_neg q]
    rfl
theorem du_split {n F : Nat} {op : Nat → Prop} [DecidablePred op] {w : Nat → Nat → Int} {u v : Nat → Int} (x : Nat → Nat) : sg_cost n op w x = sg_sum (fun l => if op l then u l else 0) n + sg_sum (fun l => if op l then v (x l) else 0) n + sg_sum (fun l => if op l then w l (x l) - u l - v (x l) else 0) n := by
  rw [← sm_add, ← sm_add]
  refine sg_sum_cong (fun l hl => ?_)
  by_cases q : op l
  · rw [if_pos q, if_pos q, if_pos q, if_pos q]
    omega
  · rw [if_neg q, if_neg q, if_neg q, if_neg q]
    rfl
theorem du_neg {n F : Nat} {op : Nat → Prop} [DecidablePred op] {v : Nat → Int} {x : Nat → Nat} (hx : in_ok n F op x) (h4 : ∀ t, t < F → v t ≤ 0) (h6 : v F = 0) : sg_sum v F ≤ sg_sum (fun l => if op l then v (x l) else 0) n := by
  have h := in_le (n := n) (f := fun t => - v t) hx (by rw [h6]; rfl) (fun t ht => by have := h4 t ht; show 0 ≤ - v t; omega)
  have e1 : ∀ n, sg_sum (fun t => - v t) n = - sg_sum v n := by
    intro n
    induction n with
    | zero => rfl
    | succ n ih =>
      show sg_sum (fun t => - v t) n + - v n = - (sg_sum v n + v n)
      omega
  have e2 : ∀ n, sg_sum (fun l => if op l then (fun t => - v t) (x l) else 0) n = - sg_sum (fun l => if op l then v (x l) else 0) n := by
    intro n
    induction n with
    | zero => rfl
    | succ n ih =>
      show sg_sum (fun l => if op l then (fun t => - v t) (x l) else 0) n + (if op n then - v (x n) else 0) = - (sg_sum (fun l => if op l then v (x l) else 0) n + (if op n then v (x n) else 0))
      by_cases q : op n
      · rw [if_pos q, if_pos q]
        omega
      · rw [if_neg q, if_neg q]
        omega
  rw [e1, e2] at h
  omega
theorem du_le {n F : Nat} {op : Nat → Prop} [DecidablePred op] {w : Nat → Nat → Int} {u v : Nat → Int} {s : Nat → Nat} (h : du_ok n F op w u v s) {x : Nat → Nat} (hx : in_ok n F op x) : sg_cost n op w s ≤ sg_cost n op w x := by
  have h1 := du_sum h
  have h2 := du_split (n := n) (F := F) (op := op) (w := w) (u := u) (v := v) x
  have h3 := du_neg hx h.2.2.2.1 h.2.2.2.2.2
  have h4 : 0 ≤ sg_sum (fun l => if op l then w l (x l) - u l - v (x l) else 0) n := by
    have := sm_le (f := fun _ => 0) (g := fun l => if op l then w l (x l) - u l - v (x l) else 0) (n := n) (fun l hl => by
      show (0 : Int) ≤ if op l then w l (x l) - u l - v (x l) else 0
      by_cases q : op l
      · rw [if_pos q]
        have := h.2.2.1 l (x l) hl q (hx.1 l hl q)
        omega
      · rw [if_neg q]
        exact Int.le_refl _)
    have h0 : sg_sum (fun _ => 0) n = 0 := sm_0 (fun _ _ => rfl)
    omega
  omega
/-- one as cheap: no slack, and no seat with a due is left -/
theorem du_eq {n F : Nat} {op : Nat → Prop} [DecidablePred op] {w : Nat → Nat → Int} {u v : Nat → Int} {s : Nat → Nat} (h : du_ok n F op w u v s) {x : Nat → Nat} (hx : in_ok n F op x) (he : sg_cost n op w x = sg_cost n op w s) : (∀ l, l < n → op l → u l + v (x l) = w l (x l)) ∧ ∀ t, t < F → v t ≠ 0 → ∃ l, l < n ∧ op l ∧ x l = t := by
  have h1 := du_sum h
  have h2 := du_split (n := n) (F := F) (op := op) (w := w) (u := u) (v := v) x
  have h3 := du_neg hx h.2.2.2.1 h.2.2.2.2.2
  have h0 : sg_sum (fun _ => 0) n = 0 := sm_0 (fun _ _ => rfl)
  have pw : ∀ l, l < n → (fun _ => (0 : Int)) l ≤ (fun l => if op l then w l (x l) - u l - v (x l) else 0) l := fun l hl => by
    show (0 : Int) ≤ if op l then w l (x l) - u l - v (x l) else 0
    by_cases q : op l
    · rw [if_pos q]
      have := h.2.2.1 l (x l) hl q (hx.1 l hl q)
      omega
    · rw [if_neg q]
      exact Int.le_refl _
  have h4 := sm_le pw
  constructor
  · intro l hl ho
    by_cases q : u l + v (x l) = w l (x l)
    · exact q
    · exfalso
      have := h.2.2.1 l (x l) hl ho (hx.1 l hl ho)
      have := sm_lt (a := l) pw hl (by
        show (0 : Int) < if op l then w l (x l) - u l - v (x l) else 0
        rw [if_pos ho]
        omega)
      omega
  · intro t ht hv
    by_cases q : ∃ l, l < n ∧ op l ∧ x l = t
    · exact q
    · exfalso
      have hvt := h.2.2.2.1 t ht
      have g := du_neg (v := fun s => if s = t then 0 else v s) hx (fun t' ht' => by
        show (if t' = t then 0 else v t') ≤ 0
        by_cases e : t' = t
        · rw [if_pos e]
          exact Int.le_refl _
        · rw [if_neg e]
          exact h.2.2.2.1 t' ht') (by
        show (if F = t then 0 else v F) = 0
        rw [if_neg (by omega)]
        exact h.2.2.2.2.2)
      have e : sg_sum (fun l => if op l then (fun s => if s = t then 0 else v s) (x l) else 0) n = sg_sum (fun l => if op l then v (x l) else 0) n := sg_sum_cong (fun l hl => by
        by_cases ho : op l
        · rw [if_pos ho, if_pos ho]
          show (if x l = t then 0 else v (x l)) = v (x l)
          rw [if_neg (fun z => q ⟨l, hl, ho, z⟩)]
        · rw [if_neg ho, if_neg ho])
      rw [e, sm_upd, if_pos ht] at g
      omega
