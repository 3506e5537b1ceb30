/-! ===== one instruction is sound ===== -/
section ABS
variable {Z : ab_Z} {p : Program} {e : Env} {R : Room} {s : State} {mm : MethodId} {args : Array Value} {below : List Frame} {meth : Method} {c0 : Code} {cells slots : Nat} {Q : State → Prop} {A : Nat → Prop} {b N : Nat} {xs : Nat → Int32} {k d : Nat} {pc nx : Nat} {L : List (Nat × ab_V)} {S : List ab_V} {m : ab_M} {o o1 : List ab_O} {cn : Option Prop} {st1 : ab_S}
def ab_cd (c : Option Prop) : Prop := match c with
  | none => True
  | some c => c
theorem ab_ld_mem {i : Nat} {v : ab_V} : ∀ {L : List (Nat × ab_V)}, ab_ld i L = some v → (i, v) ∈ L
  | [], h => by cases h
  | q :: t, h => by
    unfold ab_ld at h
    by_cases hq : q.1 = i
    · rw [if_pos hq] at h
      cases h
      rw [← hq]
      exact List.mem_cons_self
    · rw [if_neg hq] at h
      exact List.mem_cons_of_mem _ (ab_ld_mem h)
theorem ab_ld_at {ls : Array Slot} {n i : Nat} {v : ab_V} (hl : lv_has ls n (ab_cvL Z b L)) (h : ab_ld i L = some v) : ls[i]? = some (.val (ab_cv Z b v)) := hl.2.2 (i, ab_cv Z b v) (List.mem_map.mpr ⟨(i, v), ab_ld_mem h, rfl⟩)
theorem ab_ins_mem {i : Nat} {v : ab_V} {q : Nat × ab_V} : ∀ {L : List (Nat × ab_V)}, q ∈ ab_ins i v L → q = (i, v) ∨ q ∈ L
  | [], h => by
    unfold ab_ins at h
    rcases List.mem_cons.mp h with h | h
    · exact Or.inl h
    · cases h
  | x :: t, h => by
    unfold ab_ins at h
    by_cases hx : i < x.1
    · rw [if_pos hx] at h
      rcases List.mem_cons.mp h with h | h
      · exact Or.inl h
      · exact Or.inr h
    · rw [if_neg hx] at h
      rcases List.mem_cons.mp h with h | h
      · exact Or.inr (by rw [h]; exact List.mem_cons_self)
      · rcases ab_ins_mem h with h | h
        · exact Or.inl h
        · exact Or.inr (List.mem_cons_of_mem _ h)
/-- the locals behind a store -/
theorem ab_st_has {ls : Array Slot} {n i : Nat} {v : ab_V} (hl : lv_has ls n ((i, ab_cv Z b v) :: (ab_cvL Z b L).filter (fun q => !(q.1 == i) && !(q.1 + 1 == i && q.2.category == 2)))) : lv_has ls n (ab_cvL Z b (ab_ins i v (ab_del i L))) := by
  refine ⟨hl.1, hl.2.1, fun q hq => hl.2.2 q ?_⟩
  obtain ⟨x, hx, rfl⟩ := List.mem_map.mp hq
  rcases ab_ins_mem hx with h | h
  · rw [h]
    exact List.mem_cons_self
  · obtain ⟨h1, h2⟩ := List.mem_filter.mp h
    refine List.mem_cons_of_mem _ (List.mem_filter.mpr ⟨List.mem_map.mpr ⟨x, h1, rfl⟩, ?_⟩)
    rw [ab_cat_cv]
    exact h2
theorem ab_st_has2 {ls : Array Slot} {n i : Nat} {v : ab_V} (hl : lv_has ls n ((i, ab_cv Z b v) :: (ab_cvL Z b L).filter (fun q => !(q.1 == i) && (!(q.1 == i + 1) && !(q.1 + 1 == i && q.2.category == 2))))) : lv_has ls n (ab_cvL Z b (ab_ins i v (ab_de2 i L))) := by
  refine ⟨hl.1, hl.2.1, fun q hq => hl.2.2 q ?_⟩
  obtain ⟨x, hx, rfl⟩ := List.mem_map.mp hq
  rcases ab_ins_mem hx with h | h
  · rw [h]
    exact List.mem_cons_self
  · obtain ⟨h1, h2⟩ := List.mem_filter.mp h
    refine List.mem_cons_of_mem _ (List.mem_filter.mpr ⟨List.mem_map.mpr ⟨x, h1, rfl⟩, ?_⟩)
    rw [ab_cat_cv]
    exact h2
theorem ab_s_pi {v : Int32} (row : ∀ {H : Heap} {locs : List Loc} {ls : Array Slot} {rest : List Value}, W p Z.1 e R s mm args below meth c0 H locs cells slots Q (F0 mm nx ls (.int v :: rest)) → W p Z.1 e R s mm args below meth c0 H locs cells slots Q (F0 mm pc ls rest)) (hs : ab_pi v nx o (pc, L, S, m) = some (cn, o1, st1)) (hG : ab_G Z (p, e, R, s, mm, args, below, meth, c0, cells, slots, Q, A, b, N, xs, k, d) st1) : ab_G Z (p, e, R, s, mm, args, below, meth, c0, cells, slots, Q, A, b, N, xs, k, d) (pc, L, S, m) := by
  unfold ab_pi at hs
  cases hs
  intro H locs ls hP hS hl
  exact row (hG H locs ls hP hS hl)
theorem ab_s_pl {v : Int64} (row : ∀ {H : Heap} {locs : List Loc} {ls : Array Slot} {rest : List Value}, W p Z.1 e R s mm args below meth c0 H locs cells slots Q (F0 mm nx ls (.long v :: rest)) → W p Z.1 e R s mm args below meth c0 H locs cells slots Q (F0 mm pc ls rest)) (hs : ab_pl v nx o (pc, L, S, m) = some (cn, o1, st1)) (hG : ab_G Z (p, e, R, s, mm, args, below, meth, c0, cells, slots, Q, A, b, N, xs, k, d) st1) : ab_G Z (p, e, R, s, mm, args, below, meth, c0, cells, slots, Q, A, b, N, xs, k, d) (pc, L, S, m) := by
  unfold ab_pl at hs
  cases hs
  intro H locs ls hP hS hl
  exact row (hG H locs ls hP hS hl)
theorem ab_s_li {i : Nat} (row : ∀ {H : Heap} {locs : List Loc} {ls : Array Slot} {rest : List Value} {x : Int32}, ls[i]? = some (.val (.int x)) → W p Z.1 e R s mm args below meth c0 H locs cells slots Q (F0 mm nx ls (.int x :: rest)) → W p Z.1 e R s mm args below meth c0 H locs cells slots Q (F0 mm pc ls rest)) (hs : ab_li i nx o (pc, L, S, m) = some (cn, o1, st1)) (hG : ab_G Z (p, e, R, s, mm, args, below, meth, c0, cells, slots, Q, A, b, N, xs, k, d) st1) : ab_G Z (p, e, R, s, mm, args, below, meth, c0, cells, slots, Q, A, b, N, xs, k, d) (pc, L, S, m) := by
  unfold ab_li at hs
  split at hs
  · next x hx =>
    cases hs
    intro H locs ls hP hS hl
    exact row (ab_ld_at hl hx) (hG H locs ls hP hS hl)
  · cases hs
theorem ab_s_ll {i : Nat} (row : ∀ {H : Heap} {locs : List Loc} {ls : Array Slot} {rest : List Value} {x : Int64}, ls[i]? = some (.val (.long x)) → W p Z.1 e R s mm args below meth c0 H locs cells slots Q (F0 mm nx ls (.long x :: rest)) → W p Z.1 e R s mm args below meth c0 H locs cells slots Q (F0 mm pc ls rest)) (hs : ab_ll i nx o (pc, L, S, m) = some (cn, o1, st1)) (hG : ab_G Z (p, e, R, s, mm, args, below, meth, c0, cells, slots, Q, A, b, N, xs, k, d) st1) : ab_G Z (p, e, R, s, mm, args, below, meth, c0, cells, slots, Q, A, b, N, xs, k, d) (pc, L, S, m) := by
  unfold ab_ll at hs
  split at hs
  · next x hx =>
    cases hs
    intro H locs ls hP hS hl
    exact row (ab_ld_at hl hx) (hG H locs ls hP hS hl)
  · cases hs
theorem ab_s_la {i : Nat} (row : ∀ {H : Heap} {locs : List Loc} {ls : Array Slot} {rest : List Value} {x : Nat}, ls[i]? = some (.val (.ref x)) → W p Z.1 e R s mm args below meth c0 H locs cells slots Q (F0 mm nx ls (.ref x :: rest)) → W p Z.1 e R s mm args below meth c0 H locs cells slots Q (F0 mm pc ls rest)) (hs : ab_la i nx o (pc, L, S, m) = some (cn, o1, st1)) (hG : ab_G Z (p, e, R, s, mm, args, below, meth, c0, cells, slots, Q, A, b, N, xs, k, d) st1) : ab_G Z (p, e, R, s, mm, args, below, meth, c0, cells, slots, Q, A, b, N, xs, k, d) (pc, L, S, m) := by
  unfold ab_la at hs
  split at hs
  · next x hx =>
    cases hs
    intro H locs ls hP hS hl
    exact row (ab_ld_at hl hx) (hG H locs ls hP hS hl)
  · next x hx =>
    cases hs
    intro H locs ls hP hS hl
    exact row (ab_ld_at hl hx) (hG H locs ls hP hS hl)
  · cases hs
theorem ab_s_si {i : Nat} (row : ∀ {H : Heap} {locs : List Loc} {ls : Array Slot} {rest : List Value} {x : Int32}, lv_has ls (ab_mL k) (ab_cvL Z b L) → i < ab_mL k → (∀ ls' : Array Slot, lv_has ls' (ab_mL k) ((i, Value.int x) :: (ab_cvL Z b L).filter (fun q => !(q.1 == i) && !(q.1 + 1 == i && q.2.category == 2))) → W p Z.1 e R s mm args below meth c0 H locs cells slots Q (F0 mm nx ls' rest)) → W p Z.1 e R s mm args below meth c0 H locs cells slots Q (F0 mm pc ls (.int x :: rest))) (hs : ab_si k i nx o (pc, L, S, m) = some (cn, o1, st1)) (hG : ab_G Z (p, e, R, s, mm, args, below, meth, c0, cells, slots, Q, A, b, N, xs, k, d) st1) : ab_G Z (p, e, R, s, mm, args, below, meth, c0, cells, slots, Q, A, b, N, xs, k, d) (pc, L, S, m) := by
  unfold ab_si at hs
  split at hs
  · next x r hx =>
    split at hs
    · next hi =>
      cases hs
      intro H locs ls hP hS hl
      have hx : S = .inl (.int x) :: r := hx
      subst hx
      exact row hl hi (fun ls' hl' => hG H locs ls' hP hS (ab_st_has (v := .inl (.int x)) hl'))
    · cases hs
  · cases hs
theorem ab_s_sl {i : Nat} (row : ∀ {H : Heap} {locs : List Loc} {ls : Array Slot} {rest : List Value} {x : Int64}, lv_has ls (ab_mL k) (ab_cvL Z b L) → i + 1 < ab_mL k → (∀ ls' : Array Slot, lv_has ls' (ab_mL k) ((i, Value.long x) :: (ab_cvL Z b L).filter (fun q => !(q.1 == i) && (!(q.1 == i + 1) && !(q.1 + 1 == i && q.2.category == 2)))) → W p Z.1 e R s mm args below meth c0 H locs cells slots Q (F0 mm nx ls' rest)) → W p Z.1 e R s mm args below meth c0 H locs cells slots Q (F0 mm pc ls (.long x :: rest))) (hs : ab_sl k i nx o (pc, L, S, m) = some (cn, o1, st1)) (hG : ab_G Z (p, e, R, s, mm, args, below, meth, c0, cells, slots, Q, A, b, N, xs, k, d) st1) : ab_G Z (p, e, R, s, mm, args, below, meth, c0, cells, slots, Q, A, b, N, xs, k, d) (pc, L, S, m) := by
  unfold ab_sl at hs
  split at hs
  · next x r hx =>
    split at hs
    · next hi =>
      cases hs
      intro H locs ls hP hS hl
      have hx : S = .inl (.long x) :: r := hx
      subst hx
      exact row hl hi (fun ls' hl' => hG H locs ls' hP hS (ab_st_has2 (v := .inl (.long x)) hl'))
    · cases hs
  · cases hs
theorem ab_s_sa {i : Nat} (row : ∀ {H : Heap} {locs : List Loc} {ls : Array Slot} {rest : List Value} {x : Nat}, lv_has ls (ab_mL k) (ab_cvL Z b L) → i < ab_mL k → (∀ ls' : Array Slot, lv_has ls' (ab_mL k) ((i, Value.ref x) :: (ab_cvL Z b L).filter (fun q => !(q.1 == i) && !(q.1 + 1 == i && q.2.category == 2))) → W p Z.1 e R s mm args below meth c0 H locs cells slots Q (F0 mm nx ls' rest)) → W p Z.1 e R s mm args below meth c0 H locs cells slots Q (F0 mm pc ls (.ref x :: rest))) (hs : ab_sa k i nx o (pc, L, S, m) = some (cn, o1, st1)) (hG : ab_G Z (p, e, R, s, mm, args, below, meth, c0, cells, slots, Q, A, b, N, xs, k, d) st1) : ab_G Z (p, e, R, s, mm, args, below, meth, c0, cells, slots, Q, A, b, N, xs, k, d) (pc, L, S, m) := by
  unfold ab_sa at hs
  split at hs
  · next x r hx =>
    split at hs
    · next hi =>
      cases hs
      intro H locs ls hP hS hl
      have hx : S = .inl (.ref x) :: r := hx
      subst hx
      exact row hl hi (fun ls' hl' => hG H locs ls' hP hS (ab_st_has (v := .inl (.ref x)) hl'))
    · cases hs
  · next x r hx =>
    split at hs
    · next hi =>
      cases hs
      intro H locs ls hP hS hl
      have hx : S = .inr x :: r := hx
      subst hx
      exact row hl hi (fun ls' hl' => hG H locs ls' hP hS (ab_st_has (v := .inr x) hl'))
    · cases hs
  · cases hs
theorem ab_s_inc {i : Nat} {v : Int32} (row : ∀ {H : Heap} {locs : List Loc} {ls : Array Slot} {rest : List Value} {x : Int32} {j : Nat}, lv_has ls (ab_mL k) (ab_cvL Z b L) → (ab_cvL Z b L)[j]? = some (i, .int x) → i < ab_mL k → (∀ ls' : Array Slot, lv_has ls' (ab_mL k) ((i, Value.int (x + v)) :: (ab_cvL Z b L).filter (fun q => !(q.1 == i) && !(q.1 + 1 == i && q.2.category == 2))) → W p Z.1 e R s mm args below meth c0 H locs cells slots Q (F0 mm nx ls' rest)) → W p Z.1 e R s mm args below meth c0 H locs cells slots Q (F0 mm pc ls rest)) (hs : ab_inc k i v nx o (pc, L, S, m) = some (cn, o1, st1)) (hG : ab_G Z (p, e, R, s, mm, args, below, meth, c0, cells, slots, Q, A, b, N, xs, k, d) st1) : ab_G Z (p, e, R, s, mm, args, below, meth, c0, cells, slots, Q, A, b, N, xs, k, d) (pc, L, S, m) := by
  unfold ab_inc at hs
  split at hs
  · next x hx =>
    split at hs
    · next hi =>
      cases hs
      intro H locs ls hP hS hl
      obtain ⟨j, hj⟩ := List.getElem?_of_mem (List.mem_map.mpr ⟨(i, .inl (.int x)), ab_ld_mem hx, rfl⟩ : (i, Value.int x) ∈ ab_cvL Z b L)
      exact row hl hj hi (fun ls' hl' => hG H locs ls' hP hS (ab_st_has (v := .inl (.int (x + v))) hl'))
    · cases hs
  · cases hs
theorem ab_s_b2 {f : Int32 → Int32 → Int32} (row : ∀ {H : Heap} {locs : List Loc} {ls : Array Slot} {rest : List Value} {x y : Int32}, W p Z.1 e R s mm args below meth c0 H locs cells slots Q (F0 mm nx ls (.int (f x y) :: rest)) → W p Z.1 e R s mm args below meth c0 H locs cells slots Q (F0 mm pc ls (.int y :: .int x :: rest))) (hs : ab_b2 f nx o (pc, L, S, m) = some (cn, o1, st1)) (hc : ab_cd cn) (hG : ab_G Z (p, e, R, s, mm, args, below, meth, c0, cells, slots, Q, A, b, N, xs, k, d) st1) : ab_G Z (p, e, R, s, mm, args, below, meth, c0, cells, slots, Q, A, b, N, xs, k, d) (pc, L, S, m) := by
  unfold ab_b2 at hs
  split at hs
  · next y x r hq =>
    cases hs
    intro H locs ls hP hS hl
    have hq : S = .inl (.int y) :: .inl (.int x) :: r := hq
    subst hq
    exact row (hG H locs ls hP hS hl)
  · cases hs
theorem ab_s_b2n {f : Int32 → Int32 → Int32} (row : ∀ {H : Heap} {locs : List Loc} {ls : Array Slot} {rest : List Value} {x y : Int32}, ¬ y = 0 → W p Z.1 e R s mm args below meth c0 H locs cells slots Q (F0 mm nx ls (.int (f x y) :: rest)) → W p Z.1 e R s mm args below meth c0 H locs cells slots Q (F0 mm pc ls (.int y :: .int x :: rest))) (hs : ab_b2n f nx o (pc, L, S, m) = some (cn, o1, st1)) (hc : ab_cd cn) (hG : ab_G Z (p, e, R, s, mm, args, below, meth, c0, cells, slots, Q, A, b, N, xs, k, d) st1) : ab_G Z (p, e, R, s, mm, args, below, meth, c0, cells, slots, Q, A, b, N, xs, k, d) (pc, L, S, m) := by
  unfold ab_b2n at hs
  split at hs
  · next y x r hq =>
    cases hs
    intro H locs ls hP hS hl
    have hq : S = .inl (.int y) :: .inl (.int x) :: r := hq
    subst hq
    exact row hc (hG H locs ls hP hS hl)
  · cases hs
theorem ab_s_l2 {f : Int64 → Int64 → Int64} (row : ∀ {H : Heap} {locs : List Loc} {ls : Array Slot} {rest : List Value} {x y : Int64}, W p Z.1 e R s mm args below meth c0 H locs cells slots Q (F0 mm nx ls (.long (f x y) :: rest)) → W p Z.1 e R s mm args below meth c0 H locs cells slots Q (F0 mm pc ls (.long y :: .long x :: rest))) (hs : ab_l2 f nx o (pc, L, S, m) = some (cn, o1, st1)) (hc : ab_cd cn) (hG : ab_G Z (p, e, R, s, mm, args, below, meth, c0, cells, slots, Q, A, b, N, xs, k, d) st1) : ab_G Z (p, e, R, s, mm, args, below, meth, c0, cells, slots, Q, A, b, N, xs, k, d) (pc, L, S, m) := by
  unfold ab_l2 at hs
  split at hs
  · next y x r hq =>
    cases hs
    intro H locs ls hP hS hl
    have hq : S = .inl (.long y) :: .inl (.long x) :: r := hq
    subst hq
    exact row (hG H locs ls hP hS hl)
  · cases hs
theorem ab_s_l2n {f : Int64 → Int64 → Int64} (row : ∀ {H : Heap} {locs : List Loc} {ls : Array Slot} {rest : List Value} {x y : Int64}, ¬ y = 0 → W p Z.1 e R s mm args below meth c0 H locs cells slots Q (F0 mm nx ls (.long (f x y) :: rest)) → W p Z.1 e R s mm args below meth c0 H locs cells slots Q (F0 mm pc ls (.long y :: .long x :: rest))) (hs : ab_l2n f nx o (pc, L, S, m) = some (cn, o1, st1)) (hc : ab_cd cn) (hG : ab_G Z (p, e, R, s, mm, args, below, meth, c0, cells, slots, Q, A, b, N, xs, k, d) st1) : ab_G Z (p, e, R, s, mm, args, below, meth, c0, cells, slots, Q, A, b, N, xs, k, d) (pc, L, S, m) := by
  unfold ab_l2n at hs
  split at hs
  · next y x r hq =>
    cases hs
    intro H locs ls hP hS hl
    have hq : S = .inl (.long y) :: .inl (.long x) :: r := hq
    subst hq
    exact row hc (hG H locs ls hP hS hl)
  · cases hs
theorem ab_s_lsh {f : Int64 → Int32 → Int64} (row : ∀ {H : Heap} {locs : List Loc} {ls : Array Slot} {rest : List Value} {x : Int64} {y : Int32}, W p Z.1 e R s mm args below meth c0 H locs cells slots Q (F0 mm nx ls (.long (f x y) :: rest)) → W p Z.1 e R s mm args below meth c0 H locs cells slots Q (F0 mm pc ls (.int y :: .long x :: rest))) (hs : ab_lsh f nx o (pc, L, S, m) = some (cn, o1, st1)) (hc : ab_cd cn) (hG : ab_G Z (p, e, R, s, mm, args, below, meth, c0, cells, slots, Q, A, b, N, xs, k, d) st1) : ab_G Z (p, e, R, s, mm, args, below, meth, c0, cells, slots, Q, A, b, N, xs, k, d) (pc, L, S, m) := by
  unfold ab_lsh at hs
  split at hs
  · next y x r hq =>
    cases hs
    intro H locs ls hP hS hl
    have hq : S = .inl (.int y) :: .inl (.long x) :: r := hq
    subst hq
    exact row (hG H locs ls hP hS hl)
  · cases hs
theorem ab_s_lcm (row : ∀ {H : Heap} {locs : List Loc} {ls : Array Slot} {rest : List Value} {x y : Int64}, W p Z.1 e R s mm args below meth c0 H locs cells slots Q (F0 mm nx ls (.int (lg_cmp x y) :: rest)) → W p Z.1 e R s mm args below meth c0 H locs cells slots Q (F0 mm pc ls (.long y :: .long x :: rest))) (hs : ab_lcm nx o (pc, L, S, m) = some (cn, o1, st1)) (hc : ab_cd cn) (hG : ab_G Z (p, e, R, s, mm, args, below, meth, c0, cells, slots, Q, A, b, N, xs, k, d) st1) : ab_G Z (p, e, R, s, mm, args, below, meth, c0, cells, slots, Q, A, b, N, xs, k, d) (pc, L, S, m) := by
  unfold ab_lcm at hs
  split at hs
  · next y x r hq =>
    cases hs
    intro H locs ls hP hS hl
    have hq : S = .inl (.long y) :: .inl (.long x) :: r := hq
    subst hq
    exact row (hG H locs ls hP hS hl)
  · cases hs
theorem ab_s_neg (row : ∀ {H : Heap} {locs : List Loc} {ls : Array Slot} {rest : List Value} {x : Int32}, W p Z.1 e R s mm args below meth c0 H locs cells slots Q (F0 mm nx ls (.int (-x) :: rest)) → W p Z.1 e R s mm args below meth c0 H locs cells slots Q (F0 mm pc ls (.int x :: rest))) (hs : ab_neg nx o (pc, L, S, m) = some (cn, o1, st1)) (hc : ab_cd cn) (hG : ab_G Z (p, e, R, s, mm, args, below, meth, c0, cells, slots, Q, A, b, N, xs, k, d) st1) : ab_G Z (p, e, R, s, mm, args, below, meth, c0, cells, slots, Q, A, b, N, xs, k, d) (pc, L, S, m) := by
  unfold ab_neg at hs
  split at hs
  · next x r hq =>
    cases hs
    intro H locs ls hP hS hl
    have hq : S = .inl (.int x) :: r := hq
    subst hq
    exact row (hG H locs ls hP hS hl)
  · cases hs
theorem ab_s_i2l (row : ∀ {H : Heap} {locs : List Loc} {ls : Array Slot} {rest : List Value} {x : Int32}, W p Z.1 e R s mm args below meth c0 H locs cells slots Q (F0 mm nx ls (.long x.toInt64 :: rest)) → W p Z.1 e R s mm args below meth c0 H locs cells slots Q (F0 mm pc ls (.int x :: rest))) (hs : ab_i2l nx o (pc, L, S, m) = some (cn, o1, st1)) (hc : ab_cd cn) (hG : ab_G Z (p, e, R, s, mm, args, below, meth, c0, cells, slots, Q, A, b, N, xs, k, d) st1) : ab_G Z (p, e, R, s, mm, args, below, meth, c0, cells, slots, Q, A, b, N, xs, k, d) (pc, L, S, m) := by
  unfold ab_i2l at hs
  split at hs
  · next x r hq =>
    cases hs
    intro H locs ls hP hS hl
    have hq : S = .inl (.int x) :: r := hq
    subst hq
    exact row (hG H locs ls hP hS hl)
  · cases hs
theorem ab_s_l2i (row : ∀ {H : Heap} {locs : List Loc} {ls : Array Slot} {rest : List Value} {x : Int64}, W p Z.1 e R s mm args below meth c0 H locs cells slots Q (F0 mm nx ls (.int x.toInt32 :: rest)) → W p Z.1 e R s mm args below meth c0 H locs cells slots Q (F0 mm pc ls (.long x :: rest))) (hs : ab_l2i nx o (pc, L, S, m) = some (cn, o1, st1)) (hc : ab_cd cn) (hG : ab_G Z (p, e, R, s, mm, args, below, meth, c0, cells, slots, Q, A, b, N, xs, k, d) st1) : ab_G Z (p, e, R, s, mm, args, below, meth, c0, cells, slots, Q, A, b, N, xs, k, d) (pc, L, S, m) := by
  unfold ab_l2i at hs
  split at hs
  · next x r hq =>
    cases hs
    intro H locs ls hP hS hl
    have hq : S = .inl (.long x) :: r := hq
    subst hq
    exact row (hG H locs ls hP hS hl)
  · cases hs
theorem ab_s_if1 {cd : Jvm.ClassFile.Cond} {t : Nat} (row : ∀ {H : Heap} {locs : List Loc} {ls : Array Slot} {rest : List Value} {x : Int32}, ab_c2 cd t x 0 → W p Z.1 e R s mm args below meth c0 H locs cells slots Q (F0 mm nx ls (rest)) → W p Z.1 e R s mm args below meth c0 H locs cells slots Q (F0 mm pc ls (.int x :: rest))) (hs : ab_if1 cd t nx o (pc, L, S, m) = some (cn, o1, st1)) (hc : ab_cd cn) (hG : ab_G Z (p, e, R, s, mm, args, below, meth, c0, cells, slots, Q, A, b, N, xs, k, d) st1) : ab_G Z (p, e, R, s, mm, args, below, meth, c0, cells, slots, Q, A, b, N, xs, k, d) (pc, L, S, m) := by
  unfold ab_if1 at hs
  split at hs
  · next x r hq =>
    cases hs
    intro H locs ls hP hS hl
    have hq : S = .inl (.int x) :: r := hq
    subst hq
    exact row hc (hG H locs ls hP hS hl)
  · cases hs
theorem ab_s_if2 {cd : Jvm.ClassFile.Cond} {t : Nat} (row : ∀ {H : Heap} {locs : List Loc} {ls : Array Slot} {rest : List Value} {x y : Int32}, ab_c2 cd t x y → W p Z.1 e R s mm args below meth c0 H locs cells slots Q (F0 mm nx ls (rest)) → W p Z.1 e R s mm args below meth c0 H locs cells slots Q (F0 mm pc ls (.int y :: .int x :: rest))) (hs : ab_if2 cd t nx o (pc, L, S, m) = some (cn, o1, st1)) (hc : ab_cd cn) (hG : ab_G Z (p, e, R, s, mm, args, below, meth, c0, cells, slots, Q, A, b, N, xs, k, d) st1) : ab_G Z (p, e, R, s, mm, args, below, meth, c0, cells, slots, Q, A, b, N, xs, k, d) (pc, L, S, m) := by
  unfold ab_if2 at hs
  split at hs
  · next y x r hq =>
    cases hs
    intro H locs ls hP hS hl
    have hq : S = .inl (.int y) :: .inl (.int x) :: r := hq
    subst hq
    exact row hc (hG H locs ls hP hS hl)
  · cases hs
theorem ab_s_dup (row : ∀ {H : Heap} {locs : List Loc} {ls : Array Slot} {rest : List Value} {v : Value}, v.category = 1 → W p Z.1 e R s mm args below meth c0 H locs cells slots Q (F0 mm nx ls (v :: v :: rest)) → W p Z.1 e R s mm args below meth c0 H locs cells slots Q (F0 mm pc ls (v :: rest))) (hs : ab_dup nx o (pc, L, S, m) = some (cn, o1, st1)) (hG : ab_G Z (p, e, R, s, mm, args, below, meth, c0, cells, slots, Q, A, b, N, xs, k, d) st1) : ab_G Z (p, e, R, s, mm, args, below, meth, c0, cells, slots, Q, A, b, N, xs, k, d) (pc, L, S, m) := by
  unfold ab_dup at hs
  split at hs
  · next v r hq =>
    split at hs
    · next hv =>
      cases hs
      intro H locs ls hP hS hl
      have hq : S = v :: r := hq
      subst hq
      exact row (by rw [ab_cat_cv]; exact hv) (hG H locs ls hP hS hl)
    · cases hs
  · cases hs
theorem ab_s_pop (row : ∀ {H : Heap} {locs : List Loc} {ls : Array Slot} {rest : List Value} {v : Value}, v.category = 1 → W p Z.1 e R s mm args below meth c0 H locs cells slots Q (F0 mm nx ls rest) → W p Z.1 e R s mm args below meth c0 H locs cells slots Q (F0 mm pc ls (v :: rest))) (hs : ab_pop nx o (pc, L, S, m) = some (cn, o1, st1)) (hG : ab_G Z (p, e, R, s, mm, args, below, meth, c0, cells, slots, Q, A, b, N, xs, k, d) st1) : ab_G Z (p, e, R, s, mm, args, below, meth, c0, cells, slots, Q, A, b, N, xs, k, d) (pc, L, S, m) := by
  unfold ab_pop at hs
  split at hs
  · next v r hq =>
    split at hs
    · next hv =>
      cases hs
      intro H locs ls hP hS hl
      have hq : S = v :: r := hq
      subst hq
      exact row (v := ab_cv Z b v) (by rw [ab_cat_cv]; exact hv) (hG H locs ls hP hS hl)
    · cases hs
  · cases hs
theorem ab_s_du2 (row : ∀ {H : Heap} {locs : List Loc} {ls : Array Slot} {rest : List Value} {v w : Value}, v.category = 1 → w.category = 1 → W p Z.1 e R s mm args below meth c0 H locs cells slots Q (F0 mm nx ls (v :: w :: v :: w :: rest)) → W p Z.1 e R s mm args below meth c0 H locs cells slots Q (F0 mm pc ls (v :: w :: rest))) (hs : ab_du2 nx o (pc, L, S, m) = some (cn, o1, st1)) (hG : ab_G Z (p, e, R, s, mm, args, below, meth, c0, cells, slots, Q, A, b, N, xs, k, d) st1) : ab_G Z (p, e, R, s, mm, args, below, meth, c0, cells, slots, Q, A, b, N, xs, k, d) (pc, L, S, m) := by
  unfold ab_du2 at hs
  split at hs
  · next v w r hq =>
    split at hs
    · next hv =>
      cases hs
      intro H locs ls hP hS hl
      have hq : S = v :: w :: r := hq
      subst hq
      exact row (by rw [ab_cat_cv]; exact hv.1) (by rw [ab_cat_cv]; exact hv.2) (hG H locs ls hP hS hl)
    · cases hs
  · cases hs
end ABS
