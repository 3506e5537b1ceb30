/-! ===== the constructors' contracts; what is known at the law's entry ===== -/
theorem cu_M0 (l : Launch) (D : va_G) (K : cu_K) (o : Nat) : cu_M l D K 0 o := cu_ctor l D K 0 o (by decide) (by decide +kernel) cu_es_0 cu_run_0 (by decide +kernel) (fun h => absurd h (by decide))
theorem cu_M1 (l : Launch) (D : va_G) (K : cu_K) (o : Nat) : cu_M l D K 1 o := cu_ctor l D K 1 o (by decide) (by decide +kernel) cu_es_1 cu_run_1 (by decide +kernel) (fun h => absurd h (by decide))
theorem cu_M2 (l : Launch) (D : va_G) (K : cu_K) (o : Nat) : cu_M l D K 2 o := cu_ctor l D K 2 o (by decide) (by decide +kernel) cu_es_2 cu_run_2 (by decide +kernel) (fun h => absurd h (by decide))
theorem cu_M3 (l : Launch) (D : va_G) (K : cu_K) (o : Nat) : cu_M l D K 3 o := cu_ctor l D K 3 o (by decide) (by decide +kernel) cu_es_3 cu_run_3 (by decide +kernel) (fun h => absurd h (by decide))
theorem cu_M4 (l : Launch) (D : va_G) (K : cu_K) (o : Nat) : cu_M l D K 4 o := cu_ctor l D K 4 o (by decide) (by decide +kernel) cu_es_4 cu_run_4 (by decide +kernel) (fun h => absurd h (by decide))
theorem cu_M5 (l : Launch) (D : va_G) (K : cu_K) (o : Nat) : cu_M l D K 5 o := cu_ctor l D K 5 o (by decide) (by decide +kernel) cu_es_5 cu_run_5 (by decide +kernel) (fun h => absurd h (by decide))
theorem cu_M6 (l : Launch) (D : va_G) (K : cu_K) (o : Nat) : cu_M l D K 6 o := cu_ctor l D K 6 o (by decide) (by decide +kernel) cu_es_6 cu_run_6 (by decide +kernel) (fun h => absurd h (by decide))
theorem cu_M7 (l : Launch) (D : va_G) (K : cu_K) (o : Nat) : cu_M l D K 7 o := cu_ctor l D K 7 o (by decide) (by decide +kernel) cu_es_7 cu_run_7 (by decide +kernel) (fun _ a ha b => by
  rcases (by omega : a = 0 ∨ a = 1 ∨ a = 2 ∨ a = 3 ∨ a = 4 ∨ a = 5 ∨ a = 6) with h | h | h | h | h | h | h <;> subst h
  · exact cu_M0 l D K b
  · exact cu_M1 l D K b
  · exact cu_M2 l D K b
  · exact cu_M3 l D K b
  · exact cu_M4 l D K b
  · exact cu_M5 l D K b
  · exact cu_M6 l D K b)
theorem cu_M8 (l : Launch) (D : va_G) (K : cu_K) (o : Nat) : cu_M l D K 8 o := cu_ctor l D K 8 o (by decide) (by decide +kernel) cu_es_8 cu_run_8 (by decide +kernel) (fun h => absurd h (by decide))
theorem lw_D {s : State} {args : Array Value} (hts : ∀ w ∈ ab_tb, w.before args s = true) : ∃ D : va_G, ∀ (c : Nat) (q : vw_C), vwCl[c]? = some q → u_Kn s q.1 q.2.1 q.2.2 (D.1 c) (D.2 c) := by
  have h : ∀ c : Nat, ∃ x : ClassId × (Nat → Nat), ∀ q : vw_C, vwCl[c]? = some q → u_Kn s q.1 q.2.1 q.2.2 x.1 x.2 := by
    intro c
    by_cases hc : c < 9
    · rcases (by omega : c = 0 ∨ c = 1 ∨ c = 2 ∨ c = 3 ∨ c = 4 ∨ c = 5 ∨ c = 6 ∨ c = 7 ∨ c = 8) with h | h | h | h | h | h | h | h | h <;> subst h
      · obtain ⟨cC, iS, h⟩ := u_known hts ab_i0 (hts _ (ab_wd_tb (j := (cu_ix 0).1) (w := .instantiable RX0 1) (by decide +kernel)))
        exact ⟨(cC, iS), fun q hq => by cases hq; exact h⟩
      · obtain ⟨cC, iS, h⟩ := u_known hts ab_i1 (hts _ (ab_wd_tb (j := (cu_ix 1).1) (w := .instantiable RX1 9) (by decide +kernel)))
        exact ⟨(cC, iS), fun q hq => by cases hq; exact h⟩
      · obtain ⟨cC, iS, h⟩ := u_known hts ab_i2 (hts _ (ab_wd_tb (j := (cu_ix 2).1) (w := .instantiable RX2 4) (by decide +kernel)))
        exact ⟨(cC, iS), fun q hq => by cases hq; exact h⟩
      · obtain ⟨cC, iS, h⟩ := u_known hts ab_i3 (hts _ (ab_wd_tb (j := (cu_ix 3).1) (w := .instantiable RX3 8) (by decide +kernel)))
        exact ⟨(cC, iS), fun q hq => by cases hq; exact h⟩
      · obtain ⟨cC, iS, h⟩ := u_known hts ab_i4 (hts _ (ab_wd_tb (j := (cu_ix 4).1) (w := .instantiable RX4 5) (by decide +kernel)))
        exact ⟨(cC, iS), fun q hq => by cases hq; exact h⟩
      · obtain ⟨cC, iS, h⟩ := u_known hts ab_i5 (hts _ (ab_wd_tb (j := (cu_ix 5).1) (w := .instantiable RX5 15) (by decide +kernel)))
        exact ⟨(cC, iS), fun q hq => by cases hq; exact h⟩
      · obtain ⟨cC, iS, h⟩ := u_known hts ab_i6 (hts _ (ab_wd_tb (j := (cu_ix 6).1) (w := .instantiable RX6 4) (by decide +kernel)))
        exact ⟨(cC, iS), fun q hq => by cases hq; exact h⟩
      · obtain ⟨cC, iS, h⟩ := u_known hts ab_i7 (hts _ (ab_wd_tb (j := (cu_ix 7).1) (w := .instantiable RX7 15) (by decide +kernel)))
        exact ⟨(cC, iS), fun q hq => by cases hq; exact h⟩
      · obtain ⟨cC, iS, h⟩ := u_known hts ab_i8 (hts _ (ab_wd_tb (j := (cu_ix 8).1) (w := .instantiable RX8 47) (by decide +kernel)))
        exact ⟨(cC, iS), fun q hq => by cases hq; exact h⟩
    · exact ⟨(0, fun _ => 0), fun q hq => by
        rw [List.getElem?_eq_none (by show 9 ≤ c; omega)] at hq
        cases hq⟩
  exact ⟨(fun c => (Classical.choose (h c)).1, fun c => (Classical.choose (h c)).2), fun c q hq => Classical.choose_spec (h c) q hq⟩
theorem lw_arr {s : State} {args : Array Value} (hts : ∀ w ∈ ab_tb, w.before args s = true) {t : FieldType} (ht : Jvm.Cond.arrayClass t ∈ ab_tb) : ∃ c : ClassId, ArrOfT s c t ∧ s.vm.findClass ("[" ++ t.toString) = some c := by
  obtain ⟨c, k, comp, h1, h2, h3⟩ := Cond.arrayClass_spec (hts _ ht)
  exact ⟨c, fun n z => ⟨fun k h => (by cases h), k, h2, comp, h3⟩, h1⟩
theorem lw_U {s : State} {args : Array Value} (hts0 : ∀ w ∈ lw_tbl, w.before args s = true) : ∃ (D : va_G) (K : cu_K), cu_U D K s := by
  have hts : ∀ w ∈ ab_tb, w.before args s = true := fun w hw => hts0 w (List.mem_filter.mp hw).1
  obtain ⟨D, hD⟩ := lw_D hts
  obtain ⟨cI, i1, i2⟩ := lw_arr hts (t := .int) (ab_wd_tb (j := 94) (by decide +kernel))
  obtain ⟨cZ, z1, z2⟩ := lw_arr hts (t := .boolean) (ab_wd_tb (j := 127) (by decide +kernel))
  obtain ⟨cJ, j1, j2⟩ := lw_arr hts (t := .long) (ab_wd_tb (j := 95) (by decide +kernel))
  have hao : Jvm.Cond.arrayOver (.array .int) ∈ lw_tbl := List.mem_of_getElem? (i := cu_ox.2.2) (by decide +kernel)
  obtain ⟨comp, cA, kA, -, -, a3, a4, a5⟩ := arrayOverA_spec (hts0 _ hao)
  refine ⟨D, (cI, cZ, cJ, cA), ⟨hD, fun k q hk => ?_⟩, fun w hw => ?_⟩
  · rcases k with _ | k
    · cases hk; exact ⟨i1, i2⟩
    rcases k with _ | k
    · cases hk; exact ⟨z1, z2⟩
    rcases k with _ | k
    · cases hk; exact ⟨j1, j2⟩
    rcases k with _ | k
    · cases hk; exact ⟨fun n z => ⟨fun k h => (by cases h), kA, a3, comp, a4⟩, a5⟩
    cases hk
  · have h := (List.mem_filter.mp hw).2
    have hz := hts0 w (List.mem_filter.mp hw).1
    cases w with
    | methodLinkNest a b c d => exact va_Nw.of rfl hz
    | arrayOver t =>
      cases t with
      | array t => exact arrayOver_alikeB (Vm.Alike.refl s.vm) hz
      | _ => cases h
    | _ => cases h
