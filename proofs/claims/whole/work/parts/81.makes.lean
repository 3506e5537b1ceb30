/-! ===== the machine of cells that are made keeps to the code ===== -/
theorem cu_app {D : va_G} {K : cu_K} {o : Nat} {L1 L2 : List cu_C} {H : Heap} (h1 : ∀ (i : Nat) (c : cu_C), L1[i]? = some c → cu_at D K o i c H) (h2 : ∀ (j : Nat) (c : cu_C), L2[j]? = some c → cu_at D K o (L1.length + j) c H) (z : H.size = o + (L1.length + L2.length)) : cu_P D K o (L1 ++ L2) H := by
  refine ⟨by rw [List.length_append]; exact z, fun i c hi => ?_⟩
  by_cases hl : i < L1.length
  · rw [List.getElem?_append_left hl] at hi
    exact h1 i c hi
  · rw [List.getElem?_append_right (by omega)] at hi
    have := h2 _ c hi
    rw [show L1.length + (i - L1.length) = i by omega] at this
    exact this
theorem cu_lt {D : va_G} {K : cu_K} {o : Nat} {L : List cu_C} {H : Heap} (hP : cu_P D K o L H) {i : Nat} {c : cu_C} (hi : L[i]? = some c) : o + i < H.size := by
  have := (List.getElem?_eq_some_iff.mp hi).1
  have := hP.1
  omega
theorem cu_push {D : va_G} {K : cu_K} {o : Nat} {L Ls : List cu_C} {H H1 : Heap} (hP : cu_P D K o L H) (z : H1.size = H.size + Ls.length) (old : ∀ q : Nat, q < H.size → H1[q]? = H[q]?) (new : ∀ (j : Nat) (c : cu_C), Ls[j]? = some c → cu_at D K o (L.length + j) c H1) : cu_P D K o (L ++ Ls) H1 :=
  cu_app (fun i c hi => va_at.kept (hP.2 i c hi) (old _ (cu_lt hP hi))) new (by rw [z, hP.1]; omega)
theorem cu_set {D : va_G} {K : cu_K} {o : Nat} {L : List cu_C} {H H1 : Heap} {i : Nat} {c c1 : cu_C} (hP : cu_P D K o L H) (hi : L[i]? = some c) (z : H1.size = H.size) (old : ∀ q : Nat, q ≠ o + i → H1[q]? = H[q]?) (new : cu_at D K o i c1 H1) : cu_P D K o (L.set i c1) H1 := by
  have hl := (List.getElem?_eq_some_iff.mp hi).1
  refine ⟨by rw [List.length_set, z]; exact hP.1, fun j c2 hj => ?_⟩
  by_cases e : j = i
  · subst e
    rw [List.getElem?_set_self hl] at hj
    rw [← Option.some.inj hj]
    exact new
  · rw [List.getElem?_set_ne (Ne.symm e)] at hj
    exact va_at.kept (hP.2 j c2 hj) (old _ (by show o + j ≠ o + i; omega))
theorem cu_Snew {A : Nat → Prop} {H0 H H1 : Heap} {locs : List Loc} (hS : va_S A H0 H locs) (z : H.size ≤ H1.size) (old : ∀ q : Nat, q < H.size → H1[q]? = H[q]?) : va_S A H0 H1 locs :=
  ⟨Nat.le_trans hS.1 z, fun x h1 h2 => (old x (Nat.lt_of_lt_of_le h1 hS.1)).trans (hS.2.1 x h1 h2), hS.2.2⟩
theorem cu_esh (K : cu_K) (o q : Nat) (c : cu_C) : cu_e K (o + q) c = cu_e K o (cu_sh q c) := by
  obtain ⟨t, n, f, fs⟩ := c
  unfold cu_e cu_sh
  dsimp only
  split
  · rfl
  · rfl
  · rfl
  · next h =>
    rw [if_pos rfl]
    have e : o + q + f = o + (f + q) := by omega
    rw [e]
  · next t' h =>
    rw [List.map_map]
    congr 2
    refine List.map_congr_left (fun x _ => ?_)
    rcases x with _ | x
    · rfl
    · rcases x with x | x
      · show Value.ref (o + q + x) = Value.ref (o + (x + q))
        rw [show o + q + x = o + (x + q) by omega]
      · rfl
theorem cu_esh0 (a : Nat) (ha : a < 9) (q : Nat) : cu_sh q (cu_0 a) = cu_0 a := by
  rcases (by omega : a = 0 ∨ a = 1 ∨ a = 2 ∨ a = 3 ∨ a = 4 ∨ a = 5 ∨ a = 6 ∨ a = 7 ∨ a = 8) with h | h | h | h | h | h | h | h | h <;> subst h <;> rfl
/-! a new object -/
theorem cu_h0 (o : Nat) : ∀ j, j < 1 → defaultValue (tyX0 j) = vp_V ((cu_0 0).2.2.2.map (cu_f o)) j := by
  intro j hj
  iterate 1 (rcases j with _ | j; · rfl)
  omega
theorem cu_h1 (o : Nat) : ∀ j, j < 9 → defaultValue (tyX1 j) = vp_V ((cu_0 1).2.2.2.map (cu_f o)) j := by
  intro j hj
  iterate 9 (rcases j with _ | j; · rfl)
  omega
theorem cu_h2 (o : Nat) : ∀ j, j < 4 → defaultValue (tyX2 j) = vp_V ((cu_0 2).2.2.2.map (cu_f o)) j := by
  intro j hj
  iterate 4 (rcases j with _ | j; · rfl)
  omega
theorem cu_h3 (o : Nat) : ∀ j, j < 8 → defaultValue (tyX3 j) = vp_V ((cu_0 3).2.2.2.map (cu_f o)) j := by
  intro j hj
  iterate 8 (rcases j with _ | j; · rfl)
  omega
theorem cu_h4 (o : Nat) : ∀ j, j < 5 → defaultValue (tyX4 j) = vp_V ((cu_0 4).2.2.2.map (cu_f o)) j := by
  intro j hj
  iterate 5 (rcases j with _ | j; · rfl)
  omega
theorem cu_h5 (o : Nat) : ∀ j, j < 15 → defaultValue (tyX5 j) = vp_V ((cu_0 5).2.2.2.map (cu_f o)) j := by
  intro j hj
  iterate 15 (rcases j with _ | j; · rfl)
  omega
theorem cu_h6 (o : Nat) : ∀ j, j < 4 → defaultValue (tyX6 j) = vp_V ((cu_0 6).2.2.2.map (cu_f o)) j := by
  intro j hj
  iterate 4 (rcases j with _ | j; · rfl)
  omega
theorem cu_h7 (o : Nat) : ∀ j, j < 15 → defaultValue (tyX7 j) = vp_V ((cu_0 7).2.2.2.map (cu_f o)) j := by
  intro j hj
  iterate 15 (rcases j with _ | j; · rfl)
  omega
theorem cu_h8 (o : Nat) : ∀ j, j < 47 → defaultValue (tyX8 j) = vp_V ((cu_0 8).2.2.2.map (cu_f o)) j := by
  intro j hj
  iterate 47 (rcases j with _ | j; · rfl)
  omega
theorem cu_born {D : va_G} {K : cu_K} {tys : List (ClassId × FieldType)} {s : State} {args : Array Value} {o i a : Nat} {kC : Class} {H : Heap} (ha : a < 9) (hts : ∀ w ∈ ab_tb, w.before args s = true) (hK : va_K D vwCl tys s) (hkC : s.vm.classes[D.1 a]? = some kC) (hc : H[o + i]? = some (blank (D.1 a) kC)) : cu_at D K o i (cu_0 a) H := by
  rcases (by omega : a = 0 ∨ a = 1 ∨ a = 2 ∨ a = 3 ∨ a = 4 ∨ a = 5 ∨ a = 6 ∨ a = 7 ∨ a = 8) with h | h | h | h | h | h | h | h | h <;> subst h
  · exact ⟨_, rfl, (u_born tyX0 hts ab_i0 (hK.1 0 _ rfl) hkC hc tyX0_ok).to (cu_h0 o)⟩
  · exact ⟨_, rfl, (u_born tyX1 hts ab_i1 (hK.1 1 _ rfl) hkC hc tyX1_ok).to (cu_h1 o)⟩
  · exact ⟨_, rfl, (u_born tyX2 hts ab_i2 (hK.1 2 _ rfl) hkC hc tyX2_ok).to (cu_h2 o)⟩
  · exact ⟨_, rfl, (u_born tyX3 hts ab_i3 (hK.1 3 _ rfl) hkC hc tyX3_ok).to (cu_h3 o)⟩
  · exact ⟨_, rfl, (u_born tyX4 hts ab_i4 (hK.1 4 _ rfl) hkC hc tyX4_ok).to (cu_h4 o)⟩
  · exact ⟨_, rfl, (u_born tyX5 hts ab_i5 (hK.1 5 _ rfl) hkC hc tyX5_ok).to (cu_h5 o)⟩
  · exact ⟨_, rfl, (u_born tyX6 hts ab_i6 (hK.1 6 _ rfl) hkC hc tyX6_ok).to (cu_h6 o)⟩
  · exact ⟨_, rfl, (u_born tyX7 hts ab_i7 (hK.1 7 _ rfl) hkC hc tyX7_ok).to (cu_h7 o)⟩
  · exact ⟨_, rfl, (u_born tyX8 hts ab_i8 (hK.1 8 _ rfl) hkC hc tyX8_ok).to (cu_h8 o)⟩
theorem cu_cls {D : va_G} {tys : List (ClassId × FieldType)} {s : State} {a : Nat} (ha : a < 9) (hK : va_K D vwCl tys s) : s.vm.findClass (cu_c a) = some (D.1 a) := by
  rcases (by omega : a = 0 ∨ a = 1 ∨ a = 2 ∨ a = 3 ∨ a = 4 ∨ a = 5 ∨ a = 6 ∨ a = 7 ∨ a = 8) with h | h | h | h | h | h | h | h | h <;> subst h
  · exact (hK.1 0 _ rfl).2.1
  · exact (hK.1 1 _ rfl).2.1
  · exact (hK.1 2 _ rfl).2.1
  · exact (hK.1 3 _ rfl).2.1
  · exact (hK.1 4 _ rfl).2.1
  · exact (hK.1 5 _ rfl).2.1
  · exact (hK.1 6 _ rfl).2.1
  · exact (hK.1 7 _ rfl).2.1
  · exact (hK.1 8 _ rfl).2.1
/-! a field is written by the constructor of its class -/
theorem cu_put {p : Program} {l : Launch} {e : Env} {R : Room} {s : State} {m : MethodId} {args : Array Value} {below : List Frame} {meth : Method} {c : Code} {H : Heap} {locs : List Loc} {cells slots : Nat} {Q : State → Prop} {cc : ByteArray} {pc : Nat} {ls : Array Slot} {rest : List Value} {D : va_G} {tys : List (ClassId × FieldType)} {A : Nat → Prop} {H0 : Heap} (hx : p.tables.exec = Jvm.exec) (hb : c.code = cc) {own C : String} {T : u_T} {N ci index a k : Nat} {fs : List Value} (hts : ∀ w ∈ ab_tb, w.before args s = true) (hown : s.vm.findClass own = some m.cls) (hK : va_K D vwCl tys s) (he : va_at D vwCl (a, .inr (ci, fs)) H) (hS : va_S A H0 H locs) (hAa : A a) (hc : vwCl[ci]? = some (C, T, N)) (hk : k < N) (hlink : (Jvm.Cond.fieldLink own index (T k).1 (T k).2.1 (T k).2.2.1).before args s = true) (hin : meth.name = "<init>") (hdecl : (T k).1 = own) {ty : FieldType} {v : Value} (hd : parseFieldDescriptor (T k).2.2.1 = some ty) (hn : narrow ty v = v) (hfit : fits ty v = true) (hl : k < fs.length) (hdg : decode cc pc = .ok (.putfield index, 3))
    (kk : ∀ (H1 : Heap) (locs1 : List Loc), va_at D vwCl (a, .inr (ci, fs.set k v)) H1 → H1.size = H.size → (∀ q : Nat, q ≠ a → H1[q]? = H[q]?) → va_S A H0 H1 locs1 → W p l e R s m args below meth c H1 locs1 cells slots Q (F0 m (pc + 3) ls rest)) : W p l e R s m args below meth c H locs cells slots Q (F0 m pc ls (v :: .ref a :: rest)) := by
  obtain ⟨hin2, ⟨ty0, hty⟩, hnm⟩ := ab_cl_all ci C T N hc
  have hap := va_apart (own := own) hts hin2 ty0 hty hnm hK hc
  obtain ⟨r, h1, cell, q1, q2, q3, q4⟩ := he
  have hr : r = (C, T, N) := Option.some.inj (h1.symm.trans hc)
  subst hr
  obtain ⟨hSl, hfc, kC, hkC, hkind⟩ := hK.1 ci _ hc
  obtain ⟨cf, kf, fi, f, hi, hsl⟩ := hSl k hk
  have hlays := u_lays hts hin2 hk
  have hst := (u_facts hfc hkC hlays hi).1
  have h6 := u_fits hfc hkC hkind hlays hi hd hn hfit
  have hfin : hasFlag f.accessFlags Acc.final = false ∨ (m.cls = cf ∧ meth.name = "<init>") := by
    rcases hlays with h | h
    · obtain ⟨_, _, _, _, _, _, -, -, hi', -, hf, -⟩ := Cond.lays_spec h
      have := hi.symm.trans hi'
      simp only [Option.some.injEq, Prod.mk.injEq] at this
      rw [this.2.2.2]
      exact Or.inl hf
    · obtain ⟨_, _, c', _, _, _, -, -, hf', -, -, -, hown2, -⟩ := Cond.laysFinal_spec h
      have e1 : c' = cf := by have := hi.symm.trans hf'; simp at this; exact this.1.symm
      rw [hdecl] at hown2
      exact Or.inr ⟨by rw [← e1]; exact Option.some.inj (hown.symm.trans hown2), hin⟩
  have hlt : a < H.size := (Array.getElem?_eq_some_iff.mp q1).1
  refine W.putf hx hb hown hlink hi hst hfin q1 (by rw [q3]; exact fun h => by cases h) (by rw [hsl]; exact (Array.getElem?_eq_some_iff.mp (q4 k hk)).1) h6.1 (by rw [q2, q3]; exact h6.2) rfl rfl hdg ?_
  have e1 : (H.setIfInBounds a (cell.setSlot f.slot v))[a]? = some (cell.setSlot f.slot v) := by simp [hlt]
  have e3 : ∀ q : Nat, q ≠ a → (H.setIfInBounds a (cell.setSlot f.slot v))[q]? = H[q]? := fun q hq => by
    rw [Array.getElem?_setIfInBounds, if_neg (Ne.symm hq)]
  have e2 : (H.setIfInBounds a (cell.setSlot f.slot v)).size = H.size := by simp
  generalize H.setIfInBounds a (cell.setSlot f.slot v) = H1 at e1 e2 e3 ⊢
  rw [hsl] at e1 ⊢
  exact kk H1 _ ⟨_, hc, t_OB.to (V := updV (vp_V fs) k v) ⟨_, e1, q2, q3, t_set q4 hap hk v⟩ (fun j _ => vp_updV_set hl v j)⟩ e2 e3 (hS.put e2 e3 hAa)
