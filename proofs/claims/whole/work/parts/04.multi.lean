/-! ===== an array of arrays of ints is made ===== -/
theorem cu_outer (cA : ClassId) (N h0 : Nat) : ∀ i : Nat, Jvm.Free.Multi.outerC cA N h0 i = arrV cA N (fun j => va_rf (if j < i then some (h0 + 1 + j) else none))
  | 0 => by
    show ({ cls := cA, slots := Array.replicate N .null, vm := .none } : Cell) = _
    rw [arrV_new]
    congr 1
  | i + 1 => by
    show (Jvm.Free.Multi.outerC cA N h0 i).setSlot i (.ref (h0 + 1 + i)) = _
    rw [cu_outer cA N h0 i, arrV_store]
    congr 1
    funext j
    unfold updV
    by_cases h : j = i
    · rw [if_pos h, if_pos (by omega), h]
      rfl
    · rw [if_neg h]
      show va_rf (if j < i then some (h0 + 1 + j) else none) = _
      by_cases h2 : j < i
      · rw [if_pos h2, if_pos (by omega)]
      · rw [if_neg h2, if_neg (by omega)]
theorem cu_mnew {p : Program} {l : Launch} {e : Env} {R : Room} {s : State} {m : MethodId} {args : Array Value} {below : List Frame} {meth : Method} {c : Code} {H : Heap} {locs : List Loc} {cells slots : Nat} {Q : State → Prop} {cc : ByteArray} (hexec : p.tables.exec = Jvm.exec) (hb : c.code = cc) {own : String} {index : Nat} (hown : s.vm.findClass own = some m.cls) (hcl : (Jvm.Cond.classLink own index "[[I").before args s = true) (hov : (Jvm.Cond.arrayOver (.array .int)).before args s = true) (har : (Jvm.Cond.arrayClass .int).before args s = true) {pc : Nat} {ls : Array Slot} {rest : List Value} {n k : Int32} (hdg : decode cc pc = .ok (.multianewarray index 2, 4)) (hn : ¬ n < 0) (hk : ¬ k < 0) {N M : Nat} (hN : n.toNatClampNeg = N) (hM : k.toNatClampNeg = M) (hN1 : N ≤ 1000) (hM1 : M ≤ 1000) (hcells : cells + (1 + N) ≤ R.cells) (hslots : slots + (N + N * M) ≤ R.slots)
    (kk : ∀ (H' : Heap) (cA cI : ClassId), s.vm.findClass "[[I" = some cA → s.vm.findClass "[I" = some cI → H'.size = H.size + 1 + N → H'[H.size]? = some (arrV cA N (fun j => va_rf (if j < N then some (H.size + 1 + j) else none))) → (∀ j, j < N → H'[H.size + 1 + j]? = some (arrV cI M (fun _ => .int 0))) → (∀ q, q < H.size → H'[q]? = H[q]?) → W p l e R s m args below meth c H' locs (cells + (1 + N)) (slots + (N + N * M)) Q (F0 m (pc + 4) ls (.ref H.size :: rest))) : W p l e R s m args below meth c H locs cells slots Q (F0 m pc ls (.int k :: .int n :: rest)) := by
  intro T hT X
  subst hT; subst hN; subst hM
  have e1 : "[" ++ (FieldType.array .int).toString = "[[I" := by decide +kernel
  have e2 : (FieldType.array .int).toString = "[I" := by decide +kernel
  obtain ⟨vm₁, cA, comp, hW, hfA, hfC, hO, hI, X1, st⟩ := X.multianewarray2F (own := own) (index := index) (ty := .int) hexec hown (by rw [e1]; exact hcl) hov har (g := F0 m pc ls (.int k :: .int n :: rest)) rfl (by rw [hb]; exact hdg) rfl hn hk (by omega) (by show _ * 4 ≤ _; omega) (by omega) rfl rfl hcells hslots
  obtain ⟨f1, f2, -, -⟩ := Jvm.Free.Multi.fill_facts (T.setVm vm₁) cA comp n.toNatClampNeg k.toNatClampNeg (defaultValue .int) n.toNatClampNeg
  rw [cu_outer] at f2
  rw [e1] at hfA
  rw [e2] at hfC
  obtain ⟨t, a1, b1⟩ := kk _ cA comp hfA hfC f1 f2 (fun j hj => (Jvm.Free.Multi.fill_inner (T.setVm vm₁) cA comp _ _ (defaultValue .int) _ j hj).trans (congrArg some (arrV_new comp _ _))) (fun q hq => Jvm.Free.Multi.fill_old (T.setVm vm₁) cA comp _ _ (defaultValue .int) (a := q) hq _) _ rfl (by rw [← Nat.add_assoc, ← Nat.add_assoc]; exact X1)
  exact ⟨t, st t a1, b1⟩
