/-! ===== Arrays.fill on one array ===== -/
def cu_r0 : Room := { frames := 0, cells := 0, slots := 0, locals := 0 }
def cu_Fl (l : Launch) (D : va_G) (K : cu_K) (a n z : Nat) (w v : Int32) : Prop := Met l (ab_mY 146) (ab_mW 146) cu_r0 (va_Pc [.ref a, .int v] (fun U => U.heap.size = z ∧ U.heap[a]? = some (arrV K.1 n (fun _ => .int w)) ∧ va_K D vwCl (cu_ty K) U))
  (fun _ st oc t => (oc = .returned none ∧ (t.heap.size = z ∧ t.heap[a]? = some (arrV K.1 n (fun _ => .int v)))) ∧ va_F (fun q => q = a) st t) 0 0 (fun q => q = a)
theorem cu_fd0 : decode (ab_mB 146) 0 = .ok (.iconst 0, 1) := by decide +kernel
theorem cu_fd1 : decode (ab_mB 146) 1 = .ok (.istore_n 2, 1) := by decide +kernel
theorem cu_fd2 : decode (ab_mB 146) 2 = .ok (.aload_n 0, 1) := by decide +kernel
theorem cu_fd3 : decode (ab_mB 146) 3 = .ok (.arraylength, 1) := by decide +kernel
theorem cu_fd4 : decode (ab_mB 146) 4 = .ok (.istore_n 3, 1) := by decide +kernel
theorem cu_fd5 : decode (ab_mB 146) 5 = .ok (.iload_n 2, 1) := by decide +kernel
theorem cu_fd6 : decode (ab_mB 146) 6 = .ok (.iload_n 3, 1) := by decide +kernel
theorem cu_fd7 : decode (ab_mB 146) 7 = .ok (.if_icmp .ge 13, 3) := by decide +kernel
theorem cu_fd10 : decode (ab_mB 146) 10 = .ok (.aload_n 0, 1) := by decide +kernel
theorem cu_fd11 : decode (ab_mB 146) 11 = .ok (.iload_n 2, 1) := by decide +kernel
theorem cu_fd12 : decode (ab_mB 146) 12 = .ok (.iload_n 1, 1) := by decide +kernel
theorem cu_fd13 : decode (ab_mB 146) 13 = .ok (.iastore, 1) := by decide +kernel
theorem cu_fd14 : decode (ab_mB 146) 14 = .ok (.iinc 2 1, 3) := by decide +kernel
theorem cu_fd17 : decode (ab_mB 146) 17 = .ok (.goto (-12), 3) := by decide +kernel
theorem cu_fd20 : decode (ab_mB 146) 20 = .ok (.return_, 1) := by decide +kernel
theorem cu_re {ls : Array Slot} {n : Nat} {L L' : List (Nat × Value)} (h : lv_has ls n L) (hs : ∀ q ∈ L', q ∈ L) : lv_has ls n L' := ⟨h.1, h.2.1, fun q hq => h.2.2 q (hs q hq)⟩
theorem cu_arr_eq (cA : ClassId) {n : Nat} {f g : Nat → Value} (h : ∀ j, j < n → f j = g j) : arrV cA n f = arrV cA n g := by
  unfold arrV
  congr 2
  funext j
  exact h j.val j.isLt
theorem cu_fill (l : Launch) (D : va_G) (K : cu_K) (a n z : Nat) (w v : Int32) (hn : n ≤ 1000) : cu_Fl l D K a n z w v := by
  refine ab_ofW (cc := ab_mB 146) (maxL := 4) (ret := none) (ab_plain (by decide)) rfl ?_
  intro p e s mm args below meth c s₁ B hml hv
  obtain ⟨rfl, hz, hcell, hK⟩ := hv
  have hx := B.exec
  have hb := B.bytes
  have hr := B.returns
  have hlocks := B.notSynchronized
  have hl := lv_entry ([.ref a, .int v]) (n := 4) (Nat.le_of_ble_eq_true rfl)
  rw [lg_entry_eq]
  generalize (lg_sl ([.ref a, .int v]) ++ List.replicate (4 - (lg_sl ([.ref a, .int v])).length) Slot.unset).toArray = ls at hl ⊢
  have hl : lv_has ls 4 [(0, .ref a), (1, .int v)] := hl
  have hAr := (hK.2 0 _ rfl).1
  have hS : va_S (fun q => q = a) s.heap s.heap [] := va_S.rf
  have loop : ∀ (r i : Nat) (H : Heap) (locs : List Loc) (ls : Array Slot), i + r = n → H.size = z → H[a]? = some (arrV K.1 n (fun j => .int (if j < i then v else w))) → va_S (fun q => q = a) s.heap H locs → lv_has ls 4 [(2, .int (nI i)), (3, .int (nI n)), (0, .ref a), (1, .int v)] →
      W p l e (headSpec (ab_mW 146) cu_r0).room s mm #[Value.ref a, Value.int v] below meth c H locs 0 0 (MQ below (fun _ st oc t => (oc = .returned none ∧ (t.heap.size = z ∧ t.heap[a]? = some (arrV K.1 n (fun _ => .int v)))) ∧ va_F (fun q => q = a) st t) #[Value.ref a, Value.int v] s 0 0 (fun q => q = a)) (F0 mm 5 ls []) := by
    intro r
    induction r with
    | zero =>
      intro i H locs ls hi hz hc hS hl
      refine lv_iload_n hx hb cu_fd5 rfl (lv_at hl 0 rfl) ?_
      refine lv_iload_n hx hb cu_fd6 rfl (lv_at hl 1 rfl) ?_
      refine lv_icmp_ge (tgt := 20) hx hb cu_fd7 rfl (fun _ => ?_) (fun q => absurd (nI_le (by omega) (by omega)) q)
      refine W.vret hx hb hr (fun t ht _ => ⟨⟨rfl, by rw [ht]; exact hz, ?_⟩, hS.F ht⟩) hS.2.2 cu_fd20
      rw [ht, hc]
      exact congrArg some (cu_arr_eq _ (fun j hj => by rw [if_pos (by omega)]))
    | succ r ih =>
      intro i H locs ls hi hz hc hS hl
      refine lv_iload_n hx hb cu_fd5 rfl (lv_at hl 0 rfl) ?_
      refine lv_iload_n hx hb cu_fd6 rfl (lv_at hl 1 rfl) ?_
      refine lv_icmp_ge (tgt := 20) hx hb cu_fd7 rfl (fun q => absurd q (nI_ge (by omega) (by omega))) (fun _ => ?_)
      refine lv_aload_n hx hb cu_fd10 rfl (lv_at hl 2 rfl) ?_
      refine lv_iload_n hx hb cu_fd11 rfl (lv_at hl 0 rfl) ?_
      refine lv_iload_n hx hb cu_fd12 rfl (lv_at hl 3 rfl) ?_
      refine W.iast hx hb hc (hAr n _) (fun q => by cases q) (by rw [arrV_size]; exact nI_in (by omega) (by omega)) rfl rfl cu_fd13 (fun H1 e1 z1 o1 => ?_)
      refine lv_iinc (v := nI (i + 1)) hx hb cu_fd14 hl (k := 0) rfl (nI_1 i) (by decide) rfl (fun ls hl => ?_)
      refine lv_goto (tgt := 5) hx hb cu_fd17 rfl ?_
      refine ih (i + 1) H1 _ ls (by omega) (z1.trans hz) ?_ (hS.put z1 o1 rfl) hl
      rw [e1, arrV_store, nI_clamp (by omega)]
      refine congrArg some (cu_arr_eq _ (fun j hj => ?_))
      unfold updV
      by_cases h : j = i
      · rw [if_pos h, if_pos (by omega)]
      · rw [if_neg h]
        show Value.int (if j < i then v else w) = _
        by_cases h2 : j < i
        · rw [if_pos h2, if_pos (by omega)]
        · rw [if_neg h2, if_neg (by omega)]
  refine lv_iconst (v := 0) hx hb cu_fd0 (by decide) ?_
  refine lv_istore_n (i := 2) hx hb cu_fd1 rfl hl (by decide) rfl (fun ls hl => ?_)
  refine lv_aload_n (x := a) hx hb cu_fd2 rfl (lv_at hl 1 rfl) ?_
  refine W.alen (n := nI n) hx hb hcell (hAr n _) (by rw [arrV_size]; rfl) rfl rfl cu_fd3 ?_
  refine lv_istore_n (i := 3) hx hb cu_fd4 rfl hl (by decide) rfl (fun ls hl => ?_)
  refine loop n 0 s.heap [] ls (by omega) hz ?_ hS (cu_re hl ?_)
  · rw [hcell]
    exact congrArg some (cu_arr_eq _ (fun j hj => by rw [if_neg (by omega)]))
  · intro q hq
    simp only [List.mem_cons, List.not_mem_nil, or_false] at hq
    rcases hq with h | h | h | h
    · exact List.mem_of_getElem? (i := 1) (by rw [h]; rfl)
    · exact List.mem_of_getElem? (i := 0) (by rw [h]; rfl)
    · exact List.mem_of_getElem? (i := 2) (by rw [h]; rfl)
    · exact List.mem_of_getElem? (i := 3) (by rw [h]; rfl)
