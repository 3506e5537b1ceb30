/-! THE CLAIM OUT OF ONE WALK OF THE LAW'S BODY. Your part is whole_start (and what it stands on); all else here is the same for every law, but numbers. -/
def R_law : String := "LostDeskLaw"
def lw_P (b : Addr) (xs : List Int32) (args : Array Value) (s : State) : Prop := args = #[.ref b] ∧ s.IntsAt b xs ∧ xs.length ≤ 3584 ∧ (Jvm.Cond.and given_1 narrow_1).before args s = true
def lw_Q (_ : Array Value) (s : State) (o : Outcome) (t : State) : Prop := o = .returned (some (.int 1)) ∧ Framed s o t [] 600000 7302250
def lw_Z (below : List Frame) (a : Array Value) (s : State) : State → Prop := fun t => ∃ o, t.status = .running ∧ Ended t below o ∧ lw_Q a s o t
/-- the law's own end, with 1 on the stack, nothing written that was there before, its room as the claim has it -/
theorem lw_ret {p : Program} {l : Launch} {e : Env} {s : State} {m : MethodId} {below : List Frame} {meth : Method} {c : Code} {b : Nat} (hx : p.tables.exec = Jvm.exec) (hb : c.code = code) (hr : meth.sig.returnType = ret) (hlocks : meth.locks = false) {pc : Nat} {H : Heap} {ls : Array Slot} (hdg : decode code pc = .ok (.ireturn, 1)) : W p l e room_1 s m #[Value.ref b] below meth c H [] 600000 7302250 (lw_Z below #[Value.ref b] s) (F0 m pc ls [.int 1]) := by
  intro T hT X
  obtain ⟨fs, hret, hrun, hended, hW, hframe⟩ := X.leave (v := some (.int 1)) (hlocks := hlocks) (fun h => by rw [hr] at h; cases h)
  have hmeth' : T.vm.method? m = some meth := X.method'
  refine ⟨T.setFrames fs, ?_, .returned (some (.int 1)), hrun, hended, rfl, ⟨_, rfl⟩, hW, hframe⟩
  jvm_step X.here [X.here.top, hx, hb, hdg, hmeth', hr, ret, narrow_b1]
  (try refine ⟨rfl, ?_⟩); (try refine ⟨rfl, ?_⟩)
  first | (intro acts; rw [hret _ acts rfl rfl rfl]) | rw [hret _ _ rfl rfl rfl]
  exact Steps.refl _
/-- what holds at the law's entry: the machine, the code, the tables' words (any of lw_tbl by 'hts w (by decide +kernel)'), the script of L ints xs at the cell b, what the Statement gives of the start (any of its parts by flat_of_before) -/
def lw_At (p : Program) (s : State) (m : MethodId) (meth : Method) (c : Code) (b L : Nat) (xs : Nat → Int32) : Prop :=
  p.tables.exec = Jvm.exec ∧ c.code = code ∧ meth.sig.returnType = ret ∧ c.maxLocals = 4 ∧ s.vm.findClass R_law = some m.cls ∧ (∀ w ∈ lw_tbl, w.before #[Value.ref b] s = true) ∧ va_X b L xs s s.heap ∧ b < s.heap.size ∧ meth.locks = false ∧ (Jvm.Cond.and given_1 narrow_1).before #[Value.ref b] s = true
theorem lw_d0 : decode code 0 = .ok (.new 7, 3) := by decide +kernel
theorem lw_d3 : decode code 3 = .ok (.dup, 1) := by decide +kernel
theorem lw_d4 : decode code 4 = .ok (.invokespecial 9, 3) := by decide +kernel
theorem lw_d7 : decode code 7 = .ok (.astore_n 1, 1) := by decide +kernel
theorem lw_d8 : decode code 8 = .ok (.new 10, 3) := by decide +kernel
theorem lw_d11 : decode code 11 = .ok (.dup, 1) := by decide +kernel
theorem lw_d12 : decode code 12 = .ok (.invokespecial 12, 3) := by decide +kernel
theorem lw_d15 : decode code 15 = .ok (.astore_n 2, 1) := by decide +kernel
theorem lw_d16 : decode code 16 = .ok (.iconst 0, 1) := by decide +kernel
theorem lw_d17 : decode code 17 = .ok (.istore_n 3, 1) := by decide +kernel
theorem lw_d971 : decode code 971 = .ok (.ireturn, 1) := by decide +kernel
theorem lw_good {k : Nat} (h : ab_wd (cu_ix k).2.2.1 (.code (cu_y k) (cu_b k) (cu_L k) none) = true) : GoodIn ab_tb (cu_W k) := ab_good (fun w hw => by
  rcases List.mem_cons.mp hw with h2 | h2
  · rw [h2]; exact ab_wd_tb h
  · exact h2)
theorem lw_nm : ∀ a, a < 9 → (cu_y a).cls ≠ "java/lang/invoke/MethodHandle" ∧ (cu_y a).cls ≠ "java/lang/invoke/VarHandle" ∧ (parseMethodDescriptor (cu_y a).desc).map (fun d => d.parameters.length) = some 0 := by decide +kernel
set_option maxHeartbeats 4000000 in
/-- from the entry, for every script of at most 3584 ints, the law comes to its end with true -/
theorem whole_start {p : Program} {e : Env} {s : State} {m : MethodId} {below : List Frame} {meth : Method} {c : Code} (l : Launch) {b L : Nat} {xs : Nat → Int32} (hL : L ≤ 3584) (C0 : lw_At p s m meth c b L xs) : W p l e room_1 s m #[Value.ref b] below meth c s.heap [] 0 0 (lw_Z below #[Value.ref b] s) (entryFrame m ([Value.ref b] : List Value).toArray 4) := by
  obtain ⟨hx, hb, hr, hml, hown, hts0, hX, hbl, hlocks, hgv⟩ := C0
  have hts : ∀ w ∈ ab_tb, w.before #[Value.ref b] s = true := fun w hw => hts0 w (List.mem_filter.mp hw).1
  obtain ⟨D, K, hU⟩ := lw_U hts0
  have hl := lv_entry ([.ref b]) (n := 4) (Nat.le_of_ble_eq_true rfl)
  rw [lg_entry_eq]
  generalize (lg_sl ([.ref b]) ++ List.replicate (4 - (lg_sl ([.ref b])).length) Slot.unset).toArray = ls at hl ⊢
  have hl : lv_has ls 4 [(0, .ref b)] := hl
  refine W.newcK (own := R_law) (C := RX7) (n := 15) hx hb hown (hts _ (ab_wd_tb (j := 66) (by decide +kernel))) (hts _ (ab_wd_tb (j := 67) (by decide +kernel))) (hts _ (ab_wd_tb (j := (cu_ix 7).2.1) (by decide +kernel))) rfl lw_d0 (by decide) (by decide) (cu_cls (a := 7) (by decide) hU.1) rfl (fun H1 kC hkC e1 z1 o1 => ?_)
  have P1 : cu_P D K s.heap.size [cu_0 7] H1 := ⟨z1, fun i c hi => by
    obtain ⟨rfl, rfl⟩ := cu_one hi
    exact cu_born (by decide) hts hU.1 hkC e1⟩
  have S1 : va_S (fun q => s.heap.size ≤ q) s.heap H1 [] := cu_Snew va_S.rf (by omega) o1
  refine lv_dup (va := .ref s.heap.size) (rest := []) hx hb lw_d3 rfl ?_
  refine cu_after (A := fun q => s.heap.size ≤ q) (H0 := s.heap) (B := cu_P D K s.heap.size (cu_fin 7)) (va_runI (Ts := ab_tb) (own := R_law) (index := 9) (b := s.heap.size) (As := []) (rest := [.ref s.heap.size]) (g := F0 m 4 ls [.ref s.heap.size, .ref s.heap.size]) ⟨hx, hb, hml, hown, hts⟩ (cu_M7 l D K s.heap.size) (cwI 0 hts (lw_good (k := 7) (by decide +kernel)) rfl rfl rfl (hts _ (ab_wd_tb (j := (cu_ix 7).2.1) (by decide +kernel))) (hts _ (ab_wd_tb (j := 68) (by decide +kernel))) (hts _ (ab_wd_tb (j := (cu_ix 7).2.2.2) (by decide +kernel))) rfl (lw_nm 7 (by decide)) (by decide)) ⟨cu_blind D K 7 _, fun U h0 hW => ⟨rfl, by rw [h0]; exact P1, hU.warm hW⟩⟩ rfl rfl hl.1 rfl (lv_room (Nat.le_of_ble_eq_true rfl)) lw_d4 (by decide)) S1 (fun _ h => h) (fun _ h => h) (fun H2 locs2 P2 old2 S2 => ?_)
  refine lv_astore_n (i := 1) hx hb lw_d7 rfl hl (by decide) rfl (fun ls hl => ?_)
  refine W.newcK (own := R_law) (C := RX8) (n := 47) hx hb hown (hts _ (ab_wd_tb (j := 744) (by decide +kernel))) (hts _ (ab_wd_tb (j := 745) (by decide +kernel))) (hts _ (ab_wd_tb (j := (cu_ix 8).2.1) (by decide +kernel))) rfl lw_d8 (by decide) (by decide) (cu_cls (a := 8) (by decide) hU.1) rfl (fun H3 kM hkM e3 z3 o3 => ?_)
  have hsz : H2.size = s.heap.size + 135 := by rw [P2.1, cu_n7]
  have P3 : cu_P D K H2.size [cu_0 8] H3 := ⟨z3, fun i c hi => by
    obtain ⟨rfl, rfl⟩ := cu_one hi
    exact cu_born (by decide) hts hU.1 hkM e3⟩
  have S3 : va_S (fun q => s.heap.size ≤ q) s.heap H3 locs2 := cu_Snew S2 (by omega) o3
  refine lv_dup (va := .ref H2.size) (rest := []) hx hb lw_d11 rfl ?_
  refine cu_after (A := fun q => s.heap.size ≤ q) (H0 := s.heap) (B := cu_P D K H2.size (cu_fin 8)) (va_runI (Ts := ab_tb) (own := R_law) (index := 12) (b := H2.size) (As := []) (rest := [.ref H2.size]) (g := F0 m 12 ls [.ref H2.size, .ref H2.size]) ⟨hx, hb, hml, hown, hts⟩ (cu_M8 l D K H2.size) (cwI 0 hts (lw_good (k := 8) (by decide +kernel)) rfl rfl rfl (hts _ (ab_wd_tb (j := (cu_ix 8).2.1) (by decide +kernel))) (hts _ (ab_wd_tb (j := 746) (by decide +kernel))) (hts _ (ab_wd_tb (j := (cu_ix 8).2.2.2) (by decide +kernel))) rfl (lw_nm 8 (by decide)) (by decide)) ⟨cu_blind D K 8 _, fun U h0 hW => ⟨rfl, by rw [h0]; exact P3, hU.warm hW⟩⟩ rfl rfl hl.1 rfl (lv_room (Nat.le_of_ble_eq_true rfl)) lw_d12 (by decide)) S3 (fun q h => Nat.le_trans (by omega) h) (fun q h => Nat.le_trans (by omega) h) (fun H4 locs4 P4 old4 S4 => ?_)
  have PA : cu_P D K s.heap.size cu_all H4 := by
    refine cu_app (fun i c hi => ?_) (fun i c hi => ?_) ?_
    · have hlt := cu_lt P2 hi
      exact va_at.kept (va_at.kept (P2.2 i c hi) (o3 _ hlt)) (old4 _ (by show s.heap.size + i < H3.size; omega) (by show ¬ H2.size ≤ s.heap.size + i; omega))
    · rw [List.getElem?_map] at hi
      cases hf : (cu_fin 8)[i]? with
      | none => rw [hf] at hi; cases hi
      | some c' =>
        rw [hf] at hi
        have hc := Option.some.inj hi
        subst hc
        have h8 := P4.2 i c' hf
        unfold cu_at at h8 ⊢
        rw [← cu_esh, cu_n7, show s.heap.size + (135 + i) = s.heap.size + 135 + i by omega, ← hsz]
        exact h8
    · rw [P4.1, hsz, cu_n7, List.length_map]
      omega
  refine lv_astore_n (i := 2) hx hb lw_d15 rfl hl (by decide) rfl (fun ls hl => ?_)
  refine lv_iconst (v := 0) hx hb lw_d16 (by decide) ?_
  refine lv_istore_n (i := 3) hx hb lw_d17 rfl hl (by decide) rfl (fun ls hl => ?_)
  refine W.widen (k := 600000) (n := 7302250) (by decide) (by decide) ?_
  have okX : ab_okX (cu_Z l D K s.heap.size) (p, e, room_1, s, m, #[Value.ref b], below, meth, c, 600000, 7302250, lw_Z below #[Value.ref b] s, (fun q => s.heap.size ≤ q), b, L, xs, 147, 41) := ⟨hx, hb, hml, hown, hts, fun w hw => va_Nw.of (ab_isn_on hw) (hts0 w (List.mem_filter.mp hw).1), hU.1, fun q hq => by
      rcases hq with ⟨k, _, rfl⟩ | ⟨k, _, rfl⟩
      · exact Nat.le_add_right _ _
      · exact Nat.le_add_right _ _, by decide, by decide, Nat.le_refl _, Nat.le_refl _, cu_okZ l D K _⟩
  have hE : ∀ (x3 : Int32) (mm : ab_M), ab_G (cu_Z l D K s.heap.size) (p, e, room_1, s, m, #[Value.ref b], below, meth, c, 600000, 7302250, lw_Z below #[Value.ref b] s, (fun q => s.heap.size ≤ q), b, L, xs, 147, 41) (971, [(0, .inl (.ref 999)), (1, .inl (.ref 0)), (2, .inl (.ref 8)), (3, .inl (.int x3))], [.inl (.int 1)], mm) := by
    intro x3 mm H locs ls hP hS hl
    exact va_forget (fun q hq => hS.2.2 q hq) (lw_ret hx hb hr hlocks lw_d971)
  have G := lw_loop (cu_okZ l D K s.heap.size) (X := (p, e, room_1, s, m, #[Value.ref b], below, meth, c, 600000, 7302250, lw_Z below #[Value.ref b] s, (fun q => s.heap.size ≤ q), b, L, xs, 147, 41)) ⟨okX, rfl⟩ rfl ⟨hX, hbl, fun h => by omega⟩ hL hE (L + 7) 0 cu_m0 cu_iv (Nat.zero_le _) (by show L + 7 ≤ 0 + (L + 7); omega)
  refine G H4 locs4 ls (cu_place l D K PA) S4 (cu_re hl ?_)
  intro q hq
  have e8 : s.heap.size + cu_px 8 = H2.size := hsz.symm
  have hq : q ∈ [((0 : Nat), Value.ref b), (1, Value.ref (s.heap.size + cu_px 0)), (2, Value.ref (s.heap.size + cu_px 8)), (3, Value.int (nI 0))] := hq
  rw [e8] at hq
  simp only [List.mem_cons, List.not_mem_nil, or_false] at hq
  rcases hq with h | h | h | h
  · exact List.mem_of_getElem? (i := 3) (by rw [h]; rfl)
  · exact List.mem_of_getElem? (i := 2) (by rw [h]; rfl)
  · exact List.mem_of_getElem? (i := 1) (by rw [h]; rfl)
  · exact List.mem_of_getElem? (i := 0) (by rw [h]; rfl)
set_option maxHeartbeats 4000000 in
theorem lw_walk (l : Launch) (b : Addr) (xs : List Int32) : MetFree l x (headSpec (Jvm.Cond.code x code maxLocals ret :: tables_1) room_1) (lw_P b xs) (fun _ _ _ _ _ => True) lw_Q := by
  refine MetFree.of_bodyS (code := code) (maxLocals := maxLocals) (ret := ret) (by decide) ?_ ?_
  · intro args s m h hn
    obtain ⟨meth, c, h1, h2, h3, h4, h5, h6, -, -⟩ := Cond.code_spec hn (atoms_spec (ws := Jvm.Cond.code x code maxLocals ret :: tables_1) h _ List.mem_cons_self)
    exact ⟨meth, c, h1, h2, h3, h4, h5, h6⟩
  · intro p e s m args below meth c s₁ B hml0 hP _
    obtain ⟨rfl, hx, hbd, hgv⟩ := hP
    obtain ⟨scr, harrAt, hlist, hof, hsmall⟩ := hx
    obtain ⟨hcb, hkn, -, -⟩ := State.arrayAt?_spec harrAt
    have hown : s.vm.findClass R_law = some m.cls := findClass_of_methodNamed B.named
    have hts0 : ∀ c ∈ (Jvm.Cond.code x code maxLocals ret :: tables_1), c.before #[Value.ref b] s = true := atoms_spec (ws := Jvm.Cond.code x code maxLocals ret :: tables_1) B.pre
    have hts : ∀ w ∈ lw_tbl, w.before #[Value.ref b] s = true := k2_hts_sels lw_privs (fun w hw => hts0 w (List.mem_cons_of_mem _ hw)) lw_privs_ok
    have hml : c.maxLocals = 4 := B.maxLocals_eq (hts0 _ List.mem_cons_self)
    have X₀ : Stand p l e room_1 s m #[Value.ref b] below meth c s₁ [] 0 0 := Stand.of_body B
    have hh0 : s₁.heap = s.heap := by rw [B.state]; rfl
    have hsz : scr.slots.size = xs.length := by rw [← Array.length_toList, hlist, List.length_map]
    have hval : ∀ j : Nat, j < xs.length → scr.slots[j]? = some (.int (xs.getD j 0)) := fun j hj => by
      rw [← Array.getElem?_toList, hlist]
      simp [hj]
    have hbl : b < s.heap.size := (Array.getElem?_eq_some_iff.mp hcb).1
    have hX : va_X b xs.length (fun j => xs.getD j 0) s s.heap := ⟨scr, hcb, hof, hkn, hsz, hval⟩
    have K : W p l e room_1 s m #[Value.ref b] below meth c s₁.heap [] 0 0 (lw_Z below #[Value.ref b] s) (entryFrame m ([Value.ref b] : List Value).toArray 4) := by
      rw [hh0]
      exact whole_start l hbd ⟨B.exec, B.bytes, B.returns, hml, hown, hts, hX, hbl, B.notSynchronized, hgv⟩
    obtain ⟨t, a1, o, b1, b2, b3⟩ := K s₁ rfl X₀
    exact ⟨t, o, a1, b1, b2, b3⟩
theorem lw_pre_spec {args : Array Value} {s : State} (h : (Jvm.Cond.and given_1 narrow_1).before args s = true) (hr : rest_1_c.before args s = true) : ∃ (b : Addr) (xs : List Int32), lw_P b xs args s := by
  have hs := flat_of_before _ h
  have hq := flat_of_before _ hr
  have hc : (Cond.count 1).before args s = true := hs _ (by decide +kernel)
  have harr : (Cond.arrayOf (.arg 0) .int).before args s = true := hs _ (by decide +kernel)
  have hle : (Cond.le (.length (.arg 0)) (.int 3584)).before args s = true := hs _ (by decide +kernel)
  have hlen : (Cond.isInt (.length (.arg 0))).before args s = true := hq _ (by decide +kernel)
  have hall : (Cond.all (.arg 0) (.isInt (.elem (.arg 0) (.index 0)))).before args s = true := hq _ (by decide +kernel)
  obtain ⟨b, xs, hb, hx⟩ := State.ints_of_pre rfl harr hlen hall
  have hsm : xs.length < 2 ^ 31 := hx.choose_spec.2.2.2
  have hev : (Term.length (.arg 0)).eval args s none [] s = some (.int xs.length.toInt32) := hx.length_eval hb
  have hv := Cond.le_ints hev (show (Term.int 3584).eval args s none [] s = some (.int 3584) from rfl)
  have hd : xs.length.toInt32 ≤ 3584 := by
    simpa [Cond.before, Cond.holds, hv] using hle
  have hN : xs.length ≤ 3584 := (Int32.ofNat_le_ofNat hsm (by decide)).mp (show Int32.ofNat xs.length ≤ Int32.ofNat 3584 from hd)
  exact ⟨b, xs, Cond.one_arg hc (show args[0]? = some (.ref b) from hb), hx, hN, h⟩
theorem lw_comes (l : Launch) : Comes l x (Jvm.Cond.code x code maxLocals ret :: tables_1) room_1 (fun tb e args s => Calls_1 tb e args s ∧ rest_1 tb e args s ∧ Pre_1 tb e args s)
    (fun _ _ args s o t => lw_Q args s o t) := by
  intro p e ha hc hk s m args below hf hfit hheap happ hpre
  obtain ⟨b, xs, hP⟩ := lw_pre_spec hpre.2.2 hpre.2.1
  obtain ⟨k, o, h1, h2, h3, hQ⟩ := lw_walk l b xs p e ha hc hk s m args below hf ((Spec.applies_iff_loose hf).mp happ).1 hP trivial
  exact ⟨k, o, h1, h2, h3, hQ⟩
theorem lw_frame {s t : State} {o : Outcome} {args : Array Value} (h : Framed s o t [] 600000 7302250) :
    Framed s o t (fieldLocs frame_1_writes args s ++ arrayLocs frame_1_arrays args s ++ staticLocs frame_1_statics s) 600000 7302250 := h
theorem lw_limb (L : Cond) (hL : ∀ (args : Array Value) (s t : State), L.after args s (.returned (some (.int 1))) t = true) :
    ArmFor flags0 classFile x code maxLocals ret World_1 tables_1 room_1 Calls_1 rest_1 Pre_1
      (fun tb e a s o t => postC L tb e a s o t ∧ Framed s o t (fieldLocs frame_1_writes a s ++ arrayLocs frame_1_arrays a s ++ staticLocs frame_1_statics s) 600000 7302250) := by
  intro l _ _ _ p e ha hc hk s m args below hf hfit hheap happ hpre
  obtain ⟨k, o, h1, h2, h3, rfl, hF⟩ := lw_comes l p e ha hc hk s m args below hf hfit hheap happ hpre
  exact ⟨k, _, h1, h2, h3, hL args s _, lw_frame hF⟩
theorem i_vc : Claimed_1_1 ∧ Claimed_1_2 := ⟨lw_limb limb_1_1 (fun args s t => by simp [limb_1_1, Cond.after, Cond.holds, Cond.value]), lw_limb limb_1_2 (fun args s t => Cond.after_iff.mpr (by
  first | (rw [show limb_1_2 = Cond.eq .result (.int 1) from rfl, Cond.eq_ints (x := 1) (y := 1) rfl rfl]; simp; done) | (simp [limb_1_2, Cond.value, Term.eval]; done)))⟩
