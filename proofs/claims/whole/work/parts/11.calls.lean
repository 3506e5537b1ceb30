/-! ===== calls, switches, paths, contracts ===== -/
section ABC
variable {Z : ab_Z} {p : Program} {e : Env} {R : Room} {s : State} {mm : MethodId} {args : Array Value} {below : List Frame} {meth : Method} {c0 : Code} {cells slots : Nat} {Q : State → Prop} {A : Nat → Prop} {b N : Nat} {xs : Nat → Int32} {k d : Nat} {pc nx : Nat} {L : List (Nat × ab_V)} {S : List ab_V} {m : ab_M} {o o1 : List ab_O} {cn : Option Prop} {st1 : ab_S}
/-- behind a call -/
theorem ab_after {l : Launch} {D : va_G} {w1 : va_W} {H H0 : Heap} {locs : List Loc} {ls : Array Slot} {st0 rest : List Value} {r : Option Int32} {A1 free : Nat → Prop} (hr : va_Run p l e R s mm args below meth c0 H locs cells slots 0 0 (F0 mm pc ls st0) rest (fun st oc t => (oc = .returned (r.map Value.int) ∧ va_P D vwCl w1 t.heap) ∧ va_F A1 st t) free) (hS : va_S A H0 H locs) (hA : ∀ q, A1 q → A q) (hf : ∀ q, free q → A q)
    (kk : ∀ (H1 : Heap) (locs1 : List Loc), va_P D vwCl w1 H1 → va_S A H0 H1 locs1 → W p l e R s mm args below meth c0 H1 locs1 cells slots Q (F0 mm (pc + 3) ls ((r.map Value.int).toList ++ rest))) : W p l e R s mm args below meth c0 H locs cells slots Q (F0 mm pc ls st0) := by
  intro T hT X
  obtain ⟨v, st₀, t, T', L, h0, X', hL, e1, e2, ⟨⟨hv, hp⟩, hz, hk⟩, st⟩ := hr T hT X
  have hv : v = r.map Value.int := Outcome.returned.inj hv
  subst hv
  rw [h0] at hz hk
  obtain ⟨t2, a1, b1⟩ := kk T'.heap (locs ++ L) (by rw [e1]; exact hp)
    ⟨Nat.le_trans hS.1 (by rw [e1]; exact hz), fun q h1 h2 => by rw [e1, hk q (Nat.lt_of_lt_of_le h1 hS.1) (fun z => h2 (hA q z))]; exact hS.2.1 q h1 h2, fun q hq => by
      rcases List.mem_append.mp hq with h | h
      · exact hS.2.2 q h
      · exact hf _ (hL q h)⟩ T' rfl X'
  exact ⟨t2, st t2 a1, b1⟩
theorem ab_isn_on {w : Jvm.Cond} (h : w ∈ ab_nw) : w.onTables = true := by
  have h := (List.mem_filter.mp h).2
  cases w <;> first | rfl | cases h
theorem ab_nw_warm {w : Jvm.Cond} {u U : State} (h : w ∈ ab_nw) (hW : u.WarmedH U.vm) (hz : va_Nw w u) : va_Nw w U := by
  have h := (List.mem_filter.mp h).2
  cases w <;> first | exact va_Nw.warmF hW hz | cases h
theorem ab_cv_0 {v : ab_V} (h : ab_ref v = true) : ab_cv Z b v = ab_cv Z 0 v := by
  rcases v with v | v
  · cases v with
    | ref q =>
      have hq : q < 83 := of_decide_eq_true h
      rw [ab_ref_cv Z b hq, ab_ref_cv Z 0 hq]
    | _ => rfl
  · rfl
theorem ab_cvs_0 {l : List ab_V} (h : l.all ab_ref = true) : l.map (ab_cv Z b) = l.map (ab_cv Z 0) := List.map_congr_left (fun v hv => ab_cv_0 (List.all_eq_true.mp h v hv))
def ab_Pc (Z : ab_Z) (As : List ab_V) (m : ab_M) : Array Value → State → Prop := va_Pc (As.map (ab_cv Z 0)) (fun U => va_P (ab_D Z) vwCl (ab_w Z m) U.heap ∧ va_K (ab_D Z) vwCl (ab_ty Z) U ∧ ∀ w ∈ ab_nw, va_Nw w U)
theorem ab_blind (As : List ab_V) : FrameBlind (ab_Pc Z As m) := fun a U g mk q => ⟨q.1, q.2.1, va_K.moved (u := U) (U := U.calling g mk a) (Vm.Alike.refl U.vm) q.2.2.1, fun w hw => va_Nw.same (u := U) (U := U.calling g mk a) (ab_isn_on hw) rfl (q.2.2.2 w hw)⟩
theorem ab_s_cal (hx : p.tables.exec = Jvm.exec) (hb : c0.code = ab_mB k) (hts : ∀ w ∈ ab_tb, w.before args s = true) (hnw : ∀ w ∈ ab_nw, va_Nw w s) (hK : va_K (ab_D Z) vwCl (ab_ty Z) s) (hA : ∀ q, ab_A Z q → A q) (hZ : ab_okZ Z) {own : String} (hown : s.vm.findClass own = some mm.cls) (hml : c0.maxLocals = ab_mL k) (hdf : d ≤ R.frames) (hdl : 64 * d ≤ R.locals) (hcl : cells ≤ R.cells) (hsl : slots ≤ R.slots) {a ix j : Nat} {vi : Bool} (ha : a < ab_NM - 1) (hst : (ab_mJ a).2.2.2.2 = !vi) (hlk : ab_wd j (.methodLink own ix (ab_mY a)) = true) (hdg : decode (ab_mB k) pc = .ok (if vi then .invokevirtual ix else .invokestatic ix, 3)) (hs : ab_cal Z d a (pc + 3) o (pc, L, S, m) = some (cn, o1, st1)) (hc : ab_cd cn) (hG : ab_G Z (p, e, R, s, mm, args, below, meth, c0, cells, slots, Q, A, b, N, xs, k, d) st1) : ab_G Z (p, e, R, s, mm, args, below, meth, c0, cells, slots, Q, A, b, N, xs, k, d) (pc, L, S, m) := by
  unfold ab_cal at hs
  split at hs
  · cases hs
  · next q o' =>
    split at hs
    · next hok =>
      cases hs
      obtain ⟨d', r, m'⟩ := q
      obtain ⟨hd, hM⟩ := hc
      have hd : d' < d := hd
      unfold ab_cok at hok
      simp only [Bool.and_eq_true, decide_eq_true_eq] at hok
      obtain ⟨hsum, hrefs, hlen, hret, hrcv⟩ := hok
      have hmk := ab_mck ha
      unfold ab_mchk at hmk
      simp only [Bool.and_eq_true, decide_eq_true_eq] at hmk
      obtain ⟨hcode, hini, hn1, hn2, -, hL40, -, hrest⟩ := hmk
      generalize hna : (ab_mI a).2.2.1 = na at *
      have hsplit : S = S.take na ++ S.drop na := (List.take_append_drop na S).symm
      have hRm : (ab_rm d').frames + 1 ≤ R.frames ∧ 8 + (ab_mL a + 11) + (ab_rm d').locals ≤ R.locals := by
        show d' + 1 ≤ R.frames ∧ 8 + (ab_mL a + 11) + 64 * d' ≤ R.locals
        omega
      have hgood : ∀ w ∈ ab_mW a, w ∈ ab_tb := fun w hw => by
        rcases List.mem_cons.mp hw with h | h
        · rw [h]; exact ab_wd_tb hcode
        · exact h
      have hmap : ((S.drop na).map (ab_cv Z b)).map (fun v => v.category) = (S.drop na).map ab_cat := by
        rw [List.map_map]
        exact List.map_congr_left (fun v _ => ab_cat_cv Z b v)
      intro H locs ls hP hS hl
      have hout : ∀ (H1 : Heap) (locs1 : List Loc), va_P (ab_D Z) vwCl (ab_w Z m') H1 → va_S A s.heap H1 locs1 → W p Z.1 e R s mm args below meth c0 H1 locs1 cells slots Q (F0 mm (pc + 3) ls ((r.map Value.int).toList ++ (S.drop na).map (ab_cv Z b))) := by
        intro H1 locs1 hP1 hS1
        have h9 := hG H1 locs1 ls hP1 hS1 hl
        cases r with
        | none => exact h9
        | some x => exact h9
      cases vi with
      | false =>
        rw [hst] at hrest
        simp only [Bool.not_false, if_true, Bool.and_eq_true, decide_eq_true_eq] at hrest
        obtain ⟨hstat, hpar⟩ := hrest
        have hG2 : GoodIn ab_tb (va_wsS own ix (ab_mY a) (ab_mW a)) := ab_good (fun w hw => by
          rcases List.mem_append.mp hw with h | h
          · simp only [List.mem_cons, List.not_mem_nil, or_false] at h
            rcases h with rfl | rfl | rfl
            · exact ab_wd_tb hlk
            · exact ab_wd_tb hstat
            · exact ab_wd_tb hini
          · exact hgood w h)
        have cw := va_cwS (R := R) (s := s) (args := args) (ret := ab_mR a) (bytes := ab_mB a) (maxL := ab_mL a) (rm := ab_rm d') (mc := 0) (ms := 0) na hts hG2 rfl rfl rfl ⟨hn1, hn2, hpar⟩ hRm
        refine ab_after (A := A) (H0 := s.heap) (va_runS (Ts := ab_tb) (As := (S.take na).reverse.map (ab_cv Z 0)) (rest := (S.drop na).map (ab_cv Z b)) (g := F0 mm pc ls (S.map (ab_cv Z b))) ⟨hx, hb, hml, hown, hts⟩ hM cw ⟨ab_blind _, fun U hU hW => ⟨rfl, by rw [hU]; exact hP, va_K.moved hW.alike hK, fun w hw => ab_nw_warm hw hW (hnw w hw)⟩⟩ rfl (by rw [List.length_map, List.length_reverse]; exact hlen) hl.1 ?_ (lv_room (by rw [hmap]; exact hsum)) hdg ⟨hcl, hsl⟩) hS hA hA hout
        show S.map (ab_cv Z b) = _
        rw [← List.map_reverse, List.reverse_reverse, ← ab_cvs_0 hrefs, ← List.map_append, ← hsplit]
      | true =>
        rw [hst] at hrest hrcv
        simp only [Bool.not_true, Bool.false_eq_true, if_false, Bool.and_eq_true, decide_eq_true_eq, Bool.false_or] at hrest hrcv
        obtain ⟨hinst, hsel, hpar, hcls⟩ := hrest
        cases hrev : (S.take na).reverse with
        | nil => rw [hrev] at hrcv; cases hrcv
        | cons v As =>
          rw [hrev] at hrcv hM
          rcases v with v | v
          · cases v with
            | ref q =>
              simp only [Bool.and_eq_true, decide_eq_true_eq] at hrcv
              obtain ⟨hq, hsh⟩ := hrcv
              cases hvc : vwCl[(ab_mI a).2.2.2]? with
              | none => rw [hvc] at hcls; cases hcls
              | some z =>
                rw [hvc] at hcls
                have hzc : z.1 = (ab_mY a).cls := of_decide_eq_true hcls
                have hG2 : GoodIn ab_tb (wsV own ix (ab_mY a).cls (ab_mY a) (ab_mW a)) := ab_good (fun w hw => by
                  rcases List.mem_append.mp hw with h | h
                  · simp only [List.mem_cons, List.not_mem_nil, or_false] at h
                    rcases h with rfl | rfl | rfl | rfl
                    · exact ab_wd_tb hlk
                    · exact ab_wd_tb hinst
                    · exact ab_wd_tb hsel
                    · exact ab_wd_tb hini
                  · exact hgood w h)
                have hlen2 : As.length + 1 = na := by
                  have := congrArg List.length hrev
                  rw [List.length_reverse, List.length_cons] at this
                  omega
                have hpar2 : (parseMethodDescriptor (ab_mY a).desc).map (fun d => d.parameters.length) = some As.length := by
                  cases hpd : parseMethodDescriptor (ab_mY a).desc with
                  | none => rw [hpd] at hpar; cases hpar
                  | some dd =>
                    rw [hpd] at hpar
                    have h8 : dd.parameters.length + 1 = na := Option.some.inj hpar
                    show some dd.parameters.length = some As.length
                    exact congrArg some (by omega)
                have cw := cwV (R := R) (s := s) (args := args) (C := (ab_mY a).cls) (ret := ab_mR a) (bytes := ab_mB a) (maxL := ab_mL a) (rm := ab_rm d') (mc := 0) (ms := 0) As.length hts hG2 rfl rfl rfl ⟨rfl, hn1, hn2, hpar2⟩ hRm
                have hrec := va_recv (ci := (ab_mI a).2.2.2) (q0 := q) (q := z) hK hP hvc (ab_at_o Z m hq hsh)
                rw [hzc] at hrec
                have htk : S.take na = (As.reverse ++ [.inl (.ref q)]) := by
                  have := congrArg List.reverse hrev
                  rw [List.reverse_reverse, List.reverse_cons] at this
                  exact this
                refine ab_after (A := A) (H0 := s.heap) (va_runV (Ts := ab_tb) (b := ab_ad Z q) (As := As.map (ab_cv Z 0)) (rest := (S.drop na).map (ab_cv Z b)) (g := F0 mm pc ls (S.map (ab_cv Z b))) ⟨hx, hb, hml, hown, hts⟩ hM cw ⟨ab_blind _, hrec, fun U hU hW => ⟨?_, by rw [hU]; exact hP, va_K.moved hW.alike hK, fun w hw => ab_nw_warm hw hW (hnw w hw)⟩⟩ rfl (by rw [List.length_map]) hl.1 ?_ (lv_room (by rw [hmap]; exact hsum)) hdg ⟨hcl, hsl⟩) hS hA hA hout
                · show (Value.ref (ab_ad Z q) :: As.map (ab_cv Z 0)).toArray = (ab_cv Z 0 (.inl (.ref q)) :: As.map (ab_cv Z 0)).toArray
                  rw [ab_ref_cv Z 0 hq]
                · show S.map (ab_cv Z b) = _
                  have h7 : (S.take na).map (ab_cv Z b) = (As.map (ab_cv Z 0)).reverse ++ [Value.ref (ab_ad Z q)] := by
                    rw [ab_cvs_0 hrefs, htk, List.map_append, List.map_reverse]
                    show _ ++ [ab_cv Z 0 (.inl (.ref q))] = _
                    rw [ab_ref_cv Z 0 hq]
                  calc S.map (ab_cv Z b) = (S.take na ++ S.drop na).map (ab_cv Z b) := by rw [← hsplit]
                    _ = _ := by rw [List.map_append, h7, List.append_assoc]; rfl
            | _ => cases hrcv
          · cases hrcv
    · cases hs
theorem ab_nt1_eq {H : Heap} {locs : List Loc} {ls : Array Slot} {rest : List Value} {x : Int32} {off : Int} (hexec : p.tables.exec = Jvm.exec) (hb : c0.code = ab_mB k) (hdg : decode (ab_mB k) pc = .ok (.ifCond .eq off, 3)) (hP : ¬ x = 0) (kk : W p Z.1 e R s mm args below meth c0 H locs cells slots Q (F0 mm (pc + 3) ls rest)) : W p Z.1 e R s mm args below meth c0 H locs cells slots Q (F0 mm pc ls (.int x :: rest)) := by
  intro T hT X
  obtain ⟨t, a, b⟩ := kk T hT X
  refine ⟨t, ?_, b⟩
  jvm_step X.here [X.here.top, hexec, hb, hdg, Op.ifCond.holds, hP]
  exact a
theorem ab_nt1_ne {H : Heap} {locs : List Loc} {ls : Array Slot} {rest : List Value} {x : Int32} {off : Int} (hexec : p.tables.exec = Jvm.exec) (hb : c0.code = ab_mB k) (hdg : decode (ab_mB k) pc = .ok (.ifCond .ne off, 3)) (hP : x = 0) (kk : W p Z.1 e R s mm args below meth c0 H locs cells slots Q (F0 mm (pc + 3) ls rest)) : W p Z.1 e R s mm args below meth c0 H locs cells slots Q (F0 mm pc ls (.int x :: rest)) := by
  intro T hT X
  obtain ⟨t, a, b⟩ := kk T hT X
  refine ⟨t, ?_, b⟩
  jvm_step X.here [X.here.top, hexec, hb, hdg, Op.ifCond.holds, hP]
  exact a
theorem ab_nt1_lt {H : Heap} {locs : List Loc} {ls : Array Slot} {rest : List Value} {x : Int32} {off : Int} (hexec : p.tables.exec = Jvm.exec) (hb : c0.code = ab_mB k) (hdg : decode (ab_mB k) pc = .ok (.ifCond .lt off, 3)) (hP : ¬ x < 0) (kk : W p Z.1 e R s mm args below meth c0 H locs cells slots Q (F0 mm (pc + 3) ls rest)) : W p Z.1 e R s mm args below meth c0 H locs cells slots Q (F0 mm pc ls (.int x :: rest)) := by
  intro T hT X
  obtain ⟨t, a, b⟩ := kk T hT X
  refine ⟨t, ?_, b⟩
  jvm_step X.here [X.here.top, hexec, hb, hdg, Op.ifCond.holds, hP]
  exact a
theorem ab_nt1_ge {H : Heap} {locs : List Loc} {ls : Array Slot} {rest : List Value} {x : Int32} {off : Int} (hexec : p.tables.exec = Jvm.exec) (hb : c0.code = ab_mB k) (hdg : decode (ab_mB k) pc = .ok (.ifCond .ge off, 3)) (hP : ¬ 0 ≤ x) (kk : W p Z.1 e R s mm args below meth c0 H locs cells slots Q (F0 mm (pc + 3) ls rest)) : W p Z.1 e R s mm args below meth c0 H locs cells slots Q (F0 mm pc ls (.int x :: rest)) := by
  intro T hT X
  obtain ⟨t, a, b⟩ := kk T hT X
  refine ⟨t, ?_, b⟩
  jvm_step X.here [X.here.top, hexec, hb, hdg, Op.ifCond.holds, hP]
  exact a
theorem ab_nt1_gt {H : Heap} {locs : List Loc} {ls : Array Slot} {rest : List Value} {x : Int32} {off : Int} (hexec : p.tables.exec = Jvm.exec) (hb : c0.code = ab_mB k) (hdg : decode (ab_mB k) pc = .ok (.ifCond .gt off, 3)) (hP : ¬ 0 < x) (kk : W p Z.1 e R s mm args below meth c0 H locs cells slots Q (F0 mm (pc + 3) ls rest)) : W p Z.1 e R s mm args below meth c0 H locs cells slots Q (F0 mm pc ls (.int x :: rest)) := by
  intro T hT X
  obtain ⟨t, a, b⟩ := kk T hT X
  refine ⟨t, ?_, b⟩
  jvm_step X.here [X.here.top, hexec, hb, hdg, Op.ifCond.holds, hP]
  exact a
theorem ab_nt1_le {H : Heap} {locs : List Loc} {ls : Array Slot} {rest : List Value} {x : Int32} {off : Int} (hexec : p.tables.exec = Jvm.exec) (hb : c0.code = ab_mB k) (hdg : decode (ab_mB k) pc = .ok (.ifCond .le off, 3)) (hP : ¬ x ≤ 0) (kk : W p Z.1 e R s mm args below meth c0 H locs cells slots Q (F0 mm (pc + 3) ls rest)) : W p Z.1 e R s mm args below meth c0 H locs cells slots Q (F0 mm pc ls (.int x :: rest)) := by
  intro T hT X
  obtain ⟨t, a, b⟩ := kk T hT X
  refine ⟨t, ?_, b⟩
  jvm_step X.here [X.here.top, hexec, hb, hdg, Op.ifCond.holds, hP]
  exact a
theorem ab_nt2_eq {H : Heap} {locs : List Loc} {ls : Array Slot} {rest : List Value} {x y : Int32} {off : Int} (hexec : p.tables.exec = Jvm.exec) (hb : c0.code = ab_mB k) (hdg : decode (ab_mB k) pc = .ok (.if_icmp .eq off, 3)) (hP : ¬ x = y) (kk : W p Z.1 e R s mm args below meth c0 H locs cells slots Q (F0 mm (pc + 3) ls rest)) : W p Z.1 e R s mm args below meth c0 H locs cells slots Q (F0 mm pc ls (.int y :: .int x :: rest)) := by
  intro T hT X
  obtain ⟨t, a, b⟩ := kk T hT X
  refine ⟨t, ?_, b⟩
  jvm_step X.here [X.here.top, hexec, hb, hdg, Op.if_icmp.holds, hP]
  exact a
theorem ab_nt2_ne {H : Heap} {locs : List Loc} {ls : Array Slot} {rest : List Value} {x y : Int32} {off : Int} (hexec : p.tables.exec = Jvm.exec) (hb : c0.code = ab_mB k) (hdg : decode (ab_mB k) pc = .ok (.if_icmp .ne off, 3)) (hP : x = y) (kk : W p Z.1 e R s mm args below meth c0 H locs cells slots Q (F0 mm (pc + 3) ls rest)) : W p Z.1 e R s mm args below meth c0 H locs cells slots Q (F0 mm pc ls (.int y :: .int x :: rest)) := by
  intro T hT X
  obtain ⟨t, a, b⟩ := kk T hT X
  refine ⟨t, ?_, b⟩
  jvm_step X.here [X.here.top, hexec, hb, hdg, Op.if_icmp.holds, hP]
  exact a
theorem ab_nt2_lt {H : Heap} {locs : List Loc} {ls : Array Slot} {rest : List Value} {x y : Int32} {off : Int} (hexec : p.tables.exec = Jvm.exec) (hb : c0.code = ab_mB k) (hdg : decode (ab_mB k) pc = .ok (.if_icmp .lt off, 3)) (hP : ¬ x < y) (kk : W p Z.1 e R s mm args below meth c0 H locs cells slots Q (F0 mm (pc + 3) ls rest)) : W p Z.1 e R s mm args below meth c0 H locs cells slots Q (F0 mm pc ls (.int y :: .int x :: rest)) := by
  intro T hT X
  obtain ⟨t, a, b⟩ := kk T hT X
  refine ⟨t, ?_, b⟩
  jvm_step X.here [X.here.top, hexec, hb, hdg, Op.if_icmp.holds, hP]
  exact a
theorem ab_nt2_ge {H : Heap} {locs : List Loc} {ls : Array Slot} {rest : List Value} {x y : Int32} {off : Int} (hexec : p.tables.exec = Jvm.exec) (hb : c0.code = ab_mB k) (hdg : decode (ab_mB k) pc = .ok (.if_icmp .ge off, 3)) (hP : ¬ y ≤ x) (kk : W p Z.1 e R s mm args below meth c0 H locs cells slots Q (F0 mm (pc + 3) ls rest)) : W p Z.1 e R s mm args below meth c0 H locs cells slots Q (F0 mm pc ls (.int y :: .int x :: rest)) := by
  intro T hT X
  obtain ⟨t, a, b⟩ := kk T hT X
  refine ⟨t, ?_, b⟩
  jvm_step X.here [X.here.top, hexec, hb, hdg, Op.if_icmp.holds, hP]
  exact a
theorem ab_nt2_gt {H : Heap} {locs : List Loc} {ls : Array Slot} {rest : List Value} {x y : Int32} {off : Int} (hexec : p.tables.exec = Jvm.exec) (hb : c0.code = ab_mB k) (hdg : decode (ab_mB k) pc = .ok (.if_icmp .gt off, 3)) (hP : ¬ y < x) (kk : W p Z.1 e R s mm args below meth c0 H locs cells slots Q (F0 mm (pc + 3) ls rest)) : W p Z.1 e R s mm args below meth c0 H locs cells slots Q (F0 mm pc ls (.int y :: .int x :: rest)) := by
  intro T hT X
  obtain ⟨t, a, b⟩ := kk T hT X
  refine ⟨t, ?_, b⟩
  jvm_step X.here [X.here.top, hexec, hb, hdg, Op.if_icmp.holds, hP]
  exact a
theorem ab_nt2_le {H : Heap} {locs : List Loc} {ls : Array Slot} {rest : List Value} {x y : Int32} {off : Int} (hexec : p.tables.exec = Jvm.exec) (hb : c0.code = ab_mB k) (hdg : decode (ab_mB k) pc = .ok (.if_icmp .le off, 3)) (hP : ¬ x ≤ y) (kk : W p Z.1 e R s mm args below meth c0 H locs cells slots Q (F0 mm (pc + 3) ls rest)) : W p Z.1 e R s mm args below meth c0 H locs cells slots Q (F0 mm pc ls (.int y :: .int x :: rest)) := by
  intro T hT X
  obtain ⟨t, a, b⟩ := kk T hT X
  refine ⟨t, ?_, b⟩
  jvm_step X.here [X.here.top, hexec, hb, hdg, Op.if_icmp.holds, hP]
  exact a
theorem ab_row1 {cd : Jvm.ClassFile.Cond} {off : Int} {t : Nat} {H : Heap} {locs : List Loc} {ls : Array Slot} {rest : List Value} {x : Int32} (hx : p.tables.exec = Jvm.exec) (hb : c0.code = ab_mB k) (hdg : decode (ab_mB k) pc = .ok (.ifCond cd off, 3)) (hnx : (if t = 0 then decide (nx = pc + 3) else decide ((pc : Int) + off = (nx : Int))) = true) (hc : ab_c2 cd t x 0) (hW : W p Z.1 e R s mm args below meth c0 H locs cells slots Q (F0 mm nx ls rest)) : W p Z.1 e R s mm args below meth c0 H locs cells slots Q (F0 mm pc ls (.int x :: rest)) := by
  cases t with
  | zero =>
    rw [if_pos rfl] at hnx
    have hnx := of_decide_eq_true hnx
    subst hnx
    cases cd
    · exact ab_nt1_eq hx hb hdg hc hW
    · exact ab_nt1_ne hx hb hdg hc hW
    · exact ab_nt1_lt hx hb hdg hc hW
    · exact ab_nt1_ge hx hb hdg hc hW
    · exact ab_nt1_gt hx hb hdg hc hW
    · exact ab_nt1_le hx hb hdg hc hW
  | succ t =>
    rw [if_neg (by omega)] at hnx
    have ht := of_decide_eq_true hnx
    cases cd
    · exact lv_if_eq hx hb hdg ht (fun _ => hW) (fun q => absurd hc q)
    · exact lv_if_ne hx hb hdg ht (fun _ => hW) (fun q => absurd q hc)
    · exact lv_if_lt hx hb hdg ht (fun _ => hW) (fun q => absurd hc q)
    · exact lv_if_ge hx hb hdg ht (fun _ => hW) (fun q => absurd hc q)
    · exact lv_if_gt hx hb hdg ht (fun _ => hW) (fun q => absurd hc q)
    · exact lv_if_le hx hb hdg ht (fun _ => hW) (fun q => absurd hc q)
theorem ab_row2 {cd : Jvm.ClassFile.Cond} {off : Int} {t : Nat} {H : Heap} {locs : List Loc} {ls : Array Slot} {rest : List Value} {x y : Int32} (hx : p.tables.exec = Jvm.exec) (hb : c0.code = ab_mB k) (hdg : decode (ab_mB k) pc = .ok (.if_icmp cd off, 3)) (hnx : (if t = 0 then decide (nx = pc + 3) else decide ((pc : Int) + off = (nx : Int))) = true) (hc : ab_c2 cd t x y) (hW : W p Z.1 e R s mm args below meth c0 H locs cells slots Q (F0 mm nx ls rest)) : W p Z.1 e R s mm args below meth c0 H locs cells slots Q (F0 mm pc ls (.int y :: .int x :: rest)) := by
  cases t with
  | zero =>
    rw [if_pos rfl] at hnx
    have hnx := of_decide_eq_true hnx
    subst hnx
    cases cd
    · exact ab_nt2_eq hx hb hdg hc hW
    · exact ab_nt2_ne hx hb hdg hc hW
    · exact ab_nt2_lt hx hb hdg hc hW
    · exact ab_nt2_ge hx hb hdg hc hW
    · exact ab_nt2_gt hx hb hdg hc hW
    · exact ab_nt2_le hx hb hdg hc hW
  | succ t =>
    rw [if_neg (by omega)] at hnx
    have ht := of_decide_eq_true hnx
    cases cd
    · exact lv_icmp_eq hx hb hdg ht (fun _ => hW) (fun q => absurd hc q)
    · exact lv_icmp_ne hx hb hdg ht (fun _ => hW) (fun q => absurd q hc)
    · exact lv_icmp_lt hx hb hdg ht (fun _ => hW) (fun q => absurd hc q)
    · exact lv_icmp_ge hx hb hdg ht (fun _ => hW) (fun q => absurd hc q)
    · exact lv_icmp_gt hx hb hdg ht (fun _ => hW) (fun q => absurd hc q)
    · exact lv_icmp_le hx hb hdg ht (fun _ => hW) (fun q => absurd hc q)
theorem ab_s_sw (hx : p.tables.exec = Jvm.exec) (hb : c0.code = ab_mB k) {dflt lo hi : Int} {offs : Array Int} {len a j : Nat} {v : Int32} (hdg : decode (ab_mB k) pc = .ok (.tableswitch dflt lo hi offs, len)) (hok : (decide (lo = 0) && (decide (0 ≤ hi) && (if a = 0 then decide ((pc : Int) + dflt = (nx : Int)) else (decide (v = Int32.ofNat j) && (decide (v.toInt = (j : Int)) && (decide ((j : Int) ≤ hi) && match offs[j]? with | some off => decide ((pc : Int) + off = (nx : Int)) | none => false)))))) = true) (hs : ab_sw hi.toNat a v nx o (pc, L, S, m) = some (cn, o1, st1)) (hc : ab_cd cn) (hG : ab_G Z (p, e, R, s, mm, args, below, meth, c0, cells, slots, Q, A, b, N, xs, k, d) st1) : ab_G Z (p, e, R, s, mm, args, below, meth, c0, cells, slots, Q, A, b, N, xs, k, d) (pc, L, S, m) := by
  rw [Bool.and_eq_true, Bool.and_eq_true, decide_eq_true_eq, decide_eq_true_eq] at hok
  obtain ⟨rfl, hhi, hok⟩ := hok
  unfold ab_sw at hs
  split at hs
  · next x r hq =>
    have hq : S = .inl (.int x) :: r := hq
    subst hq
    cases hs
    intro H locs ls hP hS hl
    cases a with
    | zero =>
      rw [if_pos rfl] at hok
      have hc : x.toInt < 0 ∨ (hi.toNat : Int) < x.toInt := hc
      exact lv_tableOut hx hb hdg (by omega) (of_decide_eq_true hok) (hG H locs ls hP hS hl)
    | succ a =>
      rw [if_neg (by omega)] at hok
      simp only [Bool.and_eq_true, decide_eq_true_eq] at hok
      obtain ⟨-, hv, hj, hoff⟩ := hok
      have hc : x = v := hc
      subst hc
      cases ho : offs[j]? with
      | none => rw [ho] at hoff; cases hoff
      | some off =>
        rw [ho] at hoff
        exact lv_tableIn hx hb hdg (by omega) (by omega) (by rw [show (x.toInt - 0).toNat = j by omega]; exact ho) (of_decide_eq_true hoff) (hG H locs ls hP hS hl)
  · cases hs
end ABC
