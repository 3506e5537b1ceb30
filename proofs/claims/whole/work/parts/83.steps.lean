/-! ===== a constructor's contract, and its steps ===== -/
def cu_rm (k : Nat) : Room := { frames := if k = 7 then 2 else 1, cells := cu_mc k, slots := cu_ms k, locals := if k = 7 then 200 else 60 }
def cu_W (k : Nat) : List Jvm.Cond := .code (cu_y k) (cu_b k) (cu_L k) none :: ab_tb
def cu_Pc (D : va_G) (K : cu_K) (k o : Nat) : Array Value → State → Prop := va_Pc [.ref o] (fun U => cu_P D K o [cu_0 k] U.heap ∧ cu_U D K U)
def cu_M (l : Launch) (D : va_G) (K : cu_K) (k o : Nat) : Prop := Met l (cu_y k) (cu_W k) (cu_rm k) (cu_Pc D K k o) (fun _ st oc t => (oc = .returned none ∧ cu_P D K o (cu_fin k) t.heap) ∧ va_F (fun q => o ≤ q) st t) (cu_mc k) (cu_ms k) (fun q => o ≤ q)
theorem cu_isn_warm {w : Jvm.Cond} {u U : State} (h : w ∈ lw_tbl.filter cu_isn) (hW : u.WarmedH U.vm) (hz : va_Nw w u) : va_Nw w U := by
  have h := (List.mem_filter.mp h).2
  cases w with
  | methodLinkNest a b c d => exact va_Nw.warmM hW hz
  | arrayOver t =>
    cases t with
    | array t => exact arrayOver_alikeB hW.alike hz
    | _ => cases h
  | _ => cases h
theorem cu_isn_alike {w : Jvm.Cond} {u U : State} (h : w ∈ lw_tbl.filter cu_isn) (hv : u.vm = U.vm) (hz : va_Nw w u) : va_Nw w U := by
  have h := (List.mem_filter.mp h).2
  cases w with
  | methodLinkNest a b c d => exact va_Nw.same rfl hv hz
  | arrayOver t =>
    cases t with
    | array t => exact arrayOver_alikeB (by rw [hv]; exact Vm.Alike.refl U.vm) hz
    | _ => cases h
  | _ => cases h
theorem cu_U.warm {D : va_G} {K : cu_K} {u U : State} (h : cu_U D K u) (hW : u.WarmedH U.vm) : cu_U D K U := ⟨va_K.moved hW.alike h.1, fun w hw => cu_isn_warm hw hW (h.2 w hw)⟩
theorem cu_blind (D : va_G) (K : cu_K) (k o : Nat) : FrameBlind (cu_Pc D K k o) := fun a U g mk q => ⟨q.1, q.2.1, va_K.moved (u := U) (U := U.calling g mk a) (Vm.Alike.refl U.vm) q.2.2.1, fun w hw => cu_isn_alike (u := U) (U := U.calling g mk a) hw rfl (q.2.2.2 w hw)⟩
abbrev cu_X : Type := Program × Launch × Env × Room × State × MethodId × Array Value × List Frame × Method × Code × (State → Prop) × va_G × cu_K × Nat × Nat
abbrev cu_xk (X : cu_X) : Nat := X.2.2.2.2.2.2.2.2.2.2.2.2.2.2
def cu_G (X : cu_X) (st : cu_S) : Prop := match X with
  | (p, l, e, R, s, mm, args, below, meth, c0, Q, D, K, o, k) => ∀ (H : Heap) (locs : List Loc) (ls : Array Slot), cu_P D K o st.2.2.2.1 H → va_S (fun q => o ≤ q) s.heap H locs → lv_has ls (cu_L k) ((0, .ref o) :: st.2.1.map (fun i => (1, Value.int i))) → W p l e R s mm args below meth c0 H locs st.2.2.2.2.1 st.2.2.2.2.2 Q (F0 mm st.1 ls (st.2.2.1.map (cu_v o)))
def cu_okX (X : cu_X) : Prop := match X with
  | (p, l, _, R, s, mm, args, _, meth, c0, _, D, K, _, k) => p.tables.exec = Jvm.exec ∧ c0.code = cu_b k ∧ c0.maxLocals = cu_L k ∧ s.vm.findClass (cu_c k) = some mm.cls ∧ (∀ w ∈ ab_tb, w.before args s = true) ∧ cu_U D K s ∧ meth.name = "<init>" ∧ (cu_rm k).frames ≤ R.frames ∧ (cu_rm k).locals ≤ R.locals ∧ cu_mc k ≤ R.cells ∧ cu_ms k ≤ R.slots ∧ k < 9 ∧ (k = 7 → ∀ a, a < 7 → ∀ b, cu_M l D K a b)
theorem cu_cat (o : Nat) : ∀ r : List cu_V, ((r.map (cu_v o)).map (fun v => v.category)).sum = r.length
  | [] => rfl
  | w :: r => by
    rw [List.map_cons, List.map_cons, List.sum_cons, cu_cat o r, List.length_cons]
    rcases w with w | w
    · show 1 + r.length = _; omega
    · show 1 + r.length = _; omega
theorem cu_wn_in {j : Nat} {w : Jvm.Cond} (h : ab_wn j w = true) (hn : cu_isn w = true) : w ∈ lw_tbl.filter cu_isn := List.mem_filter.mpr ⟨List.mem_of_getElem? (of_decide_eq_true h), hn⟩
theorem cu_after {p : Program} {l : Launch} {e : Env} {R : Room} {s : State} {mm : MethodId} {args : Array Value} {below : List Frame} {meth : Method} {c0 : Code} {Q : State → Prop} {H H0 : Heap} {locs : List Loc} {ls : Array Slot} {st0 rest : List Value} {A A1 free : Nat → Prop} {B : Heap → Prop} {cells slots mc ms pc : Nat} (hr : va_Run p l e R s mm args below meth c0 H locs cells slots mc ms (F0 mm pc ls st0) rest (fun st oc t => (oc = .returned none ∧ B t.heap) ∧ va_F A1 st t) free) (hS : va_S A H0 H locs) (hA : ∀ q, A1 q → A q) (hf : ∀ q, free q → A q)
    (kk : ∀ (H1 : Heap) (locs1 : List Loc), B H1 → (∀ q : Nat, q < H.size → ¬ A1 q → H1[q]? = H[q]?) → va_S A H0 H1 locs1 → W p l e R s mm args below meth c0 H1 locs1 (cells + mc) (slots + ms) Q (F0 mm (pc + 3) ls rest)) : W p l e R s mm args below meth c0 H locs cells slots Q (F0 mm pc ls st0) := by
  intro T hT X
  obtain ⟨v, st₀, t, T', L, h0, X', hL, e1, e2, ⟨⟨hv, hp⟩, hz, hk⟩, st⟩ := hr T hT X
  have hv : v = none := Outcome.returned.inj hv
  subst hv
  rw [h0] at hz hk
  obtain ⟨t2, a1, b1⟩ := kk T'.heap (locs ++ L) (by rw [e1]; exact hp) (fun q h1 h2 => by rw [e1]; exact hk q h1 h2)
    ⟨Nat.le_trans hS.1 (by rw [e1]; exact hz), fun q h1 h2 => by rw [e1, hk q (Nat.lt_of_lt_of_le h1 hS.1) (fun z => h2 (hA q z))]; exact hS.2.1 q h1 h2, fun q hq => by
      rcases List.mem_append.mp hq with h | h
      · exact hS.2.2 q h
      · exact hf _ (hL q h)⟩ T' rfl X'
  exact ⟨t2, st t2 a1, b1⟩
theorem cu_obj {D : va_G} {K : cu_K} {o i k : Nat} {c : cu_C} {H : Heap} (h : cu_at D K o i c H) (hk : c.1 = 4 + k) : va_at D vwCl (o + i, .inr (k, c.2.2.2.map (cu_f o))) H := by
  obtain ⟨t, n, f, fs⟩ := c
  have hk : t = 4 + k := hk
  subst hk
  have e : cu_e K o (4 + k, n, f, fs) = .inr (k, fs.map (cu_f o)) := by
    rw [show 4 + k = k + 4 by omega]
    rfl
  unfold cu_at at h
  rw [e] at h
  exact h
theorem cu_obj' {D : va_G} {K : cu_K} {o i k n f : Nat} {fs : List cu_F} {H : Heap} (h : va_at D vwCl (o + i, .inr (k, fs.map (cu_f o))) H) : cu_at D K o i (4 + k, n, f, fs) H := by
  have e : cu_e K o (4 + k, n, f, fs) = .inr (k, fs.map (cu_f o)) := by
    rw [show 4 + k = k + 4 by omega]
    rfl
  unfold cu_at
  rw [e]
  exact h
theorem cu_fv (o : Nat) (w : cu_V) : cu_f o (some w) = cu_v o w := by
  rcases w with w | w <;> rfl
theorem cu_pvs {d : String} {w : cu_V} (o : Nat) (h : cu_pv d w = true) : ∃ ty, parseFieldDescriptor d = some ty ∧ narrow ty (cu_v o w) = cu_v o w ∧ fits ty (cu_v o w) = true := by
  unfold cu_pv at h
  split at h
  · next e => exact ⟨_, e, rfl, rfl⟩
  · next i e =>
    refine ⟨_, e, ab_zk_nar ?_⟩
    simp only [Bool.or_eq_true, decide_eq_true_eq] at h
    exact h
  · next e => exact ⟨_, e, rfl, rfl⟩
  · next e => exact ⟨_, e, rfl, rfl⟩
  · cases h
theorem cu_o1 : Jvm.Cond.instanceMethod Lib.objectInit ∈ ab_tb := ab_wd_tb (j := cu_ox.1) (by decide +kernel)
theorem cu_o2 : Jvm.Cond.code Lib.objectInit ⟨#[0xb1]⟩ 1 none ∈ ab_tb := ab_wd_tb (j := cu_ox.2.1) (by decide +kernel)
theorem cu_ynm : ∀ a, a < 7 → (cu_y a).cls ≠ "java/lang/invoke/MethodHandle" ∧ (cu_y a).cls ≠ "java/lang/invoke/VarHandle" ∧ (parseMethodDescriptor (cu_y a).desc).map (fun d => d.parameters.length) = some 0 := by decide +kernel
