/-! ===== the machine of cells that are made ===== -/
abbrev cu_K : Type := ClassId × ClassId × ClassId × ClassId
abbrev cu_V : Type := Nat ⊕ Int32
/-- the place in the code, the second local, the stack, the cells, how many were made, of how many slots -/
abbrev cu_S : Type := Nat × List Int32 × List cu_V × List cu_C × Nat × Nat
def cu_f (o : Nat) (f : cu_F) : Value := match f with
  | none => .null
  | some (.inl k) => .ref (o + k)
  | some (.inr i) => .int i
def cu_v (o : Nat) (v : cu_V) : Value := match v with
  | .inl k => .ref (o + k)
  | .inr i => .int i
def cu_z (b : Nat) : Int32 := if b = 0 then 0 else -1
def cu_e (K : cu_K) (o : Nat) (c : cu_C) : va_E := match c.1 with
  | 0 => .inl (K.1, c.2.1, .inl (fun _ => cu_z c.2.2.1))
  | 1 => .inl (K.2.1, c.2.1, .inl (fun _ => 0))
  | 2 => .inl (K.2.2.1, c.2.1, .inr (.inl (fun _ => 0)))
  | 3 => .inl (K.2.2.2, c.2.1, .inr (.inr (.inr (.inr (fun i => if i < c.2.1 then some (o + c.2.2.1 + i) else none)))))
  | t + 4 => .inr (t, c.2.2.2.map (cu_f o))
def cu_at (D : va_G) (K : cu_K) (o i : Nat) (c : cu_C) (H : Heap) : Prop := va_at D vwCl (o + i, cu_e K o c) H
def cu_P (D : va_G) (K : cu_K) (o : Nat) (L : List cu_C) (H : Heap) : Prop := H.size = o + L.length ∧ ∀ (i : Nat) (c : cu_C), L[i]? = some c → cu_at D K o i c H
def cu_ty (K : cu_K) : List (ClassId × FieldType) := [(K.1, .int), (K.2.1, .boolean), (K.2.2.1, .long), (K.2.2.2, .array .int)]
def cu_isn (w : Jvm.Cond) : Bool := match w with
  | .methodLinkNest _ _ _ _ => true
  | .arrayOver (.array _) => true
  | _ => false
def cu_U (D : va_G) (K : cu_K) (U : State) : Prop := va_K D vwCl (cu_ty K) U ∧ ∀ w ∈ lw_tbl.filter cu_isn, va_Nw w U
/-- numbers within the cells moved on -/
def cu_sh (q : Nat) (c : cu_C) : cu_C := (c.1, c.2.1, if c.1 = 3 then c.2.2.1 + q else c.2.2.1, c.2.2.2.map (fun f => match f with
  | some (.inl j) => some (.inl (j + q))
  | f => f))
def cu_t (a : Nat) : FieldType := match a with
  | 0 => .int
  | 1 => .boolean
  | _ => .long
def cu_a (a : Nat) : ArrayType := match a with
  | 0 => .int
  | 1 => .boolean
  | _ => .long
/-! entries -/
def cu_dec (k pc : Nat) (ins : Instr) (len : Nat) : Bool := match decode (cu_b k) pc with
  | .ok (i2, l2) => decide (i2 = ins) && decide (l2 = len)
  | .error _ => false
theorem cu_dec_ok {k pc : Nat} {ins : Instr} {len : Nat} (h : cu_dec k pc ins len = true) : decode (cu_b k) pc = .ok (ins, len) := by
  unfold cu_dec at h
  split at h
  · next i2 l2 he =>
    simp only [Bool.and_eq_true, decide_eq_true_eq] at h
    rw [he, h.1, h.2]
  · cases h
def cu_fl (k ix a j : Nat) : Bool := match vwCl[k]? with
  | none => false
  | some (_, T, N) => decide (a < N) && (ab_wd j (.fieldLink (cu_c k) ix (T a).1 (T a).2.1 (T a).2.2.1) && decide ((T a).1 = cu_c k))
def cu_ok (k : Nat) (e : cu_E) : Bool := match e with
  | (pc, op, ix, a, j, v) => match op with
    | 0 => cu_dec k pc (.aload_n 0) 1
    | 1 => cu_dec k pc (.iconst v.toInt) 1 && decide (Int32.ofInt v.toInt = v)
    | 2 => cu_dec k pc (.bipush v.toInt) 2 && decide ((Int8.ofInt v.toInt).toInt32 = v)
    | 3 => cu_dec k pc (.sipush v.toInt) 3 && decide ((Int16.ofInt v.toInt).toInt32 = v)
    | 4 => cu_dec k pc (.newarray (cu_a a)) 2 && (decide (a < 3) && ab_wd j (.arrayClass (cu_t a)))
    | 5 => cu_dec k pc (.multianewarray ix 2) 4 && (ab_wd j (.classLink (cu_c k) ix "[[I") && (ab_wd 94 (.arrayClass .int) && ab_wn 113 (.arrayOver (.array .int))))
    | 6 => cu_dec k pc (.new ix) 3 && (decide (a < 7) && (ab_wd j (.classLink (cu_c k) ix (cu_c a)) && (ab_wd (cu_ix a).1 (.instantiable (cu_c a) (cu_N a)) && ab_wd (cu_ix a).2.1 (.initialized (cu_c a)))))
    | 7 => cu_dec k pc .dup 1
    | 8 => cu_dec k pc (.putfield ix) 3 && cu_fl k ix a j
    | 9 => cu_dec k pc (.invokespecial ix) 3 && ab_wd j (.methodLink (cu_c k) ix Lib.objectInit)
    | 10 => cu_dec k pc (.invokespecial ix) 3 && (decide (k = 7) && (decide (a < 7) && (ab_wn j (.methodLinkNest (cu_c k) ix (cu_y a) "LostDesk") && (ab_wd (cu_ix a).2.1 (.initialized (cu_c a)) && (ab_wd (cu_ix a).2.2.1 (.code (cu_y a) (cu_b a) (cu_L a) none) && ab_wd (cu_ix a).2.2.2 (.instanceMethod (cu_y a)))))))
    | 11 => cu_dec k pc (.istore_n 1) 1 && decide (k = 7)
    | 12 => cu_dec k pc (.iload_n 1) 1
    | 13 => cu_dec k pc (.if_icmp .ge ((a : Int) - (pc : Int))) 3
    | 14 => cu_dec k pc (.if_icmp .ge ((a : Int) - (pc : Int))) 3
    | 15 => cu_dec k pc (.getfield ix) 3 && cu_fl k ix a j
    | 16 => cu_dec k pc .aaload 1
    | 17 => cu_dec k pc (.invokestatic ix) 3 && (decide (k = 7) && ab_wd j (.methodLink (cu_c k) ix (ab_mY 146)))
    | 18 => cu_dec k pc (.iinc 1 v.toInt) 3 && (decide (Int32.ofInt v.toInt = v) && decide (k = 7))
    | 19 => cu_dec k pc (.goto ((a : Int) - (pc : Int))) 3
    | _ => false
def cu_pv (d : String) (v : cu_V) : Bool := match parseFieldDescriptor d, v with
  | some .int, .inr _ => true
  | some .boolean, .inr i => decide (i = 0) || decide (i = 1)
  | some (.array _), .inl _ => true
  | some (.object _), .inl _ => true
  | _, _ => false
def cu_td (k a : Nat) : String := match vwCl[k]? with
  | none => ""
  | some (_, T, _) => (T a).2.2.1
/-! alike -/
def cu_eqL {α : Type} (f : α → α → Bool) : List α → List α → Bool
  | [], [] => true
  | a :: s, b :: t => f a b && cu_eqL f s t
  | _, _ => false
theorem cu_eqL_eq {α : Type} {f : α → α → Bool} (hf : ∀ a b, f a b = true → a = b) : ∀ s t : List α, cu_eqL f s t = true → s = t
  | [], [], _ => rfl
  | a :: s, b :: t, h => by
    have h : (f a b && cu_eqL f s t) = true := h
    rw [Bool.and_eq_true] at h
    rw [hf a b h.1, cu_eqL_eq hf s t h.2]
  | [], _ :: _, h => by cases h
  | _ :: _, [], h => by cases h
def cu_eqF (x y : cu_F) : Bool := match x, y with
  | none, none => true
  | some (.inl a), some (.inl b) => decide (a = b)
  | some (.inr a), some (.inr b) => decide (a = b)
  | _, _ => false
theorem cu_eqF_eq (x y : cu_F) (h : cu_eqF x y = true) : x = y := by
  unfold cu_eqF at h
  split at h
  · rfl
  · rw [of_decide_eq_true h]
  · rw [of_decide_eq_true h]
  · cases h
def cu_eqC (c d : cu_C) : Bool := decide (c.1 = d.1) && (decide (c.2.1 = d.2.1) && (decide (c.2.2.1 = d.2.2.1) && cu_eqL cu_eqF c.2.2.2 d.2.2.2))
theorem cu_eqC_eq (c d : cu_C) (h : cu_eqC c d = true) : c = d := by
  obtain ⟨c1, c2, c3, c4⟩ := c
  obtain ⟨d1, d2, d3, d4⟩ := d
  unfold cu_eqC at h
  simp only [Bool.and_eq_true, decide_eq_true_eq] at h
  obtain ⟨h1, h2, h3, h4⟩ := h
  rw [h1, h2, h3, cu_eqL_eq cu_eqF_eq _ _ h4]
def cu_isC (o : Option cu_C) (d : cu_C) : Bool := match o with
  | some c => cu_eqC c d
  | none => false
theorem cu_isC_eq {o : Option cu_C} {d : cu_C} (h : cu_isC o d = true) : o = some d := by
  unfold cu_isC at h
  split at h
  · rw [cu_eqC_eq _ _ h]
  · cases h
def cu_stp (k : Nat) (e : cu_E) (st : cu_S) : Option cu_S := match e, st with
  | (pc, op, _, a, _, v), (pc', lo, S, L, cs, sl) => if pc = pc' then (match op with
    | 0 => some (pc + 1, lo, .inl 0 :: S, L, cs, sl)
    | 1 => some (pc + 1, lo, .inr v :: S, L, cs, sl)
    | 2 => some (pc + 2, lo, .inr v :: S, L, cs, sl)
    | 3 => some (pc + 3, lo, .inr v :: S, L, cs, sl)
    | 4 => (match S with
      | .inr n :: r => if 0 ≤ n ∧ n.toNatClampNeg ≤ 100000 ∧ cs + 1 ≤ cu_mc k ∧ sl + n.toNatClampNeg ≤ cu_ms k then some (pc + 2, lo, .inl L.length :: r, L ++ [(a, n.toNatClampNeg, 0, [])], cs + 1, sl + n.toNatClampNeg) else none
      | _ => none)
    | 5 => (match S with
      | .inr m :: .inr n :: r => if 0 ≤ n ∧ 0 ≤ m ∧ n.toNatClampNeg ≤ 1000 ∧ m.toNatClampNeg ≤ 1000 ∧ cs + (1 + n.toNatClampNeg) ≤ cu_mc k ∧ sl + (n.toNatClampNeg + n.toNatClampNeg * m.toNatClampNeg) ≤ cu_ms k then some (pc + 4, lo, .inl L.length :: r, L ++ ((3, n.toNatClampNeg, L.length + 1, []) :: List.replicate n.toNatClampNeg (0, m.toNatClampNeg, 0, [])), cs + (1 + n.toNatClampNeg), sl + (n.toNatClampNeg + n.toNatClampNeg * m.toNatClampNeg)) else none
      | _ => none)
    | 6 => if cs + 1 ≤ cu_mc k ∧ sl + cu_N a ≤ cu_ms k then some (pc + 3, lo, .inl L.length :: S, L ++ [cu_0 a], cs + 1, sl + cu_N a) else none
    | 7 => (match S with
      | w :: r => some (pc + 1, lo, w :: w :: r, L, cs, sl)
      | _ => none)
    | 8 => (match S with
      | w :: .inl q :: r => (match L[q]? with
        | some c => if c.1 = 4 + k ∧ a < c.2.2.2.length ∧ cu_pv (cu_td k a) w = true then some (pc + 3, lo, r, L.set q (c.1, c.2.1, c.2.2.1, c.2.2.2.set a (some w)), cs, sl) else none
        | none => none)
      | _ => none)
    | 9 => (match S with
      | .inl _ :: r => if r.length ≤ 8 then some (pc + 3, lo, r, L, cs, sl) else none
      | _ => none)
    | 10 => (match S with
      | .inl q :: r => if q + 1 = L.length ∧ cu_isC L[q]? (cu_0 a) = true ∧ r.length ≤ 8 ∧ cs + cu_mc a ≤ cu_mc k ∧ sl + cu_ms a ≤ cu_ms k then some (pc + 3, lo, r, L.take q ++ (cu_fin a).map (cu_sh q), cs + cu_mc a, sl + cu_ms a) else none
      | _ => none)
    | 11 => (match S with
      | .inr i :: r => some (pc + 1, [i], r, L, cs, sl)
      | _ => none)
    | 12 => (match lo with
      | [i] => some (pc + 1, lo, .inr i :: S, L, cs, sl)
      | _ => none)
    | 13 => (match S with
      | .inr y :: .inr x :: r => if y ≤ x then none else some (pc + 3, lo, r, L, cs, sl)
      | _ => none)
    | 14 => (match S with
      | .inr y :: .inr x :: r => if y ≤ x then some (a, lo, r, L, cs, sl) else none
      | _ => none)
    | 15 => (match S with
      | .inl q :: r => (match L[q]? with
        | some c => if c.1 = 4 + k then (match c.2.2.2[a]? with
          | some (some w) => some (pc + 3, lo, w :: r, L, cs, sl)
          | _ => none) else none
        | none => none)
      | _ => none)
    | 16 => (match S with
      | .inr i :: .inl q :: r => (match L[q]? with
        | some c => if c.1 = 3 ∧ 0 ≤ i ∧ i.toNatClampNeg < c.2.1 then some (pc + 1, lo, .inl (c.2.2.1 + i.toNatClampNeg) :: r, L, cs, sl) else none
        | none => none)
      | _ => none)
    | 17 => (match S with
      | .inr w :: .inl q :: r => (match L[q]? with
        | some c => if c.1 = 0 ∧ w = -1 ∧ r.length ≤ 8 ∧ cs ≤ cu_mc k ∧ sl ≤ cu_ms k ∧ c.2.1 ≤ 1000 then some (pc + 3, lo, r, L.set q (0, c.2.1, 1, []), cs, sl) else none
        | none => none)
      | _ => none)
    | 18 => (match lo with
      | [i] => some (pc + 3, [i + v], S, L, cs, sl)
      | _ => none)
    | 19 => some (a, lo, S, L, cs, sl)
    | _ => none) else none
def cu_run (k : Nat) : List cu_E → cu_S → Option cu_S
  | [], st => some st
  | e :: t, st => match cu_stp k e st with
    | none => none
    | some st' => cu_run k t st'
def cu_eqS (k : Nat) (r : Option cu_S) : Bool := match r with
  | some (pc, lo, [], L, cs, sl) => decide (pc = (cu_rp k).1) && (decide (lo = (cu_rp k).2) && (cu_eqL cu_eqC L (cu_fin k) && (decide (cs = cu_mc k) && decide (sl = cu_ms k))))
  | _ => false
theorem cu_eqS_eq {k : Nat} {r : Option cu_S} (h : cu_eqS k r = true) : r = some ((cu_rp k).1, (cu_rp k).2, [], cu_fin k, cu_mc k, cu_ms k) := by
  unfold cu_eqS at h
  split at h
  · simp only [Bool.and_eq_true, decide_eq_true_eq] at h
    obtain ⟨h1, h2, h3, h4, h5⟩ := h
    rw [h1, h2, cu_eqL_eq cu_eqC_eq _ _ h3, h4, h5]
  · cases h
theorem cu_run_0 : cu_eqS 0 (cu_run 0 (cu_es 0) (0, [], [], [cu_0 0], 0, 0)) = true := by decide +kernel
theorem cu_run_1 : cu_eqS 1 (cu_run 1 (cu_es 1) (0, [], [], [cu_0 1], 0, 0)) = true := by decide +kernel
theorem cu_run_2 : cu_eqS 2 (cu_run 2 (cu_es 2) (0, [], [], [cu_0 2], 0, 0)) = true := by decide +kernel
theorem cu_run_3 : cu_eqS 3 (cu_run 3 (cu_es 3) (0, [], [], [cu_0 3], 0, 0)) = true := by decide +kernel
theorem cu_run_4 : cu_eqS 4 (cu_run 4 (cu_es 4) (0, [], [], [cu_0 4], 0, 0)) = true := by decide +kernel
theorem cu_run_5 : cu_eqS 5 (cu_run 5 (cu_es 5) (0, [], [], [cu_0 5], 0, 0)) = true := by decide +kernel
theorem cu_run_6 : cu_eqS 6 (cu_run 6 (cu_es 6) (0, [], [], [cu_0 6], 0, 0)) = true := by decide +kernel
theorem cu_run_7 : cu_eqS 7 (cu_run 7 (cu_es 7) (0, [], [], [cu_0 7], 0, 0)) = true := by decide +kernel
theorem cu_run_8 : cu_eqS 8 (cu_run 8 (cu_es 8) (0, [], [], [cu_0 8], 0, 0)) = true := by decide +kernel
theorem cu_es_0 : (cu_es 0).all (cu_ok 0) = true := by decide +kernel
theorem cu_es_1 : (cu_es 1).all (cu_ok 1) = true := by decide +kernel
theorem cu_es_2 : (cu_es 2).all (cu_ok 2) = true := by decide +kernel
theorem cu_es_3 : (cu_es 3).all (cu_ok 3) = true := by decide +kernel
theorem cu_es_4 : (cu_es 4).all (cu_ok 4) = true := by decide +kernel
theorem cu_es_5 : (cu_es 5).all (cu_ok 5) = true := by decide +kernel
theorem cu_es_6 : (cu_es 6).all (cu_ok 6) = true := by decide +kernel
theorem cu_es_7 : (cu_es 7).all (cu_ok 7) = true := by decide +kernel
theorem cu_es_8 : (cu_es 8).all (cu_ok 8) = true := by decide +kernel
