/-! ===== the machine of cells that are made ===== -/
abbrev cn_K : Type := ClassId × ClassId × ClassId × ClassId
abbrev cn_V : Type := Nat ⊕ Int32
/-- the place in the code, the second local, the stack, the cells, how many were made, of how many slots -/
abbrev cn_S : Type := Nat × List Int32 × List cn_V × List cn_C × Nat × Nat
def cn_f (o : Nat) (f : cn_F) : Value := match f with
  | none => .null
  | some (.inl k) => .ref (o + k)
  | some (.inr i) => .int i
def cn_v (o : Nat) (v : cn_V) : Value := match v with
  | .inl k => .ref (o + k)
  | .inr i => .int i
def cn_z (b : Nat) : Int32 := if b = 0 then 0 else -1
def cn_e (K : cn_K) (o : Nat) (c : cn_C) : va_E := match c.1 with
  | 0 => .inl (K.1, c.2.1, .inl (fun _ => cn_z c.2.2.1))
  | 1 => .inl (K.2.1, c.2.1, .inl (fun _ => 0))
  | 2 => .inl (K.2.2.1, c.2.1, .inr (.inl (fun _ => 0)))
  | 3 => .inl (K.2.2.2, c.2.1, .inr (.inr (.inr (.inr (fun i => if i < c.2.1 then some (o + c.2.2.1 + i) else none)))))
  | t + 4 => .inr (t, c.2.2.2.map (cn_f o))
def cn_at (D : va_G) (K : cn_K) (o i : Nat) (c : cn_C) (H : Heap) : Prop := va_at D vwCl (o + i, cn_e K o c) H
def cn_P (D : va_G) (K : cn_K) (o : Nat) (L : List cn_C) (H : Heap) : Prop := H.size = o + L.length ∧ ∀ (i : Nat) (c : cn_C), L[i]? = some c → cn_at D K o i c H
def cn_ty (K : cn_K) : List (ClassId × FieldType) := [(K.1, .int), (K.2.1, .boolean), (K.2.2.1, .long), (K.2.2.2, .array .int)]
def cn_isn (w : Jvm.Cond) : Bool := match w with
  | .methodLinkNest _ _ _ _ => true
  | .arrayOver (.array _) => true
  | _ => false
def cn_U (D : va_G) (K : cn_K) (U : State) : Prop := va_K D vwCl (cn_ty K) U ∧ ∀ w ∈ lw_tbl.filter cn_isn, va_Nw w U
/-- numbers within the cells moved on -/
def cn_sh (q : Nat) (c : cn_C) : cn_C := (c.1, c.2.1, if c.1 = 3 then c.2.2.1 + q else c.2.2.1, c.2.2.2.map (fun f => match f with
  | some (.inl j) => some (.inl (j + q))
  | f => f))
def cn_t (a : Nat) : FieldType := match a with
  | 0 => .int
  | 1 => .boolean
  | _ => .long
def cn_a (a : Nat) : ArrayType := match a with
  | 0 => .int
  | 1 => .boolean
  | _ => .long
/-! entries -/
def cn_dec (k pc : Nat) (ins : Instr) (len : Nat) : Bool := match decode (cn_b k) pc with
  | .ok (i2, l2) => decide (i2 = ins) && decide (l2 = len)
  | .error _ => false
theorem cn_dec_ok {k pc : Nat} {ins : Instr} {len : Nat} (h : cn_dec k pc ins len = true) : decode (cn_b k) pc = .ok (ins, len) := by
  unfold cn_dec at h
  split at h
  · next i2 l2 he =>
    simp only [Bool.and_eq_true, decide_eq_true_eq] at h
    rw [he, h.1, h.2]
  · cases h
def cn_fl (k ix a j : Nat) : Bool := match vwCl[k]? with
  | none => false
  | some (_, T, N) => decide (a < N) && (ab_wd j (.fieldLink (cn_c k) ix (T a).1 (T a).2.1 (T a).2.2.1) && decide ((T a).1 = cn_c k))
def cn_ok (k : Nat) (e : cn_E) : Bool := match e with
  | (pc, op, ix, a, j, v) => match op with
    | 0 => cn_dec k pc (.aload_n 0) 1
    | 1 => cn_dec k pc (.iconst v.toInt) 1 && decide (Int32.ofInt v.toInt = v)
    | 2 => cn_dec k pc (.bipush v.toInt) 2 && decide ((Int8.ofInt v.toInt).toInt32 = v)
    | 3 => cn_dec k pc (.sipush v.toInt) 3 && decide ((Int16.ofInt v.toInt).toInt32 = v)
    | 4 => cn_dec k pc (.newarray (cn_a a)) 2 && (decide (a < 3) && ab_wd j (.arrayClass (cn_t a)))
    | 5 => cn_dec k pc (.multianewarray ix 2) 4 && (ab_wd j (.classLink (cn_c k) ix "[[I") && (ab_wd 94 (.arrayClass .int) && ab_wn 113 (.arrayOver (.array .int))))
    | 6 => cn_dec k pc (.new ix) 3 && (decide (a < 7) && (ab_wd j (.classLink (cn_c k) ix (cn_c a)) && (ab_wd (cn_ix a).1 (.instantiable (cn_c a) (cn_N a)) && ab_wd (cn_ix a).2.1 (.initialized (cn_c a)))))
    | 7 => cn_dec k pc .dup 1
    | 8 => cn_dec k pc (.putfield ix) 3 && cn_fl k ix a j
    | 9 => cn_dec k pc (.invokespecial ix) 3 && ab_wd j (.methodLink (cn_c k) ix Lib.objectInit)
    | 10 => cn_dec k pc (.invokespecial ix) 3 && (decide (k = 7) && (decide (a < 7) && (ab_wn j (.methodLinkNest (cn_c k) ix (cn_y a) "LostDesk") && (ab_wd (cn_ix a).2.1 (.initialized (cn_c a)) && (ab_wd (cn_ix a).2.2.1 (.code (cn_y a) (cn_b a) (cn_L a) none) && ab_wd (cn_ix a).2.2.2 (.instanceMethod (cn_y a)))))))
    | 11 => cn_dec k pc (.istore_n 1) 1 && decide (k = 7)
    | 12 => cn_dec k pc (.iload_n 1) 1
    | 13 => cn_dec k pc (.if_icmp .ge ((a : Int) - (pc : Int))) 3
    | 14 => cn_dec k pc (.if_icmp .ge ((a : Int) - (pc : Int))) 3
    | 15 => cn_dec k pc (.getfield ix) 3 && cn_fl k ix a j
    | 16 => cn_dec k pc .aaload 1
    | 17 => cn_dec k pc (.invokestatic ix) 3 && (decide (k = 7) && ab_wd j (.methodLink (cn_c k) ix (ab_mY 146)))
    | 18 => cn_dec k pc (.iinc 1 v.toInt) 3 && (decide (Int32.ofInt v.toInt = v) && decide (k = 7))
    | 19 => cn_dec k pc (.goto ((a : Int) - (pc : Int))) 3
    | _ => false
def cn_pv (d : String) (v : cn_V) : Bool := match parseFieldDescriptor d, v with
  | some .int, .inr _ => true
  | some .boolean, .inr i => decide (i = 0) || decide (i = 1)
  | some (.array _), .inl _ => true
  | some (.object _), .inl _ => true
  | _, _ => false
def cn_td (k a : Nat) : String := match vwCl[k]? with
  | none => ""
  | some (_, T, _) => (T a).2.2.1
def cn_stp (k : Nat) (e : cn_E) (st : cn_S) : Option cn_S := match e, st with
  | (pc, op, _, a, _, v), (pc', lo, S, L, cs, sl) => if pc = pc' then (match op with
    | 0 => some (pc + 1, lo, .inl 0 :: S, L, cs, sl)
    | 1 => some (pc + 1, lo, .inr v :: S, L, cs, sl)
    | 2 => some (pc + 2, lo, .inr v :: S, L, cs, sl)
    | 3 => some (pc + 3, lo, .inr v :: S, L, cs, sl)
    | 4 => (match S with
      | .inr n :: r => if 0 ≤ n ∧ n.toNatClampNeg ≤ 1000 ∧ cs + 1 ≤ cn_mc k ∧ sl + n.toNatClampNeg ≤ cn_ms k then some (pc + 2, lo, .inl L.length :: r, L ++ [(a, n.toNatClampNeg, 0, [])], cs + 1, sl + n.toNatClampNeg) else none
      | _ => none)
    | 5 => (match S with
      | .inr m :: .inr n :: r => if 0 ≤ n ∧ 0 ≤ m ∧ n.toNatClampNeg ≤ 1000 ∧ m.toNatClampNeg ≤ 1000 ∧ cs + (1 + n.toNatClampNeg) ≤ cn_mc k ∧ sl + (n.toNatClampNeg + n.toNatClampNeg * m.toNatClampNeg) ≤ cn_ms k then some (pc + 4, lo, .inl L.length :: r, L ++ ((3, n.toNatClampNeg, L.length + 1, []) :: List.replicate n.toNatClampNeg (0, m.toNatClampNeg, 0, [])), cs + (1 + n.toNatClampNeg), sl + (n.toNatClampNeg + n.toNatClampNeg * m.toNatClampNeg)) else none
      | _ => none)
    | 6 => if cs + 1 ≤ cn_mc k ∧ sl + cn_N a ≤ cn_ms k then some (pc + 3, lo, .inl L.length :: S, L ++ [cn_0 a], cs + 1, sl + cn_N a) else none
    | 7 => (match S with
      | w :: r => some (pc + 1, lo, w :: w :: r, L, cs, sl)
      | _ => none)
    | 8 => (match S with
      | w :: .inl q :: r => (match L[q]? with
        | some c => if c.1 = 4 + k ∧ a < c.2.2.2.length ∧ cn_pv (cn_td k a) w = true then some (pc + 3, lo, r, L.set q (c.1, c.2.1, c.2.2.1, c.2.2.2.set a (some w)), cs, sl) else none
        | none => none)
      | _ => none)
    | 9 => (match S with
      | .inl _ :: r => if r.length ≤ 8 then some (pc + 3, lo, r, L, cs, sl) else none
      | _ => none)
    | 10 => (match S with
      | .inl q :: r => if q + 1 = L.length ∧ L[q]? = some (cn_0 a) ∧ r.length ≤ 8 ∧ cs + cn_mc a ≤ cn_mc k ∧ sl + cn_ms a ≤ cn_ms k then some (pc + 3, lo, r, L.take q ++ (cn_fin a).map (cn_sh q), cs + cn_mc a, sl + cn_ms a) else none
      | _ => none)
    | 11 => (match S with
      | .inr i :: r => some (pc + 1, [i], r, L, cs, sl)
      | _ => none)
    | 12 => (match lo with
      | [i] => some (pc + 1, lo, .inr i :: S, L, cs, sl)
      | _ => none)
    | 13 => (match S with
      | .inr y :: .inr x :: r => if y ≤ x then none else some (pc + 3, lo, r, L, cs, sl)
      | _ => none)
    | 14 => (match S with
      | .inr y :: .inr x :: r => if y ≤ x then some (a, lo, r, L, cs, sl) else none
      | _ => none)
    | 15 => (match S with
      | .inl q :: r => (match L[q]? with
        | some c => if c.1 = 4 + k then (match c.2.2.2[a]? with
          | some (some w) => some (pc + 3, lo, w :: r, L, cs, sl)
          | _ => none) else none
        | none => none)
      | _ => none)
    | 16 => (match S with
      | .inr i :: .inl q :: r => (match L[q]? with
        | some c => if c.1 = 3 ∧ 0 ≤ i ∧ i.toNatClampNeg < c.2.1 then some (pc + 1, lo, .inl (c.2.2.1 + i.toNatClampNeg) :: r, L, cs, sl) else none
        | none => none)
      | _ => none)
    | 17 => (match S with
      | .inr w :: .inl q :: r => (match L[q]? with
        | some c => if c.1 = 0 ∧ w = -1 ∧ r.length ≤ 8 ∧ cs ≤ cn_mc k ∧ sl ≤ cn_ms k ∧ c.2.1 ≤ 1000 then some (pc + 3, lo, r, L.set q (0, c.2.1, 1, []), cs, sl) else none
        | none => none)
      | _ => none)
    | 18 => (match lo with
      | [i] => some (pc + 3, [i + v], S, L, cs, sl)
      | _ => none)
    | 19 => some (a, lo, S, L, cs, sl)
    | _ => none) else none
def cn_run (k : Nat) : List cn_E → cn_S → Option cn_S
  | [], st => some st
  | e :: t, st => match cn_stp k e st with
    | none => none
    | some st' => cn_run k t st'
theorem cn_run_0 : cn_run 0 (cn_es 0) (0, [], [], [cn_0 0], 0, 0) = some ((cn_rp 0).1, (cn_rp 0).2, [], cn_fin 0, cn_mc 0, cn_ms 0) := by decide +kernel
theorem cn_run_1 : cn_run 1 (cn_es 1) (0, [], [], [cn_0 1], 0, 0) = some ((cn_rp 1).1, (cn_rp 1).2, [], cn_fin 1, cn_mc 1, cn_ms 1) := by decide +kernel
theorem cn_run_2 : cn_run 2 (cn_es 2) (0, [], [], [cn_0 2], 0, 0) = some ((cn_rp 2).1, (cn_rp 2).2, [], cn_fin 2, cn_mc 2, cn_ms 2) := by decide +kernel
theorem cn_run_3 : cn_run 3 (cn_es 3) (0, [], [], [cn_0 3], 0, 0) = some ((cn_rp 3).1, (cn_rp 3).2, [], cn_fin 3, cn_mc 3, cn_ms 3) := by decide +kernel
theorem cn_run_4 : cn_run 4 (cn_es 4) (0, [], [], [cn_0 4], 0, 0) = some ((cn_rp 4).1, (cn_rp 4).2, [], cn_fin 4, cn_mc 4, cn_ms 4) := by decide +kernel
theorem cn_run_5 : cn_run 5 (cn_es 5) (0, [], [], [cn_0 5], 0, 0) = some ((cn_rp 5).1, (cn_rp 5).2, [], cn_fin 5, cn_mc 5, cn_ms 5) := by decide +kernel
theorem cn_run_6 : cn_run 6 (cn_es 6) (0, [], [], [cn_0 6], 0, 0) = some ((cn_rp 6).1, (cn_rp 6).2, [], cn_fin 6, cn_mc 6, cn_ms 6) := by decide +kernel
theorem cn_run_7 : cn_run 7 (cn_es 7) (0, [], [], [cn_0 7], 0, 0) = some ((cn_rp 7).1, (cn_rp 7).2, [], cn_fin 7, cn_mc 7, cn_ms 7) := by decide +kernel
theorem cn_run_8 : cn_run 8 (cn_es 8) (0, [], [], [cn_0 8], 0, 0) = some ((cn_rp 8).1, (cn_rp 8).2, [], cn_fin 8, cn_mc 8, cn_ms 8) := by decide +kernel
theorem cn_es_0 : (cn_es 0).all (cn_ok 0) = true := by decide +kernel
theorem cn_es_1 : (cn_es 1).all (cn_ok 1) = true := by decide +kernel
theorem cn_es_2 : (cn_es 2).all (cn_ok 2) = true := by decide +kernel
theorem cn_es_3 : (cn_es 3).all (cn_ok 3) = true := by decide +kernel
theorem cn_es_4 : (cn_es 4).all (cn_ok 4) = true := by decide +kernel
theorem cn_es_5 : (cn_es 5).all (cn_ok 5) = true := by decide +kernel
theorem cn_es_6 : (cn_es 6).all (cn_ok 6) = true := by decide +kernel
theorem cn_es_7 : (cn_es 7).all (cn_ok 7) = true := by decide +kernel
theorem cn_es_8 : (cn_es 8).all (cn_ok 8) = true := by decide +kernel
