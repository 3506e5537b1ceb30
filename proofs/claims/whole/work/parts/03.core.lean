/-! ===== an abstract machine over the places: what the cells hold is a function; a path of instructions is run in one step ===== -/
abbrev ab_M : Type := (Nat → Nat → Int32) × (Nat → Nat → Int64)
abbrev ab_V : Type := Value ⊕ (Nat × Int32)
abbrev ab_S : Type := Nat × List (Nat × ab_V) × List ab_V × ab_M
abbrev ab_E : Type := Nat × Instr × Nat × Nat × Int32 × Nat
abbrev ab_O : Type := Nat × Option Int32 × ab_M
abbrev ab_Z : Type := Launch × va_G × (Nat → Nat) × (Nat → Nat) × ClassId × ClassId × ClassId × ClassId
abbrev ab_X : Type := Program × Env × Room × State × MethodId × Array Value × List Frame × Method × Code × Nat × Nat × (State → Prop) × (Nat → Prop) × Nat × Nat × (Nat → Int32) × Nat × Nat
abbrev ab_D (Z : ab_Z) : va_G := Z.2.1
abbrev ab_ad (Z : ab_Z) : Nat → Nat := Z.2.2.1
abbrev ab_ar (Z : ab_Z) : Nat → Nat := Z.2.2.2.1
abbrev ab_cI (Z : ab_Z) : ClassId := Z.2.2.2.2.1
abbrev ab_cZ (Z : ab_Z) : ClassId := Z.2.2.2.2.2.1
abbrev ab_cJ (Z : ab_Z) : ClassId := Z.2.2.2.2.2.2.1
abbrev ab_cA (Z : ab_Z) : ClassId := Z.2.2.2.2.2.2.2
/-- what is read and written -/
def ab_rd (m : ab_M) (p i : Nat) : Int32 := m.1 p i
def ab_rl (m : ab_M) (p i : Nat) : Int64 := m.2 p i
def ab_wr (m : ab_M) (p i : Nat) (v : Int32) : ab_M := (va_up m.1 p (upd (m.1 p) i v), m.2)
def ab_wl (m : ab_M) (p i : Nat) (v : Int64) : ab_M := (m.1, va_up m.2 p (vp_updL (m.2 p) i v))
def ab_fv (Z : ab_Z) (m : ab_M) (k i : Nat) (f : Option Nat) : Value := match f with
  | none => .int (m.1 k i)
  | some q => .ref (ab_ad Z q)
def ab_cell (Z : ab_Z) (m : ab_M) (k : Nat) : va_E := match (ab_sh k).1 with
  | 0 => .inl (ab_cI Z, (ab_sh k).2.1, .inl (m.1 k))
  | 1 => .inl (ab_cZ Z, (ab_sh k).2.1, .inl (m.1 k))
  | 2 => .inl (ab_cJ Z, (ab_sh k).2.1, .inr (.inl (m.2 k)))
  | 3 => .inl (ab_cA Z, (ab_sh k).2.1, .inr (.inr (.inr (.inr (fun i => if i < (ab_sh k).2.1 then some (ab_ar Z ((ab_sh k).2.2.2.1 + i)) else none)))))
  | t + 4 => .inr (t, (ab_sh k).2.2.2.2.mapIdx (fun i f => ab_fv Z m k i f))
def ab_row (Z : ab_Z) (m : ab_M) (r : Nat) : va_E := .inl (ab_cI Z, (ab_rw r).2.2, .inl (fun j => m.1 (ab_rw r).1 ((ab_rw r).2.1 * (ab_rw r).2.2 + j)))
def ab_w (Z : ab_Z) (m : ab_M) : va_W := (List.range ab_NP).map (fun k => (ab_ad Z k, ab_cell Z m k)) ++ (List.range ab_NR).map (fun r => (ab_ar Z r, ab_row Z m r))
def ab_A (Z : ab_Z) (q : Nat) : Prop := (∃ k, k < ab_NP ∧ q = ab_ad Z k) ∨ ∃ r, r < ab_NR ∧ q = ab_ar Z r
def ab_ty (Z : ab_Z) : List (ClassId × FieldType) := [(ab_cI Z, .int), (ab_cZ Z, .boolean), (ab_cJ Z, .long), (ab_cA Z, .array .int)]
def ab_okZ (Z : ab_Z) : Prop := ∀ m, va_D (fun _ => True) (ab_w Z m)
def ab_cv (Z : ab_Z) (b : Nat) (v : ab_V) : Value := match v with
  | .inl w => (match w with
    | .ref k => .ref (if k = 999 then b else ab_ad Z k)
    | w => w)
  | .inr q => .ref (ab_ar Z ((ab_sh q.1).2.2.2.1 + q.2.toNatClampNeg))
def ab_cvL (Z : ab_Z) (b : Nat) (L : List (Nat × ab_V)) : List (Nat × Value) := L.map (fun q => (q.1, ab_cv Z b q.2))
def ab_cat (v : ab_V) : Nat := match v with
  | .inl (.long _) => 2
  | .inl (.double _) => 2
  | _ => 1
theorem ab_cat_cv (Z : ab_Z) (b : Nat) (v : ab_V) : (ab_cv Z b v).category = ab_cat v := by
  rcases v with v | v
  · cases v <;> rfl
  · rfl
/-- the words of the tables that last -/
def ab_tb : List Jvm.Cond := lw_tbl.filter goodWord
def ab_isn (w : Jvm.Cond) : Bool := match w with
  | .fieldLinkNest _ _ _ _ _ _ => true
  | _ => false
def ab_nw : List Jvm.Cond := lw_tbl.filter ab_isn
theorem ab_nw_of {w : Jvm.Cond} {j : Nat} (h : lw_tbl[j]? = some w) (hg : ab_isn w = true) : w ∈ ab_nw := List.mem_filter.mpr ⟨List.mem_of_getElem? h, hg⟩
theorem ab_tb_of {w : Jvm.Cond} {j : Nat} (h : lw_tbl[j]? = some w) (hg : goodWord w = true) : w ∈ ab_tb := List.mem_filter.mpr ⟨List.mem_of_getElem? h, hg⟩
def ab_mL (k : Nat) : Nat := (ab_mI k).1
def ab_mR (k : Nat) : Option FieldType := (ab_mI k).2.1
def ab_mW (k : Nat) : List Jvm.Cond := .code (ab_mY k) (ab_mB k) (ab_mL k) (ab_mR k) :: ab_tb
def ab_rm (d : Nat) : Room := { frames := d, cells := 0, slots := 0, locals := 64 * d }
/-- a method's contract: with the values A and the cells m it answers r and leaves the cells m' -/
def ab_C (Z : ab_Z) (d k : Nat) (A : List ab_V) (m : ab_M) (r : Option Int32) (m' : ab_M) : Prop :=
  Met Z.1 (ab_mY k) (ab_mW k) (ab_rm d) (va_Pc (A.map (ab_cv Z 0)) (fun U => va_P (ab_D Z) vwCl (ab_w Z m) U.heap ∧ va_K (ab_D Z) vwCl (ab_ty Z) U ∧ ∀ w ∈ ab_nw, va_Nw w U))
    (fun _ st oc t => (oc = .returned (r.map Value.int) ∧ va_P (ab_D Z) vwCl (ab_w Z m') t.heap) ∧ va_F (ab_A Z) st t) 0 0 (ab_A Z)
/-- the machine goes on well from here -/
def ab_G (Z : ab_Z) (X : ab_X) (st : ab_S) : Prop := match X with
  | (p, e, R, s, m, args, below, meth, c, cells, slots, Q, A, b, _, _, k, _) => ∀ (H : Heap) (locs : List Loc) (ls : Array Slot), va_P (ab_D Z) vwCl (ab_w Z st.2.2.2) H → va_S A s.heap H locs → lv_has ls (ab_mL k) (ab_cvL Z b st.2.1) →
    W p Z.1 e R s m args below meth c H locs cells slots Q (F0 m st.1 ls (st.2.2.1.map (ab_cv Z b)))
/-- what is known of a frame -/
def ab_okX (Z : ab_Z) (X : ab_X) : Prop := match X with
  | (p, _, R, s, m, args, _, _, c, cells, slots, _, A, _, _, _, k, d) => p.tables.exec = Jvm.exec ∧ c.code = ab_mB k ∧ c.maxLocals = ab_mL k ∧ s.vm.findClass (ab_mY k).cls = some m.cls ∧ (∀ w ∈ ab_tb, w.before args s = true) ∧ (∀ w ∈ ab_nw, va_Nw w s) ∧ va_K (ab_D Z) vwCl (ab_ty Z) s ∧ (∀ q, ab_A Z q → A q) ∧ d ≤ R.frames ∧ 64 * d ≤ R.locals ∧ cells ≤ R.cells ∧ slots ≤ R.slots ∧ ab_okZ Z
/-- the script may be read -/
def ab_scr (X : ab_X) : Prop := match X with
  | (_, _, _, s, _, _, _, _, _, _, _, _, A, b, L, xs, _, _) => va_X b L xs s s.heap ∧ b < s.heap.size ∧ ¬ A b
abbrev ab_xL (X : ab_X) : Nat := X.2.2.2.2.2.2.2.2.2.2.2.2.2.2.1
abbrev ab_xs (X : ab_X) : Nat → Int32 := X.2.2.2.2.2.2.2.2.2.2.2.2.2.2.2.1
abbrev ab_xk (X : ab_X) : Nat := X.2.2.2.2.2.2.2.2.2.2.2.2.2.2.2.2.1
abbrev ab_xd (X : ab_X) : Nat := X.2.2.2.2.2.2.2.2.2.2.2.2.2.2.2.2.2
/-! locals -/
def ab_ld (i : Nat) : List (Nat × ab_V) → Option ab_V
  | [] => none
  | q :: t => if q.1 = i then some q.2 else ab_ld i t
def ab_ins (i : Nat) (v : ab_V) : List (Nat × ab_V) → List (Nat × ab_V)
  | [] => [(i, v)]
  | q :: t => if i < q.1 then (i, v) :: q :: t else q :: ab_ins i v t
def ab_del (i : Nat) (L : List (Nat × ab_V)) : List (Nat × ab_V) := L.filter (fun q => !(q.1 == i) && !(q.1 + 1 == i && ab_cat q.2 == 2))
def ab_de2 (i : Nat) (L : List (Nat × ab_V)) : List (Nat × ab_V) := L.filter (fun q => !(q.1 == i) && (!(q.1 == i + 1) && !(q.1 + 1 == i && ab_cat q.2 == 2)))
def ab_zk (v : Int32) : Prop := v = 0 ∨ v = 1
/-! one instruction: a condition (or none), the oracles left, the next state -/
abbrev ab_R : Type := Option (Option Prop × List ab_O × ab_S)
def ab_c2 (c : Jvm.ClassFile.Cond) (t : Nat) (x y : Int32) : Prop := match c, t with
  | .eq, 0 => ¬ x = y
  | .eq, _ => x = y
  | .ne, 0 => x = y
  | .ne, _ => ¬ x = y
  | .lt, 0 => ¬ x < y
  | .lt, _ => x < y
  | .ge, 0 => ¬ y ≤ x
  | .ge, _ => y ≤ x
  | .gt, 0 => ¬ y < x
  | .gt, _ => y < x
  | .le, 0 => ¬ x ≤ y
  | .le, _ => x ≤ y
def ab_pi (v : Int32) (nx : Nat) (o : List ab_O) (st : ab_S) : ab_R := some (none, o, (nx, st.2.1, .inl (.int v) :: st.2.2.1, st.2.2.2))
def ab_pl (v : Int64) (nx : Nat) (o : List ab_O) (st : ab_S) : ab_R := some (none, o, (nx, st.2.1, .inl (.long v) :: st.2.2.1, st.2.2.2))
def ab_li (i nx : Nat) (o : List ab_O) (st : ab_S) : ab_R := match ab_ld i st.2.1 with
  | some (.inl (.int x)) => some (none, o, (nx, st.2.1, .inl (.int x) :: st.2.2.1, st.2.2.2))
  | _ => none
def ab_ll (i nx : Nat) (o : List ab_O) (st : ab_S) : ab_R := match ab_ld i st.2.1 with
  | some (.inl (.long x)) => some (none, o, (nx, st.2.1, .inl (.long x) :: st.2.2.1, st.2.2.2))
  | _ => none
def ab_la (i nx : Nat) (o : List ab_O) (st : ab_S) : ab_R := match ab_ld i st.2.1 with
  | some (.inl (.ref k)) => some (none, o, (nx, st.2.1, .inl (.ref k) :: st.2.2.1, st.2.2.2))
  | some (.inr q) => some (none, o, (nx, st.2.1, .inr q :: st.2.2.1, st.2.2.2))
  | _ => none
def ab_si (k i nx : Nat) (o : List ab_O) (st : ab_S) : ab_R := match st.2.2.1 with
  | .inl (.int x) :: r => if i < ab_mL k then some (none, o, (nx, ab_ins i (.inl (.int x)) (ab_del i st.2.1), r, st.2.2.2)) else none
  | _ => none
def ab_sl (k i nx : Nat) (o : List ab_O) (st : ab_S) : ab_R := match st.2.2.1 with
  | .inl (.long x) :: r => if i + 1 < ab_mL k then some (none, o, (nx, ab_ins i (.inl (.long x)) (ab_de2 i st.2.1), r, st.2.2.2)) else none
  | _ => none
def ab_sa (k i nx : Nat) (o : List ab_O) (st : ab_S) : ab_R := match st.2.2.1 with
  | .inl (.ref x) :: r => if i < ab_mL k then some (none, o, (nx, ab_ins i (.inl (.ref x)) (ab_del i st.2.1), r, st.2.2.2)) else none
  | .inr q :: r => if i < ab_mL k then some (none, o, (nx, ab_ins i (.inr q) (ab_del i st.2.1), r, st.2.2.2)) else none
  | _ => none
def ab_inc (k i : Nat) (v : Int32) (nx : Nat) (o : List ab_O) (st : ab_S) : ab_R := match ab_ld i st.2.1 with
  | some (.inl (.int x)) => if i < ab_mL k then some (none, o, (nx, ab_ins i (.inl (.int (x + v))) (ab_del i st.2.1), st.2.2.1, st.2.2.2)) else none
  | _ => none
def ab_b2 (f : Int32 → Int32 → Int32) (nx : Nat) (o : List ab_O) (st : ab_S) : ab_R := match st.2.2.1 with
  | .inl (.int y) :: .inl (.int x) :: r => some (none, o, (nx, st.2.1, .inl (.int (f x y)) :: r, st.2.2.2))
  | _ => none
def ab_b2n (f : Int32 → Int32 → Int32) (nx : Nat) (o : List ab_O) (st : ab_S) : ab_R := match st.2.2.1 with
  | .inl (.int y) :: .inl (.int x) :: r => some (some (¬ y = 0), o, (nx, st.2.1, .inl (.int (f x y)) :: r, st.2.2.2))
  | _ => none
def ab_neg (nx : Nat) (o : List ab_O) (st : ab_S) : ab_R := match st.2.2.1 with
  | .inl (.int x) :: r => some (none, o, (nx, st.2.1, .inl (.int (-x)) :: r, st.2.2.2))
  | _ => none
def ab_l2 (f : Int64 → Int64 → Int64) (nx : Nat) (o : List ab_O) (st : ab_S) : ab_R := match st.2.2.1 with
  | .inl (.long y) :: .inl (.long x) :: r => some (none, o, (nx, st.2.1, .inl (.long (f x y)) :: r, st.2.2.2))
  | _ => none
def ab_l2n (f : Int64 → Int64 → Int64) (nx : Nat) (o : List ab_O) (st : ab_S) : ab_R := match st.2.2.1 with
  | .inl (.long y) :: .inl (.long x) :: r => some (some (¬ y = 0), o, (nx, st.2.1, .inl (.long (f x y)) :: r, st.2.2.2))
  | _ => none
def ab_lsh (f : Int64 → Int32 → Int64) (nx : Nat) (o : List ab_O) (st : ab_S) : ab_R := match st.2.2.1 with
  | .inl (.int y) :: .inl (.long x) :: r => some (none, o, (nx, st.2.1, .inl (.long (f x y)) :: r, st.2.2.2))
  | _ => none
def ab_lcm (nx : Nat) (o : List ab_O) (st : ab_S) : ab_R := match st.2.2.1 with
  | .inl (.long y) :: .inl (.long x) :: r => some (none, o, (nx, st.2.1, .inl (.int (lg_cmp x y)) :: r, st.2.2.2))
  | _ => none
def ab_i2l (nx : Nat) (o : List ab_O) (st : ab_S) : ab_R := match st.2.2.1 with
  | .inl (.int x) :: r => some (none, o, (nx, st.2.1, .inl (.long x.toInt64) :: r, st.2.2.2))
  | _ => none
def ab_l2i (nx : Nat) (o : List ab_O) (st : ab_S) : ab_R := match st.2.2.1 with
  | .inl (.long x) :: r => some (none, o, (nx, st.2.1, .inl (.int x.toInt32) :: r, st.2.2.2))
  | _ => none
def ab_dup (nx : Nat) (o : List ab_O) (st : ab_S) : ab_R := match st.2.2.1 with
  | v :: r => if ab_cat v = 1 then some (none, o, (nx, st.2.1, v :: v :: r, st.2.2.2)) else none
  | _ => none
def ab_pop (nx : Nat) (o : List ab_O) (st : ab_S) : ab_R := match st.2.2.1 with
  | v :: r => if ab_cat v = 1 then some (none, o, (nx, st.2.1, r, st.2.2.2)) else none
  | _ => none
def ab_du2 (nx : Nat) (o : List ab_O) (st : ab_S) : ab_R := match st.2.2.1 with
  | v :: w :: r => if ab_cat v = 1 ∧ ab_cat w = 1 then some (none, o, (nx, st.2.1, v :: w :: v :: w :: r, st.2.2.2)) else none
  | _ => none
def ab_if1 (c : Jvm.ClassFile.Cond) (t nx : Nat) (o : List ab_O) (st : ab_S) : ab_R := match st.2.2.1 with
  | .inl (.int x) :: r => some (some (ab_c2 c t x 0), o, (nx, st.2.1, r, st.2.2.2))
  | _ => none
def ab_if2 (c : Jvm.ClassFile.Cond) (t nx : Nat) (o : List ab_O) (st : ab_S) : ab_R := match st.2.2.1 with
  | .inl (.int y) :: .inl (.int x) :: r => some (some (ab_c2 c t x y), o, (nx, st.2.1, r, st.2.2.2))
  | _ => none
def ab_sw (hi : Nat) (t : Nat) (v : Int32) (nx : Nat) (o : List ab_O) (st : ab_S) : ab_R := match st.2.2.1 with
  | .inl (.int x) :: r => some (some (match t with | 0 => x.toInt < 0 ∨ (hi : Int) < x.toInt | _ => x = v), o, (nx, st.2.1, r, st.2.2.2))
  | _ => none
def ab_gf (a nx : Nat) (o : List ab_O) (st : ab_S) : ab_R := match st.2.2.1 with
  | .inl (.ref p) :: r => if p < ab_NP ∧ (ab_sh p).1 = 4 + a / 100 % 100 then (match (ab_sh p).2.2.2.2[a % 100]? with
    | some none => some (none, o, (nx, st.2.1, .inl (.int (ab_rd st.2.2.2 p (a % 100))) :: r, st.2.2.2))
    | some (some q) => if q < 999 then some (none, o, (nx, st.2.1, .inl (.ref q) :: r, st.2.2.2)) else none
    | none => none) else none
  | _ => none
def ab_pf (a nx : Nat) (o : List ab_O) (st : ab_S) : ab_R := match st.2.2.1 with
  | .inl (.int v) :: .inl (.ref p) :: r => if p < ab_NP ∧ (ab_sh p).1 = 4 + a / 100 % 100 then (match (ab_sh p).2.2.2.2[a % 100]? with
    | some none => some (if a < 10000 then none else some (ab_zk v), o, (nx, st.2.1, r, ab_wr st.2.2.2 p (a % 100) v))
    | _ => none) else none
  | _ => none
def ab_ial (X : ab_X) (nx : Nat) (o : List ab_O) (st : ab_S) : ab_R := match st.2.2.1 with
  | .inl (.int i) :: .inl (.ref p) :: r => if p = 999 then some (some (ab_scr X ∧ vp_in i (ab_xL X)), o, (nx, st.2.1, .inl (.int (ab_xs X i.toNatClampNeg)) :: r, st.2.2.2)) else
    if p < ab_NP ∧ (ab_sh p).1 = 0 then some (some (vp_in i (ab_sh p).2.1), o, (nx, st.2.1, .inl (.int (ab_rd st.2.2.2 p i.toNatClampNeg)) :: r, st.2.2.2)) else none
  | .inl (.int i) :: .inr q :: r => if (ab_sh q.1).1 = 3 then some (some (vp_in q.2 (ab_sh q.1).2.1 ∧ vp_in i (ab_sh q.1).2.2.1), o, (nx, st.2.1, .inl (.int (ab_rd st.2.2.2 q.1 (q.2.toNatClampNeg * (ab_sh q.1).2.2.1 + i.toNatClampNeg))) :: r, st.2.2.2)) else none
  | _ => none
def ab_ias (nx : Nat) (o : List ab_O) (st : ab_S) : ab_R := match st.2.2.1 with
  | .inl (.int x) :: .inl (.int i) :: .inl (.ref p) :: r => if p < ab_NP ∧ (ab_sh p).1 = 0 then some (some (vp_in i (ab_sh p).2.1), o, (nx, st.2.1, r, ab_wr st.2.2.2 p i.toNatClampNeg x)) else none
  | .inl (.int x) :: .inl (.int i) :: .inr q :: r => if (ab_sh q.1).1 = 3 then some (some (vp_in q.2 (ab_sh q.1).2.1 ∧ vp_in i (ab_sh q.1).2.2.1), o, (nx, st.2.1, r, ab_wr st.2.2.2 q.1 (q.2.toNatClampNeg * (ab_sh q.1).2.2.1 + i.toNatClampNeg) x)) else none
  | _ => none
def ab_bal (nx : Nat) (o : List ab_O) (st : ab_S) : ab_R := match st.2.2.1 with
  | .inl (.int i) :: .inl (.ref p) :: r => if p < ab_NP ∧ (ab_sh p).1 = 1 then some (some (vp_in i (ab_sh p).2.1), o, (nx, st.2.1, .inl (.int (ab_rd st.2.2.2 p i.toNatClampNeg)) :: r, st.2.2.2)) else none
  | _ => none
def ab_bas (nx : Nat) (o : List ab_O) (st : ab_S) : ab_R := match st.2.2.1 with
  | .inl (.int x) :: .inl (.int i) :: .inl (.ref p) :: r => if p < ab_NP ∧ (ab_sh p).1 = 1 then some (some (vp_in i (ab_sh p).2.1 ∧ ab_zk x), o, (nx, st.2.1, r, ab_wr st.2.2.2 p i.toNatClampNeg x)) else none
  | _ => none
def ab_lal (nx : Nat) (o : List ab_O) (st : ab_S) : ab_R := match st.2.2.1 with
  | .inl (.int i) :: .inl (.ref p) :: r => if p < ab_NP ∧ (ab_sh p).1 = 2 then some (some (vp_in i (ab_sh p).2.1), o, (nx, st.2.1, .inl (.long (ab_rl st.2.2.2 p i.toNatClampNeg)) :: r, st.2.2.2)) else none
  | _ => none
def ab_las (nx : Nat) (o : List ab_O) (st : ab_S) : ab_R := match st.2.2.1 with
  | .inl (.long x) :: .inl (.int i) :: .inl (.ref p) :: r => if p < ab_NP ∧ (ab_sh p).1 = 2 then some (some (vp_in i (ab_sh p).2.1), o, (nx, st.2.1, r, ab_wl st.2.2.2 p i.toNatClampNeg x)) else none
  | _ => none
def ab_aal (nx : Nat) (o : List ab_O) (st : ab_S) : ab_R := match st.2.2.1 with
  | .inl (.int i) :: .inl (.ref p) :: r => if p < ab_NP ∧ (ab_sh p).1 = 3 then some (some (vp_in i (ab_sh p).2.1), o, (nx, st.2.1, .inr (p, i) :: r, st.2.2.2)) else none
  | _ => none
def ab_aln (X : ab_X) (nx : Nat) (o : List ab_O) (st : ab_S) : ab_R := match st.2.2.1 with
  | .inl (.ref p) :: r => if p = 999 then some (some (ab_scr X), o, (nx, st.2.1, .inl (.int (Int32.ofNat (ab_xL X))) :: r, st.2.2.2)) else
    if p < ab_NP ∧ (ab_sh p).1 = 0 then some (none, o, (nx, st.2.1, .inl (.int (Int32.ofNat (ab_sh p).2.1)) :: r, st.2.2.2)) else none
  | .inr q :: r => if (ab_sh q.1).1 = 3 then some (some (vp_in q.2 (ab_sh q.1).2.1), o, (nx, st.2.1, .inl (.int (Int32.ofNat (ab_sh q.1).2.2.1)) :: r, st.2.2.2)) else none
  | _ => none
def ab_ref (v : ab_V) : Bool := match v with
  | .inl (.ref k) => k < 83
  | .inl (.int _) => true
  | .inl (.long _) => true
  | .inr _ => true
  | _ => false
def ab_cok (a : Nat) (S : List ab_V) (r : Option Int32) : Bool :=
  decide (((S.drop (ab_mI a).2.2.1).map ab_cat).sum ≤ 8) && ((S.take (ab_mI a).2.2.1).all ab_ref && (decide ((S.take (ab_mI a).2.2.1).length = (ab_mI a).2.2.1) && (((ab_mR a).isSome == r.isSome) &&
    ((ab_mJ a).2.2.2.2 || match (S.take (ab_mI a).2.2.1).reverse with
      | .inl (.ref p) :: _ => decide (p < ab_NP) && decide ((ab_sh p).1 = 4 + (ab_mI a).2.2.2)
      | _ => false))))
/-- a call of method a: its values are the top of the stack, the oracle tells what comes back -/
def ab_cal (Z : ab_Z) (d a nx : Nat) (o : List ab_O) (st : ab_S) : ab_R := match o with
  | [] => none
  | q :: o' => if ab_cok a st.2.2.1 q.2.1 = true then
      some (some (q.1 < d ∧ ab_C Z q.1 a (st.2.2.1.take (ab_mI a).2.2.1).reverse st.2.2.2 q.2.1 q.2.2), o', (nx, st.2.1, (q.2.1.toList.map (fun x => .inl (.int x))) ++ st.2.2.1.drop (ab_mI a).2.2.1, q.2.2)) else none
def ab_stp (Z : ab_Z) (X : ab_X) (k : Nat) (e : ab_E) (o : List ab_O) (st : ab_S) : ab_R := if e.1 = st.1 then (match e.2.1 with
  | .nop => some (none, o, (st.1, st.2.1.filter (fun q => !(q.1 == e.2.2.1)), st.2.2.1, st.2.2.2))
  | .iconst _ => ab_pi e.2.2.2.2.1 e.2.2.2.2.2 o st
  | .bipush _ => ab_pi e.2.2.2.2.1 e.2.2.2.2.2 o st
  | .sipush _ => ab_pi e.2.2.2.2.1 e.2.2.2.2.2 o st
  | .ldc _ => ab_pi e.2.2.2.2.1 e.2.2.2.2.2 o st
  | .ldc_w _ => ab_pi e.2.2.2.2.1 e.2.2.2.2.2 o st
  | .lconst _ => ab_pl (ab_lc e.2.2.1) e.2.2.2.2.2 o st
  | .ldc2_w _ => ab_pl (ab_lc e.2.2.1) e.2.2.2.2.2 o st
  | .iload i => ab_li i e.2.2.2.2.2 o st
  | .iload_n i => ab_li i.val e.2.2.2.2.2 o st
  | .lload_n i => ab_ll i.val e.2.2.2.2.2 o st
  | .aload i => ab_la i e.2.2.2.2.2 o st
  | .aload_n i => ab_la i.val e.2.2.2.2.2 o st
  | .istore i => ab_si k i e.2.2.2.2.2 o st
  | .istore_n i => ab_si k i.val e.2.2.2.2.2 o st
  | .lstore_n i => ab_sl k i.val e.2.2.2.2.2 o st
  | .astore_n i => ab_sa k i.val e.2.2.2.2.2 o st
  | .iinc i _ => ab_inc k i e.2.2.2.2.1 e.2.2.2.2.2 o st
  | .iadd => ab_b2 (fun x y => x + y) e.2.2.2.2.2 o st
  | .isub => ab_b2 (fun x y => x - y) e.2.2.2.2.2 o st
  | .imul => ab_b2 (fun x y => x * y) e.2.2.2.2.2 o st
  | .idiv => ab_b2n (fun x y => x / y) e.2.2.2.2.2 o st
  | .irem => ab_b2n (fun x y => x - x / y * y) e.2.2.2.2.2 o st
  | .iand => ab_b2 (fun x y => x &&& y) e.2.2.2.2.2 o st
  | .ior => ab_b2 (fun x y => x ||| y) e.2.2.2.2.2 o st
  | .ixor => ab_b2 (fun x y => x ^^^ y) e.2.2.2.2.2 o st
  | .ishl => ab_b2 (fun x y => x <<< (y &&& 31)) e.2.2.2.2.2 o st
  | .ishr => ab_b2 (fun x y => x >>> (y &&& 31)) e.2.2.2.2.2 o st
  | .iushr => ab_b2 (fun x y => (x.toUInt32 >>> (y.toUInt32 &&& Int32.toUInt32 31)).toInt32) e.2.2.2.2.2 o st
  | .ineg => ab_neg e.2.2.2.2.2 o st
  | .ladd => ab_l2 (fun x y => x + y) e.2.2.2.2.2 o st
  | .lsub => ab_l2 (fun x y => x - y) e.2.2.2.2.2 o st
  | .lmul => ab_l2 (fun x y => x * y) e.2.2.2.2.2 o st
  | .land => ab_l2 (fun x y => x &&& y) e.2.2.2.2.2 o st
  | .lor => ab_l2 (fun x y => x ||| y) e.2.2.2.2.2 o st
  | .ldiv => ab_l2n (fun x y => x / y) e.2.2.2.2.2 o st
  | .lshl => ab_lsh (fun x y => x <<< (y.toInt64 &&& 63)) e.2.2.2.2.2 o st
  | .lushr => ab_lsh (fun x y => (x.toUInt64 >>> (y.toInt64.toUInt64 &&& Int64.toUInt64 63)).toInt64) e.2.2.2.2.2 o st
  | .lcmp => ab_lcm e.2.2.2.2.2 o st
  | .i2l => ab_i2l e.2.2.2.2.2 o st
  | .l2i => ab_l2i e.2.2.2.2.2 o st
  | .dup => ab_dup e.2.2.2.2.2 o st
  | .pop => ab_pop e.2.2.2.2.2 o st
  | .dup2 => ab_du2 e.2.2.2.2.2 o st
  | .ifCond c _ => ab_if1 c e.2.2.1 e.2.2.2.2.2 o st
  | .if_icmp c _ => ab_if2 c e.2.2.1 e.2.2.2.2.2 o st
  | .goto _ => some (none, o, (e.2.2.2.2.2, st.2.1, st.2.2.1, st.2.2.2))
  | .tableswitch _ _ hi _ => ab_sw hi.toNat e.2.2.1 e.2.2.2.2.1 e.2.2.2.2.2 o st
  | .getfield _ => ab_gf e.2.2.1 e.2.2.2.2.2 o st
  | .putfield _ => ab_pf e.2.2.1 e.2.2.2.2.2 o st
  | .iaload => ab_ial X e.2.2.2.2.2 o st
  | .iastore => ab_ias e.2.2.2.2.2 o st
  | .baload => ab_bal e.2.2.2.2.2 o st
  | .bastore => ab_bas e.2.2.2.2.2 o st
  | .laload => ab_lal e.2.2.2.2.2 o st
  | .lastore => ab_las e.2.2.2.2.2 o st
  | .aaload => ab_aal e.2.2.2.2.2 o st
  | .arraylength => ab_aln X e.2.2.2.2.2 o st
  | .invokevirtual _ => ab_cal Z (ab_xd X) e.2.2.1 e.2.2.2.2.2 o st
  | .invokestatic _ => ab_cal Z (ab_xd X) e.2.2.1 e.2.2.2.2.2 o st
  | _ => none) else none
def ab_run (Z : ab_Z) (X : ab_X) (k : Nat) : List ab_E → List ab_O → ab_S → Option (Prop × ab_S)
  | [], _, st => some (True, st)
  | e :: t, o, st => match ab_stp Z X k e o st with
    | none => none
    | some (c, o', st') => match ab_run Z X k t o' st' with
      | none => none
      | some (C, st'') => some (match c with | none => C | some c => c ∧ C, st'')
/-! what is checked of an entry, once for a method -/
def ab_wd (j : Nat) (w : Jvm.Cond) : Bool := decide (lw_tbl[j]? = some w) && goodWord w
def ab_wn (j : Nat) (w : Jvm.Cond) : Bool := decide (lw_tbl[j]? = some w)
def ab_fok (own : String) (ix a j : Nat) (put : Bool) : Bool := match vwCl[a / 100 % 100]? with
  | none => false
  | some (C, T, N) => decide (a % 100 < N) && ((ab_wd j (.fieldLink own ix (T (a % 100)).1 (T (a % 100)).2.1 (T (a % 100)).2.2.1) || ab_wn j (.fieldLinkNest own ix (T (a % 100)).1 (T (a % 100)).2.1 (T (a % 100)).2.2.1 "LostDesk")) &&
    (!put || (!(T (a % 100)).2.2.2 && decide (parseFieldDescriptor (T (a % 100)).2.2.1 = some (if a < 10000 then .int else .boolean)))))
def ab_oki (k pc len : Nat) (ins : Instr) (a j : Nat) (v : Int32) (nx : Nat) : Bool := match ins with
  | .iconst n => decide (len = 1) && decide (nx = pc + 1) && decide (Int32.ofInt n = v)
  | .bipush n => decide (len = 2) && decide (nx = pc + 2) && decide ((Int8.ofInt n).toInt32 = v)
  | .sipush n => decide (len = 3) && decide (nx = pc + 3) && decide ((Int16.ofInt n).toInt32 = v)
  | .ldc i => decide (len = 2) && decide (nx = pc + 2) && ab_wd j (.constant (ab_mY k).cls i v)
  | .ldc_w i => decide (len = 3) && decide (nx = pc + 3) && ab_wd j (.constant (ab_mY k).cls i v)
  | .lconst n => decide (len = 1) && decide (nx = pc + 1) && decide (Int64.ofNat (n : Nat) = ab_lc a)
  | .ldc2_w i => decide (len = 3) && decide (nx = pc + 3) && ab_wd j (.constantLong (ab_mY k).cls i (ab_lc a))
  | .iload _ => decide (len = 2) && decide (nx = pc + 2)
  | .aload _ => decide (len = 2) && decide (nx = pc + 2)
  | .istore _ => decide (len = 2) && decide (nx = pc + 2)
  | .iinc _ n => decide (len = 3) && decide (nx = pc + 3) && decide (Int32.ofInt n = v)
  | .ifCond _ off => decide (len = 3) && (if a = 0 then decide (nx = pc + 3) else decide ((pc : Int) + off = (nx : Int)))
  | .if_icmp _ off => decide (len = 3) && (if a = 0 then decide (nx = pc + 3) else decide ((pc : Int) + off = (nx : Int)))
  | .goto off => decide (len = 3) && decide ((pc : Int) + off = (nx : Int))
  | .tableswitch dflt lo hi offs => decide (lo = 0) && (decide (0 ≤ hi) && (if a = 0 then decide ((pc : Int) + dflt = (nx : Int)) else (decide (v = Int32.ofNat j) && (decide (v.toInt = (j : Int)) && (decide ((j : Int) ≤ hi) && match offs[j]? with | some off => decide ((pc : Int) + off = (nx : Int)) | none => false)))))
  | .getfield i => decide (len = 3) && decide (nx = pc + 3) && ab_fok (ab_mY k).cls i a j false
  | .putfield i => decide (len = 3) && decide (nx = pc + 3) && ab_fok (ab_mY k).cls i a j true
  | .invokevirtual i => decide (len = 3) && decide (nx = pc + 3) && (decide (a < ab_NM - 1) && (!(ab_mJ a).2.2.2.2 && ab_wd j (.methodLink (ab_mY k).cls i (ab_mY a))))
  | .invokestatic i => decide (len = 3) && decide (nx = pc + 3) && (decide (a < ab_NM - 1) && ((ab_mJ a).2.2.2.2 && ab_wd j (.methodLink (ab_mY k).cls i (ab_mY a))))
  | _ => decide (len = 1) && decide (nx = pc + 1)
def ab_ok (k : Nat) (e : ab_E) : Bool := match e.2.1 with
  | .nop => true
  | ins => match decode (ab_mB k) e.1 with
    | .ok (i2, len) => decide (i2 = ins) && ab_oki k e.1 len ins e.2.2.1 e.2.2.2.1 e.2.2.2.2.1 e.2.2.2.2.2
    | .error _ => false
