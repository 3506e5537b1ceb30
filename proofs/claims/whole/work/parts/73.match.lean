/-! ===== seats and columns ===== -/
/-- the i-th of those below n -/
def nt (S : Nat → Prop) [DecidablePred S] : Nat → Nat → Nat
  | 0, _ => 0
  | n + 1, i => if S n ∧ cn_of S n = i then n else nt S n i
theorem nt_is {S : Nat → Prop} [DecidablePred S] : ∀ {n i : Nat}, i < cn_of S n → nt S n i < n ∧ S (nt S n i) ∧ cn_of S (nt S n i) = i
  | 0, i, h => absurd h (Nat.not_lt_zero i)
  | n + 1, i, h => by
    unfold nt
    by_cases q : S n ∧ cn_of S n = i
    · rw [if_pos q]
      exact ⟨by omega, q⟩
    · rw [if_neg q]
      rw [cn_s] at h
      have : i < cn_of S n := by
        by_cases z : S n
        · rw [if_pos z] at h
          have : cn_of S n ≠ i := fun y => q ⟨z, y⟩
          omega
        · rw [if_neg z] at h
          omega
      have := nt_is (n := n) this
      exact ⟨by omega, this.2⟩
theorem cn_mono {S : Nat → Prop} [DecidablePred S] {a : Nat} : ∀ {b : Nat}, a ≤ b → cn_of S a ≤ cn_of S b
  | 0, h => by
    have : a = 0 := by omega
    rw [this]
    exact Nat.le_refl _
  | b + 1, h => by
    by_cases e : a = b + 1
    · rw [e]
      exact Nat.le_refl _
    · have := cn_mono (S := S) (a := a) (b := b) (by omega)
      rw [cn_s]
      omega
theorem cn_one {S : Nat → Prop} [DecidablePred S] {a b : Nat} (ha : S a) (hb : S b) (h : cn_of S a = cn_of S b) : a = b := by
  rcases Nat.lt_trichotomy a b with q | q | q
  · have := cn_lt q ha
    omega
  · exact q
  · have := cn_lt q hb
    omega
theorem nt_cn {S : Nat → Prop} [DecidablePred S] {n l : Nat} (hl : l < n) (hs : S l) : nt S n (cn_of S l) = l := by
  have h := nt_is (S := S) (n := n) (i := cn_of S l) (cn_lt hl hs)
  exact cn_one h.2.1 hs h.2.2
theorem sg_list {S : Nat → Prop} [DecidablePred S] (g : Nat → Int) : ∀ n, sg_sum g (cn_of S n) = sg_sum (fun l => if S l then g (cn_of S l) else 0) n
  | 0 => rfl
  | n + 1 => by
    have ih := sg_list (S := S) g n
    show sg_sum g (cn_of S n + if S n then 1 else 0) = sg_sum (fun l => if S l then g (cn_of S l) else 0) n + (if S n then g (cn_of S n) else 0)
    by_cases q : S n
    · rw [if_pos q, if_pos q, ← ih]
      rfl
    · rw [if_neg q, if_neg q, ← ih]
      show sg_sum g (cn_of S n) = _
      omega
/-- prices by seats and by columns: the same -/
def mx_P (nL nF : Nat) (op kp : Nat → Prop) [DecidablePred op] [DecidablePred kp] (w pw : Nat → Nat → Int) : Prop := ∀ l, l < nL → op l → (∀ s, s < nF → ¬ kp s → 1000000 ≤ w l s) ∧ (∀ s, s < nF → kp s → pw (cn_of op l) (cn_of kp s) = if w l s < 1000000 then w l s else 10000000) ∧ pw (cn_of op l) (cn_of kp nF + cn_of op l) = w l nF ∧ (0 ≤ w l nF ∧ w l nF ≤ 100) ∧ (∀ i, i < cn_of op nL → i ≠ cn_of op l → pw (cn_of op l) (cn_of kp nF + i) = 10000000) ∧ ∀ s, s ≤ nF → 0 ≤ w l s
def mx_c (nL nF : Nat) (op kp : Nat → Prop) [DecidablePred op] [DecidablePred kp] (v : Nat → Nat) (i : Nat) : Nat := if v (nt op nL i) < nF then cn_of kp (v (nt op nL i)) else cn_of kp nF + i
def mx_s (nF : Nat) (op kp : Nat → Prop) [DecidablePred op] [DecidablePred kp] (x : Nat → Nat) (l : Nat) : Nat := if x (cn_of op l) < cn_of kp nF then nt kp nF (x (cn_of op l)) else nF
section
variable {nL nF : Nat} {op kp : Nat → Prop} {w pw : Nat → Nat → Int}
theorem mx_row [DecidablePred op] {i : Nat} (h : i < cn_of op nL) : ∃ l, l < nL ∧ op l ∧ cn_of op l = i ∧ nt op nL i = l := by
  have := nt_is h
  exact ⟨nt op nL i, this.1, this.2.1, this.2.2, rfl⟩
/-- all prices are there -/
theorem mx_bd [DecidablePred op] [DecidablePred kp] (h : mx_P nL nF op kp w pw) {i j : Nat} (hi : i < cn_of op nL) (hj : j < cn_of kp nF + cn_of op nL) : 0 ≤ pw i j ∧ pw i j ≤ 10000000 := by
  obtain ⟨l, l1, l2, l3, -⟩ := mx_row hi
  obtain ⟨h1, h2, h3, h4, h5, h6⟩ := h l l1 l2
  rw [l3] at h2 h3 h5
  by_cases q : j < cn_of kp nF
  · have k := nt_is q
    have e := h2 (nt kp nF j) k.1 k.2.1
    rw [k.2.2] at e
    rw [e]
    have := h6 (nt kp nF j) (by omega)
    by_cases z : w l (nt kp nF j) < 1000000
    · rw [if_pos z]
      omega
    · rw [if_neg z]
      omega
  · by_cases e : j = cn_of kp nF + i
    · rw [e, h3]
      omega
    · have e2 := h5 (j - cn_of kp nF) (by omega) (by omega)
      rw [show cn_of kp nF + (j - cn_of kp nF) = j by omega] at e2
      rw [e2]
      omega
theorem mx_ok [DecidablePred op] [DecidablePred kp] (h : mx_P nL nF op kp w pw) {v : Nat → Nat} (hv : sg_ok nL nF op w v) : ij_ok (cn_of op nL) (cn_of kp nF + cn_of op nL) (mx_c nL nF op kp v) ∧ (∀ l, l < nL → op l → pw (cn_of op l) (mx_c nL nF op kp v (cn_of op l)) = w l (v l)) ∧ hg_sum (cn_of op nL) pw (mx_c nL nF op kp v) = sg_cost nL op w v := by
  have kept : ∀ l, l < nL → op l → v l < nF → kp (v l) := fun l hl ho hs => by
    by_cases q : kp (v l)
    · exact q
    · have h1 := (h l hl ho).1 (v l) hs q
      have h2 := (hv.1 l hl ho).2
      omega
  have val : ∀ l, l < nL → op l → pw (cn_of op l) (mx_c nL nF op kp v (cn_of op l)) = w l (v l) := fun l hl ho => by
    obtain ⟨h1, h2, h3, h4, h5, h6⟩ := h l hl ho
    unfold mx_c
    rw [nt_cn hl ho]
    by_cases q : v l < nF
    · rw [if_pos q, h2 (v l) q (kept l hl ho q), if_pos (hv.1 l hl ho).2]
    · rw [if_neg q, h3]
      have : v l = nF := by
        have := (hv.1 l hl ho).1
        omega
      rw [this]
  refine ⟨⟨fun i hi => ?_, fun i i' hi hi' he => ?_⟩, val, ?_⟩
  · obtain ⟨l, l1, l2, l3, l4⟩ := mx_row hi
    unfold mx_c
    rw [l4]
    by_cases q : v l < nF
    · rw [if_pos q]
      have := cn_lt q (kept l l1 l2 q)
      omega
    · rw [if_neg q]
      omega
  · obtain ⟨l, l1, l2, l3, l4⟩ := mx_row hi
    obtain ⟨l', e1, e2, e3, e4⟩ := mx_row hi'
    unfold mx_c at he
    rw [l4, e4] at he
    by_cases q : v l < nF
    · rw [if_pos q] at he
      have k1 := kept l l1 l2 q
      have k2 := cn_lt q k1
      by_cases q' : v l' < nF
      · rw [if_pos q'] at he
        have e := cn_one k1 (kept l' e1 e2 q') he
        have := hv.2 l l' l1 e1 l2 e2 e q
        rw [← l3, ← e3, this]
      · rw [if_neg q'] at he
        omega
    · rw [if_neg q] at he
      by_cases q' : v l' < nF
      · rw [if_pos q'] at he
        have := cn_lt q' (kept l' e1 e2 q')
        omega
      · rw [if_neg q'] at he
        omega
  · unfold hg_sum
    rw [sg_list]
    refine sg_sum_cong (fun l hl => ?_)
    by_cases o : op l
    · rw [if_pos o, if_pos o]
      exact val l hl o
    · rw [if_neg o, if_neg o]
theorem mx_back [DecidablePred op] [DecidablePred kp] (h : mx_P nL nF op kp w pw) {x : Nat → Nat} (hx : ij_ok (cn_of op nL) (cn_of kp nF + cn_of op nL) x) (hs : ∀ i, i < cn_of op nL → pw i (x i) < 10000000) : sg_ok nL nF op w (mx_s nF op kp x) ∧ hg_sum (cn_of op nL) pw x = sg_cost nL op w (mx_s nF op kp x) ∧ ∀ i, i < cn_of op nL → x i < cn_of kp nF ∨ x i = cn_of kp nF + i := by
  have col : ∀ l, l < nL → op l → x (cn_of op l) < cn_of kp nF ∨ x (cn_of op l) = cn_of kp nF + cn_of op l := fun l hl ho => by
    obtain ⟨h1, h2, h3, h4, h5, h6⟩ := h l hl ho
    have hi := cn_lt hl ho
    by_cases q : x (cn_of op l) < cn_of kp nF
    · exact Or.inl q
    · right
      by_cases e : x (cn_of op l) = cn_of kp nF + cn_of op l
      · exact e
      · have := hx.1 _ hi
        have e2 := h5 (x (cn_of op l) - cn_of kp nF) (by omega) (by omega)
        rw [show cn_of kp nF + (x (cn_of op l) - cn_of kp nF) = x (cn_of op l) by omega] at e2
        have := hs _ hi
        omega
  have val : ∀ l, l < nL → op l → pw (cn_of op l) (x (cn_of op l)) = w l (mx_s nF op kp x l) ∧ w l (mx_s nF op kp x l) < 1000000 ∧ mx_s nF op kp x l ≤ nF := fun l hl ho => by
    obtain ⟨h1, h2, h3, h4, h5, h6⟩ := h l hl ho
    have hi := cn_lt hl ho
    unfold mx_s
    rcases col l hl ho with q | q
    · rw [if_pos q]
      have k := nt_is q
      have e := h2 _ k.1 k.2.1
      rw [k.2.2] at e
      have hlt := hs _ hi
      by_cases z : w l (nt kp nF (x (cn_of op l))) < 1000000
      · rw [if_pos z] at e
        exact ⟨e, z, by omega⟩
      · rw [if_neg z] at e
        omega
    · rw [if_neg (by omega), q]
      exact ⟨h3, by omega, Nat.le_refl _⟩
  refine ⟨⟨fun l hl ho => ⟨(val l hl ho).2.2, (val l hl ho).2.1⟩, fun l l' hl hl' ho ho' he hlt => ?_⟩, ?_, fun i hi => ?_⟩
  · unfold mx_s at he hlt
    by_cases q : x (cn_of op l) < cn_of kp nF
    · rw [if_pos q] at he
      by_cases q' : x (cn_of op l') < cn_of kp nF
      · rw [if_pos q'] at he
        have k := nt_is q
        have k' := nt_is q'
        have : x (cn_of op l) = x (cn_of op l') := by rw [← k.2.2, ← k'.2.2, he]
        exact cn_one ho ho' (hx.2 _ _ (cn_lt hl ho) (cn_lt hl' ho') this)
      · rw [if_neg q'] at he
        have k := nt_is q
        omega
    · rw [if_neg q] at hlt
      omega
  · unfold hg_sum
    rw [sg_list]
    refine sg_sum_cong (fun l hl => ?_)
    by_cases o : op l
    · rw [if_pos o, if_pos o]
      exact (val l hl o).1
    · rw [if_neg o, if_neg o]
  · obtain ⟨l, l1, l2, l3, -⟩ := mx_row hi
    have := col l l1 l2
    rw [l3] at this
    exact this
/-- a sum below the bar: no part is barred -/
theorem hg_small {n C : Nat} {pw : Nat → Nat → Int} {x : Nat → Nat} (hb : ∀ i j, i < n → j < C → 0 ≤ pw i j) (hx : ∀ i, i < n → x i < C) {c : Int} (hs : hg_sum n pw x < c) : ∀ i, i < n → pw i (x i) < c := by
  intro i hi
  have h1 : sg_sum (fun l => if l = i then pw i (x i) else 0) n ≤ hg_sum n pw x := sm_le (fun l hl => by
    by_cases e : l = i
    · rw [if_pos e, e]
      exact Int.le_refl _
    · rw [if_neg e]
      exact hb l _ hl (hx l hl))
  have h2 : ∀ n, i < n → sg_sum (fun l => if l = i then pw i (x i) else 0) n = pw i (x i) := by
    intro n
    induction n with
    | zero => intro h; omega
    | succ n ih =>
      intro h
      show sg_sum (fun l => if l = i then pw i (x i) else 0) n + (if n = i then pw i (x i) else 0) = pw i (x i)
      by_cases e : n = i
      · rw [if_pos e, sm_0 (fun k hk => if_neg (by omega))]
        omega
      · rw [if_neg e, ih (by omega)]
        omega
  have := h2 n hi
  omega
/-- none matched: always there -/
theorem mx_none [DecidablePred op] [DecidablePred kp] (h : mx_P nL nF op kp w pw) : sg_ok nL nF op w (fun _ => nF) ∧ sg_cost nL op w (fun _ => nF) ≤ 100 * (nL : Int) := by
  refine ⟨⟨fun l hl ho => ⟨Nat.le_refl _, by have := (h l hl ho).2.2.2.1; show w l nF < 1000000; omega⟩, fun l l' _ _ _ _ _ hlt => absurd hlt (Nat.lt_irrefl _)⟩, ?_⟩
  have h1 : sg_cost nL op w (fun _ => nF) ≤ sg_sum (fun _ => 100) nL := sm_le (fun l hl => by
    by_cases o : op l
    · rw [if_pos o]
      exact (h l hl o).2.2.2.1.2
    · rw [if_neg o]
      decide)
  have h2 : ∀ n : Nat, sg_sum (fun _ => 100) n = 100 * (n : Int) := by
    intro n
    induction n with
    | zero => rfl
    | succ n ih =>
      show sg_sum (fun _ => 100) n + 100 = 100 * ((n + 1 : Nat) : Int)
      omega
  rw [h2] at h1
  exact h1
/-- both least sums are one -/
theorem mx_min [DecidablePred op] [DecidablePred kp] (h : mx_P nL nF op kp w pw) (hn : nL ≤ 24) {c c' : Int} (hc : hg_min (cn_of op nL) (cn_of kp nF + cn_of op nL) pw c) (h1 : ∃ v, sg_ok nL nF op w v ∧ sg_cost nL op w v = c') (h2 : ∀ v, sg_ok nL nF op w v → c' ≤ sg_cost nL op w v) : c = c' := by
  obtain ⟨v, v1, v2⟩ := h1
  obtain ⟨a1, a2, a3⟩ := mx_ok h v1
  have b1 := hc.2 _ a1
  rw [a3, v2] at b1
  obtain ⟨n1, n2⟩ := mx_none h
  have b2 := h2 _ n1
  obtain ⟨x, x1, x2⟩ := hc.1
  obtain ⟨y1, y2, -⟩ := mx_back h x1 (hg_small (fun i j hi hj => (mx_bd h hi hj).1) x1.1 (by omega))
  have b3 := h2 _ y1
  omega
/-- the best one has the least columns -/
theorem mx_lex [DecidablePred op] [DecidablePred kp] (h : mx_P nL nF op kp w pw) {v : Nat → Nat} {c : Int} (hv : sg_best nL nF op w v c) (hc : c < 10000000) {x : Nat → Nat} (hx : ij_ok (cn_of op nL) (cn_of kp nF + cn_of op nL) x) (hxc : hg_sum (cn_of op nL) pw x = c) {i : Nat} (hi : i < cn_of op nL) (ha : ∀ i', i' < i → x i' = mx_c nL nF op kp v i') : mx_c nL nF op kp v i ≤ x i := by
  obtain ⟨y1, y2, y3⟩ := mx_back h hx (hg_small (fun i j hi hj => (mx_bd h hi hj).1) hx.1 (by omega))
  obtain ⟨l, l1, l2, l3, l4⟩ := mx_row hi
  have lex := hv.2.2.2 l l1 l2 (mx_s nF op kp x) y1 (by omega) (fun l' hl' ho' => by
    have e1 : cn_of op l' < i := by rw [← l3]; exact cn_lt hl' ho'
    have e2 := ha _ e1
    unfold mx_c at e2
    rw [nt_cn (by omega) ho'] at e2
    unfold mx_s
    by_cases q : v l' < nF
    · rw [if_pos q] at e2
      have kk : kp (v l') := by
        by_cases z : kp (v l')
        · exact z
        · have := (h l' (by omega) ho').1 _ q z
          have := (hv.1.1 l' (by omega) ho').2
          omega
      rw [if_pos (by rw [e2]; exact cn_lt q kk), e2, nt_cn q kk]
    · rw [if_neg q] at e2
      rw [if_neg (by omega)]
      have := (hv.1.1 l' (by omega) ho').1
      omega)
  unfold mx_c
  rw [l4]
  unfold mx_s at lex
  rw [l3] at lex
  by_cases q : x i < cn_of kp nF
  · rw [if_pos q] at lex
    have k := nt_is q
    rw [if_pos (by omega)]
    have := cn_mono (S := kp) lex
    omega
  · have := (y3 i hi).resolve_left q
    by_cases q2 : v l < nF
    · rw [if_pos q2]
      have := cn_mono (S := kp) (Nat.le_of_lt q2)
      omega
    · rw [if_neg q2]
      omega
end
