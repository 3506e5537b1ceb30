/-! ===== the cells behind both constructors are the places ===== -/
def cu_m (k i : Nat) : Int32 := if k = 9 then -1 else if k = 0 ∧ i = 13 then 20 else if k = 0 ∧ i = 14 then 1 else if k = 8 ∧ i = 6 then 20 else 0
def cu_m0 : ab_M := (cu_m, fun _ _ => 0)
theorem cu_m_0 {k : Nat} (h : k ≠ 9 ∧ k ≠ 0 ∧ k ≠ 8) (i : Nat) : cu_m k i = 0 := by
  unfold cu_m
  rw [if_neg h.1, if_neg (fun q => h.2.1 q.1), if_neg (fun q => h.2.1 q.1), if_neg (fun q => h.2.2 q.1)]
theorem cu_m_c (i : Nat) : cu_m 9 i = -1 := if_pos rfl
def cu_Z (l : Launch) (D : va_G) (K : cu_K) (o : Nat) : ab_Z := (l, D, fun k => o + cu_px k, fun r => o + cu_rx r, K.1, K.2.1, K.2.2.1, K.2.2.2)
def cu_cf (k : Nat) : List (Option Nat) → List cu_F → Nat → Bool
  | [], [], _ => true
  | none :: s, some (.inr v) :: t, i => decide (cu_m k i = v) && cu_cf k s t (i + 1)
  | some q :: s, some (.inl j) :: t, i => decide (cu_px q = j) && cu_cf k s t (i + 1)
  | _, _, _ => false
def cu_ck (k : Nat) : Bool := match cu_all[cu_px k]? with
  | none => false
  | some (t, n, f, fs) => decide (t = (ab_sh k).1) && (match t with
    | 0 => decide (n = (ab_sh k).2.1) && (decide (f = 0) && (decide (k ≠ 9) && (decide (k ≠ 0) && decide (k ≠ 8))))
    | 1 => decide (n = (ab_sh k).2.1) && (decide (k ≠ 9) && (decide (k ≠ 0) && decide (k ≠ 8)))
    | 2 => decide (n = (ab_sh k).2.1)
    | 3 => decide (n = (ab_sh k).2.1) && (List.range n).all (fun i => decide (cu_rx ((ab_sh k).2.2.2.1 + i) = f + i))
    | _ => cu_cf k (ab_sh k).2.2.2.2 fs 0)
def cu_cr (r : Nat) : Bool := match cu_all[cu_rx r]? with
  | none => false
  | some (t, n, f, _) => decide (t = 0) && (decide (n = (ab_rw r).2.2) && (if (ab_rw r).1 = 9 then decide (f = 1) else (decide (f = 0) && (decide ((ab_rw r).1 ≠ 0) && decide ((ab_rw r).1 ≠ 8)))))
theorem cu_ck_all : (List.range ab_NP).all cu_ck = true := by decide +kernel
theorem cu_cr_all : (List.range ab_NR).all cu_cr = true := by decide +kernel
theorem cu_inv_p : (List.range ab_NP).all (fun k => decide (cu_inv[cu_px k]? = some k)) = true := by decide +kernel
theorem cu_inv_r : (List.range ab_NR).all (fun k => decide (cu_inv[cu_rx k]? = some (ab_NP + k))) = true := by decide +kernel
theorem cu_okZ (l : Launch) (D : va_G) (K : cu_K) (o : Nat) : ab_okZ (cu_Z l D K o) := by
  intro m
  have key : ∀ (i : Nat) (q : Nat × va_E), (ab_w (cu_Z l D K o) m)[i]? = some q → cu_inv[q.1 - o]? = some i := by
    intro i q h
    rcases ab_w_inv _ m h with ⟨hj, rfl⟩ | ⟨r, hr, rfl, rfl⟩
    · show cu_inv[o + cu_px i - o]? = some i
      rw [Nat.add_sub_cancel_left]
      exact of_decide_eq_true (List.all_eq_true.mp cu_inv_p i (List.mem_range.mpr hj))
    · show cu_inv[o + cu_rx r - o]? = some (ab_NP + r)
      rw [Nat.add_sub_cancel_left]
      exact of_decide_eq_true (List.all_eq_true.mp cu_inv_r r (List.mem_range.mpr hr))
  refine ⟨fun i j x y hx hy hxy => ?_, fun _ _ _ => trivial⟩
  have h1 := key i x hx
  have h2 := key j y hy
  rw [hxy] at h1
  exact Option.some.inj (h1.symm.trans h2)
theorem cu_cf_eq (l : Launch) (D : va_G) (K : cu_K) (o k : Nat) : ∀ (s : List (Option Nat)) (t : List cu_F) (i : Nat), cu_cf k s t i = true → s.mapIdx (fun j f => ab_fv (cu_Z l D K o) cu_m0 k (i + j) f) = t.map (cu_f o)
  | [], [], _, _ => rfl
  | none :: s, some (.inr v) :: t, i, h => by
    have h : (decide (cu_m k i = v) && cu_cf k s t (i + 1)) = true := h
    rw [Bool.and_eq_true, decide_eq_true_eq] at h
    have ih := cu_cf_eq l D K o k s t (i + 1) h.2
    rw [List.mapIdx_cons, List.map_cons, ← ih]
    refine List.cons_eq_cons.mpr ⟨?_, ?_⟩
    · show Value.int (cu_m k (i + 0)) = Value.int v
      rw [Nat.add_zero, h.1]
    · congr 1
      funext j f
      rw [show i + (j + 1) = i + 1 + j by omega]
  | some q :: s, some (.inl z) :: t, i, h => by
    have h : (decide (cu_px q = z) && cu_cf k s t (i + 1)) = true := h
    rw [Bool.and_eq_true, decide_eq_true_eq] at h
    have ih := cu_cf_eq l D K o k s t (i + 1) h.2
    rw [List.mapIdx_cons, List.map_cons, ← ih]
    refine List.cons_eq_cons.mpr ⟨?_, ?_⟩
    · show Value.ref (o + cu_px q) = Value.ref (o + z)
      rw [h.1]
    · congr 1
      funext j f
      rw [show i + (j + 1) = i + 1 + j by omega]
  | [], _ :: _, _, h => by cases h
  | none :: _, [], _, h => by cases h
  | some _ :: _, [], _, h => by cases h
  | none :: _, none :: _, _, h => by cases h
  | none :: _, some (.inl _) :: _, _, h => by cases h
  | some _ :: _, none :: _, _, h => by cases h
  | some _ :: _, some (.inr _) :: _, _, h => by cases h
theorem cu_place (l : Launch) (D : va_G) (K : cu_K) {o : Nat} {H : Heap} (hP : cu_P D K o cu_all H) : va_P (ab_D (cu_Z l D K o)) vwCl (ab_w (cu_Z l D K o) cu_m0) H := by
  refine ab_P_of (fun k hk => ?_) (fun r hr => ?_)
  · have hc := List.all_eq_true.mp cu_ck_all k (List.mem_range.mpr hk)
    unfold cu_ck at hc
    split at hc
    · cases hc
    · next t n f fs he =>
      have h8 := hP.2 _ _ he
      rw [Bool.and_eq_true, decide_eq_true_eq] at hc
      obtain ⟨ht, hc⟩ := hc
      split at hc
      · simp only [Bool.and_eq_true, decide_eq_true_eq] at hc
        obtain ⟨h1, h2, h3, h4, h5⟩ := hc
        subst h1; subst h2
        rw [ab_cell_0 _ _ ht.symm]
        have e : cu_m0.1 k = fun _ => (0 : Int32) := funext (fun i => cu_m_0 ⟨h3, h4, h5⟩ i)
        rw [e]
        exact h8
      · simp only [Bool.and_eq_true, decide_eq_true_eq] at hc
        obtain ⟨h1, h3, h4, h5⟩ := hc
        subst h1
        rw [ab_cell_1 _ _ ht.symm]
        have e : cu_m0.1 k = fun _ => (0 : Int32) := funext (fun i => cu_m_0 ⟨h3, h4, h5⟩ i)
        rw [e]
        exact h8
      · have h1 := of_decide_eq_true hc
        subst h1
        rw [ab_cell_2 _ _ ht.symm]
        exact h8
      · simp only [Bool.and_eq_true, decide_eq_true_eq] at hc
        obtain ⟨h1, h2⟩ := hc
        rw [ab_cell_3 _ _ ht.symm]
        have h8 : H[o + cu_px k]? = some (arrV K.2.2.2 n (fun i => va_rf (if i < n then some (o + f + i) else none))) := h8
        show H[o + cu_px k]? = some (arrV K.2.2.2 (ab_sh k).2.1 (fun i => va_rf (if i < (ab_sh k).2.1 then some (o + cu_rx ((ab_sh k).2.2.2.1 + i)) else none)))
        rw [h8, ← h1]
        refine congrArg some (cu_arr_eq _ (fun i hi => ?_))
        rw [if_pos hi, if_pos hi, of_decide_eq_true (List.all_eq_true.mp h2 i (List.mem_range.mpr hi)), Nat.add_assoc]
      · next h0 h1 h2 h3 =>
        obtain ⟨t', rfl⟩ : ∃ t', t = 4 + t' := ⟨t - 4, by
          have q0 : t ≠ 0 := fun q => h0 q
          have q1 : t ≠ 1 := fun q => h1 q
          have q2 : t ≠ 2 := fun q => h2 q
          have q3 : t ≠ 3 := fun q => h3 q
          omega⟩
        rw [ab_cell_obj _ _ ht.symm]
        have e := cu_cf_eq l D K o k _ _ 0 hc
        simp only [Nat.zero_add] at e
        rw [e]
        exact cu_obj (c := (4 + t', n, f, fs)) h8 rfl
  · have hc := List.all_eq_true.mp cu_cr_all r (List.mem_range.mpr hr)
    unfold cu_cr at hc
    split at hc
    · cases hc
    · next t n f fs he =>
      have h8 := hP.2 _ _ he
      simp only [Bool.and_eq_true, decide_eq_true_eq] at hc
      obtain ⟨ht, h1, hc⟩ := hc
      subst ht
      have h8 : H[o + cu_rx r]? = some (arrV K.1 n (fun _ => .int (cu_z f))) := h8
      show H[o + cu_rx r]? = some (arrV K.1 (ab_rw r).2.2 (fun j => .int (cu_m (ab_rw r).1 ((ab_rw r).2.1 * (ab_rw r).2.2 + j))))
      rw [h8, ← h1]
      refine congrArg some (cu_arr_eq _ (fun j _ => congrArg Value.int ?_))
      split at hc
      · next hq =>
        rw [of_decide_eq_true hc, hq, cu_m_c]
        rfl
      · next hq =>
        simp only [Bool.and_eq_true, decide_eq_true_eq] at hc
        rw [hc.1, cu_m_0 ⟨hq, hc.2.1, hc.2.2⟩]
        rfl
/-! what holds at the beginning -/
theorem cu_iv : iv_A cu_m0 := by
  refine ⟨0, 0, 0, 0, 0, ?_, ?_, ?_, ?_, ?_, ?_, ?_, ?_⟩
  · exact ⟨by omega, rfl, rfl, fun _ => rfl, fun _ => rfl, fun k hk => absurd hk (Nat.not_lt_zero _), fun k hk => absurd hk (Nat.not_lt_zero _), fun k hk => absurd hk (Nat.not_lt_zero _)⟩
  · exact ⟨fun a _ => ⟨0, by decide, rfl, fun b _ => by rw [Nat.zero_testBit]; rfl⟩, fun _ _ _ _ => rfl⟩
  · exact ⟨by omega, rfl, rfl, fun a b h => absurd h (Nat.not_lt_zero _), fun a b h => absurd h (Nat.not_lt_zero _), fun a b h => absurd h (Nat.not_lt_zero _), fun _ _ => Or.inl rfl, fun _ _ _ => rfl, fun a h => absurd h (Nat.not_lt_zero _)⟩
  · exact ⟨by omega, rfl, rfl, fun _ => rfl, fun _ => rfl, fun _ => rfl, fun _ => rfl, fun _ => rfl, fun _ => rfl, fun _ => rfl, fun _ => rfl, fun f h => absurd h (Nat.not_lt_zero _)⟩
  · exact ⟨by omega, rfl, rfl, fun _ => rfl, fun _ => rfl, fun _ => rfl, fun _ => rfl, fun _ => rfl, fun _ => rfl, fun _ => rfl, fun _ => Or.inl rfl, fun _ _ => rfl, fun f h => absurd h (Nat.not_lt_zero _)⟩
  · exact fun i _ => Or.inl ⟨rfl, rfl, rfl⟩
  · exact ⟨rfl, rfl, ⟨by decide, by decide⟩, rfl, ⟨by decide, by decide⟩, by omega, rfl, rfl, fun _ => rfl⟩
  · exact ⟨Or.inr rfl, fun h => absurd h (by decide)⟩
