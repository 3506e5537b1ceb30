/-! ===== the world by its places ===== -/
theorem ab_w_len (Z : ab_Z) (m : ab_M) : ((List.range ab_NP).map (fun k => (ab_ad Z k, ab_cell Z m k))).length = ab_NP := by simp
theorem ab_w_at (Z : ab_Z) (m : ab_M) {k : Nat} (h : k < ab_NP) : (ab_w Z m)[k]? = some (ab_ad Z k, ab_cell Z m k) := by
  unfold ab_w
  rw [List.getElem?_append_left (by rw [ab_w_len]; exact h), List.getElem?_map, List.getElem?_range h]
  rfl
theorem ab_w_row (Z : ab_Z) (m : ab_M) {r : Nat} (h : r < ab_NR) : (ab_w Z m)[ab_NP + r]? = some (ab_ar Z r, ab_row Z m r) := by
  unfold ab_w
  rw [List.getElem?_append_right (by rw [ab_w_len]; omega), ab_w_len, Nat.add_sub_cancel_left, List.getElem?_map, List.getElem?_range h]
  rfl
theorem ab_w_inv (Z : ab_Z) (m : ab_M) {j : Nat} {q : Nat × va_E} (h : (ab_w Z m)[j]? = some q) : (j < ab_NP ∧ q = (ab_ad Z j, ab_cell Z m j)) ∨ ∃ r, r < ab_NR ∧ j = ab_NP + r ∧ q = (ab_ar Z r, ab_row Z m r) := by
  by_cases hj : j < ab_NP
  · rw [ab_w_at Z m hj] at h
    exact Or.inl ⟨hj, (Option.some.inj h).symm⟩
  · by_cases hr : j - ab_NP < ab_NR
    · have e : j = ab_NP + (j - ab_NP) := by omega
      rw [e, ab_w_row Z m hr] at h
      exact Or.inr ⟨j - ab_NP, hr, e, (Option.some.inj h).symm⟩
    · exfalso
      unfold ab_w at h
      rw [List.getElem?_append_right (by rw [ab_w_len]; omega), ab_w_len, List.getElem?_map, List.getElem?_eq_none (by simp; omega)] at h
      cases h
theorem ab_wr_p (m : ab_M) (p i : Nat) (v : Int32) : (ab_wr m p i v).1 p = upd (m.1 p) i v := if_pos rfl
theorem ab_wr_n (m : ab_M) {p q : Nat} (i : Nat) (v : Int32) (h : q ≠ p) : (ab_wr m p i v).1 q = m.1 q := if_neg h
theorem ab_wl_p (m : ab_M) (p i : Nat) (v : Int64) : (ab_wl m p i v).2 p = vp_updL (m.2 p) i v := if_pos rfl
theorem ab_wl_n (m : ab_M) {p q : Nat} (i : Nat) (v : Int64) (h : q ≠ p) : (ab_wl m p i v).2 q = m.2 q := if_neg h
/-- the cells depend on what they hold alone -/
theorem ab_cell_eq (Z : ab_Z) {m m' : ab_M} {k : Nat} (h1 : (ab_sh k).1 ≠ 3 → m.1 k = m'.1 k) (h2 : m.2 k = m'.2 k) : ab_cell Z m k = ab_cell Z m' k := by
  unfold ab_cell
  split
  · next h => rw [h1 (by omega)]
  · next h => rw [h1 (by omega)]
  · rw [h2]
  · rfl
  · next t h =>
    have e := h1 (by omega)
    congr 2
    refine List.ext_getElem? fun i => ?_
    simp only [List.getElem?_mapIdx]
    cases (ab_sh k).2.2.2.2[i]? with
    | none => rfl
    | some f => cases f <;> simp [ab_fv, e]
theorem ab_rw_sh : ∀ r, r < ab_NR → (ab_sh (ab_rw r).1).1 = 3 ∧ (ab_rw r).2.2 = (ab_sh (ab_rw r).1).2.2.1 ∧ r = (ab_sh (ab_rw r).1).2.2.2.1 + (ab_rw r).2.1 ∧ (ab_rw r).2.1 < (ab_sh (ab_rw r).1).2.1 := by decide +kernel
theorem ab_sh_rw : ∀ p, p < ab_NP → (ab_sh p).1 = 3 → ∀ i, i < (ab_sh p).2.1 → (ab_sh p).2.2.2.1 + i < ab_NR ∧ ab_rw ((ab_sh p).2.2.2.1 + i) = (p, i, (ab_sh p).2.2.1) := by decide +kernel
theorem ab_sh_lt : ∀ p, p < ab_NP → (ab_sh p).1 = 3 → p < ab_NP := fun _ h _ => h
theorem ab_sh_big {p : Nat} (h : (ab_sh p).1 = 3) : p < ab_NP := by
  by_cases hp : p < ab_NP
  · exact hp
  · exfalso
    have e : ab_sh p = (0, 24, 0, 0, []) := by
      unfold ab_NP at hp
      unfold ab_sh
      repeat rw [if_neg (by omega)]
    rw [e] at h
    cases h
theorem ab_P_of {Z : ab_Z} {m : ab_M} {H : Heap} (h1 : ∀ k, k < ab_NP → va_at (ab_D Z) vwCl (ab_ad Z k, ab_cell Z m k) H) (h2 : ∀ r, r < ab_NR → va_at (ab_D Z) vwCl (ab_ar Z r, ab_row Z m r) H) : va_P (ab_D Z) vwCl (ab_w Z m) H := by
  intro j q hq
  rcases ab_w_inv Z m hq with ⟨hj, rfl⟩ | ⟨r, hr, -, rfl⟩
  · exact h1 j hj
  · exact h2 r hr
theorem ab_P_at {Z : ab_Z} {m : ab_M} {H : Heap} (h : va_P (ab_D Z) vwCl (ab_w Z m) H) {k : Nat} (hk : k < ab_NP) : va_at (ab_D Z) vwCl (ab_ad Z k, ab_cell Z m k) H := h k _ (ab_w_at Z m hk)
theorem ab_P_row {Z : ab_Z} {m : ab_M} {H : Heap} (h : va_P (ab_D Z) vwCl (ab_w Z m) H) {r : Nat} (hr : r < ab_NR) : va_at (ab_D Z) vwCl (ab_ar Z r, ab_row Z m r) H := h _ _ (ab_w_row Z m hr)
/-- a place that isn't an array of rows has been written -/
theorem ab_P_set {Z : ab_Z} {m m' : ab_M} {H : Heap} {p : Nat} {e : va_E} (hp : p < ab_NP) (ht : (ab_sh p).1 ≠ 3) (he : e = ab_cell Z m' p) (h1 : ∀ q, q ≠ p → m'.1 q = m.1 q) (h2 : ∀ q, q ≠ p → m'.2 q = m.2 q) (h : va_P (ab_D Z) vwCl ((ab_w Z m).set p (ab_ad Z p, e)) H) : va_P (ab_D Z) vwCl (ab_w Z m') H := by
  have hl : p < (ab_w Z m).length := (List.getElem?_eq_some_iff.mp (ab_w_at Z m hp)).1
  refine ab_P_of (fun k hk => ?_) (fun r hr => ?_)
  · by_cases hkp : k = p
    · subst hkp
      rw [← he]
      exact h k _ (by rw [List.getElem?_set_self hl])
    · have e1 : ab_cell Z m' k = ab_cell Z m k := ab_cell_eq Z (fun _ => h1 k hkp) (h2 k hkp)
      rw [e1]
      exact h k _ (by rw [List.getElem?_set_ne (Ne.symm hkp)]; exact ab_w_at Z m hk)
  · have hne : (ab_rw r).1 ≠ p := fun q => ht (by rw [← q]; exact (ab_rw_sh r hr).1)
    have e1 : ab_row Z m' r = ab_row Z m r := by
      unfold ab_row
      rw [h1 _ hne]
    rw [e1]
    exact h (ab_NP + r) _ (by rw [List.getElem?_set_ne (by omega)]; exact ab_w_row Z m hr)
theorem ab_cell_cong (cA : ClassId) {n : Nat} {f g : Nat → Int32} (h : ∀ j, j < n → f j = g j) : vp_cell cA (n, .inl f) = vp_cell cA (n, .inl g) := by
  rw [vp_cell_i, vp_cell_i]
  unfold arrV
  congr 2
  funext j
  show Value.int (f j.val) = Value.int (g j.val)
  rw [h j.val j.isLt]
theorem ab_mix {i i' j j' w : Nat} (hj : j < w) (hj' : j' < w) (h : i' * w + j' = i * w + j) : i' = i ∧ j' = j := by
  have h1 : (i' * w + j') / w = (i * w + j) / w := by rw [h]
  have hw : 0 < w := by omega
  rw [Nat.mul_comm, Nat.mul_add_div hw, Nat.mul_comm i w, Nat.mul_add_div hw, Nat.div_eq_of_lt hj, Nat.div_eq_of_lt hj'] at h1
  have : i' = i := by omega
  subst this
  exact ⟨rfl, by omega⟩
/-- a row has been written -/
theorem ab_P_setr {Z : ab_Z} {m : ab_M} {H : Heap} {p i j : Nat} {v : Int32} (hp : p < ab_NP) (ht : (ab_sh p).1 = 3) (hi : i < (ab_sh p).2.1) (hj : j < (ab_sh p).2.2.1)
    (h : va_P (ab_D Z) vwCl ((ab_w Z m).set (ab_NP + ((ab_sh p).2.2.2.1 + i)) (ab_ar Z ((ab_sh p).2.2.2.1 + i), .inl (ab_cI Z, (ab_sh p).2.2.1, .inl (upd (fun j => m.1 p (i * (ab_sh p).2.2.1 + j)) j v)))) H) : va_P (ab_D Z) vwCl (ab_w Z (ab_wr m p (i * (ab_sh p).2.2.1 + j) v)) H := by
  obtain ⟨hr0, hrw⟩ := ab_sh_rw p hp ht i hi
  have hl : ab_NP + ((ab_sh p).2.2.2.1 + i) < (ab_w Z m).length := (List.getElem?_eq_some_iff.mp (ab_w_row Z m hr0)).1
  refine ab_P_of (fun k hk => ?_) (fun r hr => ?_)
  · have e1 : ab_cell Z (ab_wr m p (i * (ab_sh p).2.2.1 + j) v) k = ab_cell Z m k := ab_cell_eq Z (fun hk3 => ab_wr_n m _ v (fun q => hk3 (by rw [q]; exact ht))) rfl
    rw [e1]
    exact h k _ (by rw [List.getElem?_set_ne (by omega)]; exact ab_w_at Z m hk)
  · by_cases hre : r = (ab_sh p).2.2.2.1 + i
    · subst hre
      have h0 := h _ _ (by rw [List.getElem?_set_self hl])
      show H[_]? = some (vp_cell _ _)
      have h0 : H[ab_ar Z ((ab_sh p).2.2.2.1 + i)]? = some (vp_cell (ab_cI Z) ((ab_sh p).2.2.1, .inl (upd (fun j => m.1 p (i * (ab_sh p).2.2.1 + j)) j v))) := h0
      rw [h0]
      refine congrArg some ?_
      rw [hrw]
      refine ab_cell_cong _ (fun j' hj' => ?_)
      rw [ab_wr_p]
      unfold upd
      by_cases e : j' = j
      · rw [e, if_pos rfl, if_pos rfl]
      · rw [if_neg e, if_neg (fun q => e (ab_mix hj hj' q).2)]
    · have h0 := h (ab_NP + r) _ (by rw [List.getElem?_set_ne (by omega)]; exact ab_w_row Z m hr)
      have h0 : H[ab_ar Z r]? = some (vp_cell (ab_cI Z) ((ab_rw r).2.2, .inl (fun j => m.1 (ab_rw r).1 ((ab_rw r).2.1 * (ab_rw r).2.2 + j)))) := h0
      show H[ab_ar Z r]? = some (vp_cell _ _)
      rw [h0]
      refine congrArg some (ab_cell_cong _ (fun j' hj' => ?_))
      by_cases hq : (ab_rw r).1 = p
      · obtain ⟨g1, g2, g3, g4⟩ := ab_rw_sh r hr
        rw [hq] at g2 g3 ⊢
        rw [ab_wr_p]
        unfold upd
        rw [if_neg]
        intro q
        rw [g2] at q hj'
        have := (ab_mix hj hj' q).1
        exact hre (by omega)
      · rw [ab_wr_n m _ v hq]
theorem ab_D_of {Z : ab_Z} (h : ab_okZ Z) {A : Nat → Prop} (hA : ∀ q, ab_A Z q → A q) (m : ab_M) : va_D A (ab_w Z m) := by
  refine (h m).weaken (fun j q hq _ => hA _ ?_)
  rcases ab_w_inv Z m hq with ⟨hj, rfl⟩ | ⟨r, hr, -, rfl⟩
  · exact Or.inl ⟨j, hj, rfl⟩
  · exact Or.inr ⟨r, hr, rfl⟩
