/-! ===== the heap's instructions, switches, calls ===== -/
set_option maxRecDepth 100000 in
theorem ab_i0 : ∀ w ∈ u_ws RX0 TX0 1, w ∈ ab_tb := by decide +kernel
set_option maxRecDepth 100000 in
theorem ab_i1 : ∀ w ∈ u_ws RX1 TX1 9, w ∈ ab_tb := by decide +kernel
set_option maxRecDepth 100000 in
theorem ab_i2 : ∀ w ∈ u_ws RX2 TX2 4, w ∈ ab_tb := by decide +kernel
set_option maxRecDepth 100000 in
theorem ab_i3 : ∀ w ∈ u_ws RX3 TX3 8, w ∈ ab_tb := by decide +kernel
set_option maxRecDepth 100000 in
theorem ab_i4 : ∀ w ∈ u_ws RX4 TX4 5, w ∈ ab_tb := by decide +kernel
set_option maxRecDepth 100000 in
theorem ab_i5 : ∀ w ∈ u_ws RX5 TX5 15, w ∈ ab_tb := by decide +kernel
set_option maxRecDepth 100000 in
theorem ab_i6 : ∀ w ∈ u_ws RX6 TX6 4, w ∈ ab_tb := by decide +kernel
set_option maxRecDepth 100000 in
theorem ab_i7 : ∀ w ∈ u_ws RX7 TX7 15, w ∈ ab_tb := by decide +kernel
set_option maxRecDepth 100000 in
theorem ab_i8 : ∀ w ∈ u_ws RX8 TX8 47, w ∈ ab_tb := by decide +kernel
theorem ab_cl_all : ∀ (ci : Nat) (C : String) (T : u_T) (N : Nat), vwCl[ci]? = some (C, T, N) → (∀ w ∈ u_ws C T N, w ∈ ab_tb) ∧ (∃ ty0 : Nat → FieldType, ∀ k, k < N → parseFieldDescriptor (T k).2.2.1 = some (ty0 k)) ∧ (∀ a, a < N → ∀ b, b < N → a ≠ b → (T a).2.1 ≠ (T b).2.1)
  | 0, _, _, _, h => by cases h; exact ⟨ab_i0, ⟨tyX0, tyX0_ok⟩, nmX0⟩
  | 1, _, _, _, h => by cases h; exact ⟨ab_i1, ⟨tyX1, tyX1_ok⟩, nmX1⟩
  | 2, _, _, _, h => by cases h; exact ⟨ab_i2, ⟨tyX2, tyX2_ok⟩, nmX2⟩
  | 3, _, _, _, h => by cases h; exact ⟨ab_i3, ⟨tyX3, tyX3_ok⟩, nmX3⟩
  | 4, _, _, _, h => by cases h; exact ⟨ab_i4, ⟨tyX4, tyX4_ok⟩, nmX4⟩
  | 5, _, _, _, h => by cases h; exact ⟨ab_i5, ⟨tyX5, tyX5_ok⟩, nmX5⟩
  | 6, _, _, _, h => by cases h; exact ⟨ab_i6, ⟨tyX6, tyX6_ok⟩, nmX6⟩
  | 7, _, _, _, h => by cases h; exact ⟨ab_i7, ⟨tyX7, tyX7_ok⟩, nmX7⟩
  | 8, _, _, _, h => by cases h; exact ⟨ab_i8, ⟨tyX8, tyX8_ok⟩, nmX8⟩
  | n + 9, _, _, _, h => by simp [vwCl] at h
def ab_mchk (k : Nat) : Bool :=
  ab_wd (ab_mJ k).1 (.code (ab_mY k) (ab_mB k) (ab_mL k) (ab_mR k)) && (ab_wd (ab_mJ k).2.2.2.1 (.initialized (ab_mY k).cls) && (decide ((ab_mY k).cls ≠ "java/lang/invoke/MethodHandle") && (decide ((ab_mY k).cls ≠ "java/lang/invoke/VarHandle") && ((plainName (ab_mY k).cls || (decide (143 ≤ k) && decide (k ≤ 145))) && (decide (ab_mL k ≤ 40) && (decide ((ab_mI k).2.2.1 ≤ ab_mL k) &&
    (if (ab_mJ k).2.2.2.2 = true then ab_wd (ab_mJ k).2.1 (.static (ab_mY k)) && decide ((parseMethodDescriptor (ab_mY k).desc).map (fun d => d.parameters.length) = some (ab_mI k).2.2.1)
     else ab_wd (ab_mJ k).2.1 (.instanceMethod (ab_mY k)) && (ab_wd (ab_mJ k).2.2.1 (.selects (ab_mY k).cls (ab_mY k) (ab_mY k)) && (decide ((parseMethodDescriptor (ab_mY k).desc).map (fun d => d.parameters.length + 1) = some (ab_mI k).2.2.1) && match vwCl[(ab_mI k).2.2.2]? with | some q => decide (q.1 = (ab_mY k).cls) | none => false)))))))))
set_option maxRecDepth 100000 in
theorem ab_mck0 : (List.range 7).all (fun i => ab_mchk (0 + i)) = true := by decide +kernel
set_option maxRecDepth 100000 in
theorem ab_mck1 : (List.range 7).all (fun i => ab_mchk (7 + i)) = true := by decide +kernel
set_option maxRecDepth 100000 in
theorem ab_mck2 : (List.range 7).all (fun i => ab_mchk (14 + i)) = true := by decide +kernel
set_option maxRecDepth 100000 in
theorem ab_mck3 : (List.range 7).all (fun i => ab_mchk (21 + i)) = true := by decide +kernel
set_option maxRecDepth 100000 in
theorem ab_mck4 : (List.range 7).all (fun i => ab_mchk (28 + i)) = true := by decide +kernel
set_option maxRecDepth 100000 in
theorem ab_mck5 : (List.range 7).all (fun i => ab_mchk (35 + i)) = true := by decide +kernel
set_option maxRecDepth 100000 in
theorem ab_mck6 : (List.range 7).all (fun i => ab_mchk (42 + i)) = true := by decide +kernel
set_option maxRecDepth 100000 in
theorem ab_mck7 : (List.range 7).all (fun i => ab_mchk (49 + i)) = true := by decide +kernel
set_option maxRecDepth 100000 in
theorem ab_mck8 : (List.range 7).all (fun i => ab_mchk (56 + i)) = true := by decide +kernel
set_option maxRecDepth 100000 in
theorem ab_mck9 : (List.range 7).all (fun i => ab_mchk (63 + i)) = true := by decide +kernel
set_option maxRecDepth 100000 in
theorem ab_mck10 : (List.range 7).all (fun i => ab_mchk (70 + i)) = true := by decide +kernel
set_option maxRecDepth 100000 in
theorem ab_mck11 : (List.range 7).all (fun i => ab_mchk (77 + i)) = true := by decide +kernel
set_option maxRecDepth 100000 in
theorem ab_mck12 : (List.range 7).all (fun i => ab_mchk (84 + i)) = true := by decide +kernel
set_option maxRecDepth 100000 in
theorem ab_mck13 : (List.range 7).all (fun i => ab_mchk (91 + i)) = true := by decide +kernel
set_option maxRecDepth 100000 in
theorem ab_mck14 : (List.range 7).all (fun i => ab_mchk (98 + i)) = true := by decide +kernel
set_option maxRecDepth 100000 in
theorem ab_mck15 : (List.range 7).all (fun i => ab_mchk (105 + i)) = true := by decide +kernel
set_option maxRecDepth 100000 in
theorem ab_mck16 : (List.range 7).all (fun i => ab_mchk (112 + i)) = true := by decide +kernel
set_option maxRecDepth 100000 in
theorem ab_mck17 : (List.range 7).all (fun i => ab_mchk (119 + i)) = true := by decide +kernel
set_option maxRecDepth 100000 in
theorem ab_mck18 : (List.range 7).all (fun i => ab_mchk (126 + i)) = true := by decide +kernel
set_option maxRecDepth 100000 in
theorem ab_mck19 : (List.range 7).all (fun i => ab_mchk (133 + i)) = true := by decide +kernel
set_option maxRecDepth 100000 in
theorem ab_mck20 : (List.range 7).all (fun i => ab_mchk (140 + i)) = true := by decide +kernel
theorem ab_mck {k : Nat} (h : k < ab_NM - 1) : ab_mchk k = true := by
  have h : k < 147 := h
  by_cases q0 : k < 7
  · have z := List.all_eq_true.mp ab_mck0 (k - 0) (List.mem_range.mpr (by omega))
    rw [show 0 + (k - 0) = k by omega] at z
    exact z
  by_cases q7 : k < 14
  · have z := List.all_eq_true.mp ab_mck1 (k - 7) (List.mem_range.mpr (by omega))
    rw [show 7 + (k - 7) = k by omega] at z
    exact z
  by_cases q14 : k < 21
  · have z := List.all_eq_true.mp ab_mck2 (k - 14) (List.mem_range.mpr (by omega))
    rw [show 14 + (k - 14) = k by omega] at z
    exact z
  by_cases q21 : k < 28
  · have z := List.all_eq_true.mp ab_mck3 (k - 21) (List.mem_range.mpr (by omega))
    rw [show 21 + (k - 21) = k by omega] at z
    exact z
  by_cases q28 : k < 35
  · have z := List.all_eq_true.mp ab_mck4 (k - 28) (List.mem_range.mpr (by omega))
    rw [show 28 + (k - 28) = k by omega] at z
    exact z
  by_cases q35 : k < 42
  · have z := List.all_eq_true.mp ab_mck5 (k - 35) (List.mem_range.mpr (by omega))
    rw [show 35 + (k - 35) = k by omega] at z
    exact z
  by_cases q42 : k < 49
  · have z := List.all_eq_true.mp ab_mck6 (k - 42) (List.mem_range.mpr (by omega))
    rw [show 42 + (k - 42) = k by omega] at z
    exact z
  by_cases q49 : k < 56
  · have z := List.all_eq_true.mp ab_mck7 (k - 49) (List.mem_range.mpr (by omega))
    rw [show 49 + (k - 49) = k by omega] at z
    exact z
  by_cases q56 : k < 63
  · have z := List.all_eq_true.mp ab_mck8 (k - 56) (List.mem_range.mpr (by omega))
    rw [show 56 + (k - 56) = k by omega] at z
    exact z
  by_cases q63 : k < 70
  · have z := List.all_eq_true.mp ab_mck9 (k - 63) (List.mem_range.mpr (by omega))
    rw [show 63 + (k - 63) = k by omega] at z
    exact z
  by_cases q70 : k < 77
  · have z := List.all_eq_true.mp ab_mck10 (k - 70) (List.mem_range.mpr (by omega))
    rw [show 70 + (k - 70) = k by omega] at z
    exact z
  by_cases q77 : k < 84
  · have z := List.all_eq_true.mp ab_mck11 (k - 77) (List.mem_range.mpr (by omega))
    rw [show 77 + (k - 77) = k by omega] at z
    exact z
  by_cases q84 : k < 91
  · have z := List.all_eq_true.mp ab_mck12 (k - 84) (List.mem_range.mpr (by omega))
    rw [show 84 + (k - 84) = k by omega] at z
    exact z
  by_cases q91 : k < 98
  · have z := List.all_eq_true.mp ab_mck13 (k - 91) (List.mem_range.mpr (by omega))
    rw [show 91 + (k - 91) = k by omega] at z
    exact z
  by_cases q98 : k < 105
  · have z := List.all_eq_true.mp ab_mck14 (k - 98) (List.mem_range.mpr (by omega))
    rw [show 98 + (k - 98) = k by omega] at z
    exact z
  by_cases q105 : k < 112
  · have z := List.all_eq_true.mp ab_mck15 (k - 105) (List.mem_range.mpr (by omega))
    rw [show 105 + (k - 105) = k by omega] at z
    exact z
  by_cases q112 : k < 119
  · have z := List.all_eq_true.mp ab_mck16 (k - 112) (List.mem_range.mpr (by omega))
    rw [show 112 + (k - 112) = k by omega] at z
    exact z
  by_cases q119 : k < 126
  · have z := List.all_eq_true.mp ab_mck17 (k - 119) (List.mem_range.mpr (by omega))
    rw [show 119 + (k - 119) = k by omega] at z
    exact z
  by_cases q126 : k < 133
  · have z := List.all_eq_true.mp ab_mck18 (k - 126) (List.mem_range.mpr (by omega))
    rw [show 126 + (k - 126) = k by omega] at z
    exact z
  by_cases q133 : k < 140
  · have z := List.all_eq_true.mp ab_mck19 (k - 133) (List.mem_range.mpr (by omega))
    rw [show 133 + (k - 133) = k by omega] at z
    exact z
  by_cases q140 : k < 147
  · have z := List.all_eq_true.mp ab_mck20 (k - 140) (List.mem_range.mpr (by omega))
    rw [show 140 + (k - 140) = k by omega] at z
    exact z
  exact absurd h (by omega)
set_option maxRecDepth 100000 in
theorem ab_pf0 : plainFor (ab_mY 143) = true := by decide +kernel
set_option maxRecDepth 100000 in
theorem ab_pf1 : plainFor (ab_mY 144) = true := by decide +kernel
set_option maxRecDepth 100000 in
theorem ab_pf2 : plainFor (ab_mY 145) = true := by decide +kernel
