/-! ===== contracts of the leaves ===== -/
theorem ct_Finds_has {Z : ab_Z} (hZ : ab_okZ Z) (x : Int32) (m : ab_M) : ab_C Z 0 3 [.inl (.ref 4), .inl (.int x)] m (some (ab_b (0 ≤ x.toInt ∧ x.toInt < (ab_rd m 4 8).toInt))) m := by
  refine ab_Kc hZ ?_ (ab_b_zk _) (by decide) (Nat.le_of_ble_eq_true rfl)
  by_cases h1 : x < 0
  · refine tk_Finds_has_0_2 h1 ⟨congrArg some (ab_b_f ?_).symm, rfl⟩
    rw [ab_ltI, ab_t0] at h1
    omega
  · by_cases h2 : ab_rd m 4 8 ≤ x
    · refine tk_Finds_has_0_1 h1 h2 ⟨congrArg some (ab_b_f ?_).symm, rfl⟩
      rw [ab_leI] at h2
      omega
    · refine tk_Finds_has_0_0 h1 h2 ⟨congrArg some (ab_b_t ?_).symm, rfl⟩
      rw [ab_ltI, ab_t0] at h1
      rw [ab_leI] at h2
      omega
theorem ct_Kinds_has {Z : ab_Z} (hZ : ab_okZ Z) (x : Int32) (m : ab_M) : ab_C Z 0 10 [.inl (.ref 1), .inl (.int x)] m (some (ab_b (0 ≤ x.toInt ∧ x.toInt < (ab_rd m 1 3).toInt))) m := by
  refine ab_Kc hZ ?_ (ab_b_zk _) (by decide) (Nat.le_of_ble_eq_true rfl)
  by_cases h1 : x < 0
  · refine tk_Kinds_has_0_2 h1 ⟨congrArg some (ab_b_f ?_).symm, rfl⟩
    rw [ab_ltI, ab_t0] at h1
    omega
  · by_cases h2 : ab_rd m 1 3 ≤ x
    · refine tk_Kinds_has_0_1 h1 h2 ⟨congrArg some (ab_b_f ?_).symm, rfl⟩
      rw [ab_leI] at h2
      omega
    · refine tk_Kinds_has_0_0 h1 h2 ⟨congrArg some (ab_b_t ?_).symm, rfl⟩
      rw [ab_ltI, ab_t0] at h1
      rw [ab_leI] at h2
      omega
theorem ct_Losses_has {Z : ab_Z} (hZ : ab_okZ Z) (x : Int32) (m : ab_M) : ab_C Z 0 16 [.inl (.ref 5), .inl (.int x)] m (some (ab_b (0 ≤ x.toInt ∧ x.toInt < (ab_rd m 5 7).toInt))) m := by
  refine ab_Kc hZ ?_ (ab_b_zk _) (by decide) (Nat.le_of_ble_eq_true rfl)
  by_cases h1 : x < 0
  · refine tk_Losses_has_0_2 h1 ⟨congrArg some (ab_b_f ?_).symm, rfl⟩
    rw [ab_ltI, ab_t0] at h1
    omega
  · by_cases h2 : ab_rd m 5 7 ≤ x
    · refine tk_Losses_has_0_1 h1 h2 ⟨congrArg some (ab_b_f ?_).symm, rfl⟩
      rw [ab_leI] at h2
      omega
    · refine tk_Losses_has_0_0 h1 h2 ⟨congrArg some (ab_b_t ?_).symm, rfl⟩
      rw [ab_ltI, ab_t0] at h1
      rw [ab_leI] at h2
      omega
theorem ct_Places_has {Z : ab_Z} (hZ : ab_okZ Z) (x : Int32) (m : ab_M) : ab_C Z 0 44 [.inl (.ref 3), .inl (.int x)] m (some (ab_b (0 ≤ x.toInt ∧ x.toInt < (ab_rd m 3 3).toInt))) m := by
  refine ab_Kc hZ ?_ (ab_b_zk _) (by decide) (Nat.le_of_ble_eq_true rfl)
  by_cases h1 : x < 0
  · refine tk_Places_has_0_2 h1 ⟨congrArg some (ab_b_f ?_).symm, rfl⟩
    rw [ab_ltI, ab_t0] at h1
    omega
  · by_cases h2 : ab_rd m 3 3 ≤ x
    · refine tk_Places_has_0_1 h1 h2 ⟨congrArg some (ab_b_f ?_).symm, rfl⟩
      rw [ab_leI] at h2
      omega
    · refine tk_Places_has_0_0 h1 h2 ⟨congrArg some (ab_b_t ?_).symm, rfl⟩
      rw [ab_ltI, ab_t0] at h1
      rw [ab_leI] at h2
      omega
theorem ct_M_isKind {Z : ab_Z} (hZ : ab_okZ Z) (x : Int32) (m : ab_M) : ab_C Z 0 97 [.inl (.ref 8), .inl (.int x)] m (some (ab_b (0 ≤ x.toInt ∧ x.toInt < (ab_rd m 8 2).toInt))) m := by
  refine ab_Kc hZ ?_ (ab_b_zk _) (by decide) (Nat.le_of_ble_eq_true rfl)
  by_cases h1 : x < 0
  · refine tk_M_isKind_0_2 h1 ⟨congrArg some (ab_b_f ?_).symm, rfl⟩
    rw [ab_ltI, ab_t0] at h1
    omega
  · by_cases h2 : ab_rd m 8 2 ≤ x
    · refine tk_M_isKind_0_1 h1 h2 ⟨congrArg some (ab_b_f ?_).symm, rfl⟩
      rw [ab_leI] at h2
      omega
    · refine tk_M_isKind_0_0 h1 h2 ⟨congrArg some (ab_b_t ?_).symm, rfl⟩
      rw [ab_ltI, ab_t0] at h1
      rw [ab_leI] at h2
      omega
theorem ct_M_isPlace {Z : ab_Z} (hZ : ab_okZ Z) (x : Int32) (m : ab_M) : ab_C Z 0 98 [.inl (.ref 8), .inl (.int x)] m (some (ab_b (0 ≤ x.toInt ∧ x.toInt < (ab_rd m 8 3).toInt))) m := by
  refine ab_Kc hZ ?_ (ab_b_zk _) (by decide) (Nat.le_of_ble_eq_true rfl)
  by_cases h1 : x < 0
  · refine tk_M_isPlace_0_2 h1 ⟨congrArg some (ab_b_f ?_).symm, rfl⟩
    rw [ab_ltI, ab_t0] at h1
    omega
  · by_cases h2 : ab_rd m 8 3 ≤ x
    · refine tk_M_isPlace_0_1 h1 h2 ⟨congrArg some (ab_b_f ?_).symm, rfl⟩
      rw [ab_leI] at h2
      omega
    · refine tk_M_isPlace_0_0 h1 h2 ⟨congrArg some (ab_b_t ?_).symm, rfl⟩
      rw [ab_ltI, ab_t0] at h1
      rw [ab_leI] at h2
      omega
theorem ct_M_isFind {Z : ab_Z} (hZ : ab_okZ Z) (x : Int32) (m : ab_M) : ab_C Z 0 99 [.inl (.ref 8), .inl (.int x)] m (some (ab_b (0 ≤ x.toInt ∧ x.toInt < (ab_rd m 8 4).toInt))) m := by
  refine ab_Kc hZ ?_ (ab_b_zk _) (by decide) (Nat.le_of_ble_eq_true rfl)
  by_cases h1 : x < 0
  · refine tk_M_isFind_0_2 h1 ⟨congrArg some (ab_b_f ?_).symm, rfl⟩
    rw [ab_ltI, ab_t0] at h1
    omega
  · by_cases h2 : ab_rd m 8 4 ≤ x
    · refine tk_M_isFind_0_1 h1 h2 ⟨congrArg some (ab_b_f ?_).symm, rfl⟩
      rw [ab_leI] at h2
      omega
    · refine tk_M_isFind_0_0 h1 h2 ⟨congrArg some (ab_b_t ?_).symm, rfl⟩
      rw [ab_ltI, ab_t0] at h1
      rw [ab_leI] at h2
      omega
theorem ct_M_isLoss {Z : ab_Z} (hZ : ab_okZ Z) (x : Int32) (m : ab_M) : ab_C Z 0 100 [.inl (.ref 8), .inl (.int x)] m (some (ab_b (0 ≤ x.toInt ∧ x.toInt < (ab_rd m 8 5).toInt))) m := by
  refine ab_Kc hZ ?_ (ab_b_zk _) (by decide) (Nat.le_of_ble_eq_true rfl)
  by_cases h1 : x < 0
  · refine tk_M_isLoss_0_2 h1 ⟨congrArg some (ab_b_f ?_).symm, rfl⟩
    rw [ab_ltI, ab_t0] at h1
    omega
  · by_cases h2 : ab_rd m 8 5 ≤ x
    · refine tk_M_isLoss_0_1 h1 h2 ⟨congrArg some (ab_b_f ?_).symm, rfl⟩
      rw [ab_leI] at h2
      omega
    · refine tk_M_isLoss_0_0 h1 h2 ⟨congrArg some (ab_b_t ?_).symm, rfl⟩
      rw [ab_ltI, ab_t0] at h1
      rw [ab_leI] at h2
      omega
theorem ct_M_isColour {Z : ab_Z} (hZ : ab_okZ Z) (x : Int32) (m : ab_M) : ab_C Z 0 101 [.inl (.int x)] m (some (ab_b (0 ≤ x.toInt ∧ x.toInt < 12))) m := by
  have e : (12 : Int32).toInt = 12 := rfl
  refine ab_Kc hZ ?_ (ab_b_zk _) (by decide) (Nat.le_of_ble_eq_true rfl)
  by_cases h1 : x < 0
  · refine tk_M_isColour_0_2 h1 ⟨congrArg some (ab_b_f ?_).symm, rfl⟩
    rw [ab_ltI, ab_t0] at h1
    omega
  · by_cases h2 : 12 ≤ x
    · refine tk_M_isColour_0_1 h1 h2 ⟨congrArg some (ab_b_f ?_).symm, rfl⟩
      rw [ab_leI, e] at h2
      omega
    · refine tk_M_isColour_0_0 h1 h2 ⟨congrArg some (ab_b_t ?_).symm, rfl⟩
      rw [ab_ltI, ab_t0] at h1
      rw [ab_leI, e] at h2
      omega
theorem ct_M_areMarks {Z : ab_Z} (hZ : ab_okZ Z) (x : Int32) (m : ab_M) : ab_C Z 0 108 [.inl (.int x)] m (some (ab_b (0 ≤ x.toInt ∧ x.toInt ≤ 65535))) m := by
  have e : (65535 : Int32).toInt = 65535 := rfl
  refine ab_Kc hZ ?_ (ab_b_zk _) (by decide) (Nat.le_of_ble_eq_true rfl)
  by_cases h1 : x < 0
  · refine tk_M_areMarks_0_2 h1 ⟨congrArg some (ab_b_f ?_).symm, rfl⟩
    rw [ab_ltI, ab_t0] at h1
    omega
  · by_cases h2 : 65535 < x
    · refine tk_M_areMarks_0_1 h1 h2 ⟨congrArg some (ab_b_f ?_).symm, rfl⟩
      rw [ab_ltI, e] at h2
      omega
    · refine tk_M_areMarks_0_0 h1 h2 ⟨congrArg some (ab_b_t ?_).symm, rfl⟩
      rw [ab_ltI, ab_t0] at h1
      rw [ab_ltI, e] at h2
      omega
theorem ct_M_isTick {Z : ab_Z} (hZ : ab_okZ Z) (x : Int32) (m : ab_M) : ab_C Z 0 109 [.inl (.int x)] m (some (ab_b (0 ≤ x.toInt ∧ x.toInt ≤ 100000))) m := by
  have e : (100000 : Int32).toInt = 100000 := rfl
  refine ab_Kc hZ ?_ (ab_b_zk _) (by decide) (Nat.le_of_ble_eq_true rfl)
  by_cases h1 : x < 0
  · refine tk_M_isTick_0_2 h1 ⟨congrArg some (ab_b_f ?_).symm, rfl⟩
    rw [ab_ltI, ab_t0] at h1
    omega
  · by_cases h2 : 100000 < x
    · refine tk_M_isTick_0_1 h1 h2 ⟨congrArg some (ab_b_f ?_).symm, rfl⟩
      rw [ab_ltI, e] at h2
      omega
    · refine tk_M_isTick_0_0 h1 h2 ⟨congrArg some (ab_b_t ?_).symm, rfl⟩
      rw [ab_ltI, ab_t0] at h1
      rw [ab_ltI, e] at h2
      omega
theorem ct_Finds_isFull {Z : ab_Z} (hZ : ab_okZ Z) (m : ab_M) : ab_C Z 0 4 [.inl (.ref 4)] m (some (ab_b (24 ≤ (ab_rd m 4 8).toInt))) m := by
  have e : (24 : Int32).toInt = 24 := rfl
  refine ab_Kc hZ ?_ (ab_b_zk _) (by decide) (Nat.le_of_ble_eq_true rfl)
  by_cases h1 : ab_rd m 4 8 < 24
  · refine tk_Finds_isFull_0_1 h1 ⟨congrArg some (ab_b_f ?_).symm, rfl⟩
    rw [ab_ltI, e] at h1
    omega
  · refine tk_Finds_isFull_0_0 h1 ⟨congrArg some (ab_b_t ?_).symm, rfl⟩
    rw [ab_ltI, e] at h1
    omega
theorem ct_Kinds_isFull {Z : ab_Z} (hZ : ab_okZ Z) (m : ab_M) : ab_C Z 0 11 [.inl (.ref 1)] m (some (ab_b (40 ≤ (ab_rd m 1 3).toInt))) m := by
  have e : (40 : Int32).toInt = 40 := rfl
  refine ab_Kc hZ ?_ (ab_b_zk _) (by decide) (Nat.le_of_ble_eq_true rfl)
  by_cases h1 : ab_rd m 1 3 < 40
  · refine tk_Kinds_isFull_0_1 h1 ⟨congrArg some (ab_b_f ?_).symm, rfl⟩
    rw [ab_ltI, e] at h1
    omega
  · refine tk_Kinds_isFull_0_0 h1 ⟨congrArg some (ab_b_t ?_).symm, rfl⟩
    rw [ab_ltI, e] at h1
    omega
theorem ct_Losses_isFull {Z : ab_Z} (hZ : ab_okZ Z) (m : ab_M) : ab_C Z 0 17 [.inl (.ref 5)] m (some (ab_b (24 ≤ (ab_rd m 5 7).toInt))) m := by
  have e : (24 : Int32).toInt = 24 := rfl
  refine ab_Kc hZ ?_ (ab_b_zk _) (by decide) (Nat.le_of_ble_eq_true rfl)
  by_cases h1 : ab_rd m 5 7 < 24
  · refine tk_Losses_isFull_0_1 h1 ⟨congrArg some (ab_b_f ?_).symm, rfl⟩
    rw [ab_ltI, e] at h1
    omega
  · refine tk_Losses_isFull_0_0 h1 ⟨congrArg some (ab_b_t ?_).symm, rfl⟩
    rw [ab_ltI, e] at h1
    omega
theorem ct_Places_isFull {Z : ab_Z} (hZ : ab_okZ Z) (m : ab_M) : ab_C Z 0 45 [.inl (.ref 3)] m (some (ab_b (20 ≤ (ab_rd m 3 3).toInt))) m := by
  have e : (20 : Int32).toInt = 20 := rfl
  refine ab_Kc hZ ?_ (ab_b_zk _) (by decide) (Nat.le_of_ble_eq_true rfl)
  by_cases h1 : ab_rd m 3 3 < 20
  · refine tk_Places_isFull_0_1 h1 ⟨congrArg some (ab_b_f ?_).symm, rfl⟩
    rw [ab_ltI, e] at h1
    omega
  · refine tk_Places_isFull_0_0 h1 ⟨congrArg some (ab_b_t ?_).symm, rfl⟩
    rw [ab_ltI, e] at h1
    omega
theorem ct_D_isWithin {Z : ab_Z} (hZ : ab_okZ Z) (x a b : Int32) (m : ab_M) : ab_C Z 0 82 [.inl (.int x), .inl (.int a), .inl (.int b)] m (some (ab_b (a.toInt ≤ x.toInt ∧ x.toInt ≤ b.toInt))) m := by
  refine ab_Kc hZ ?_ (ab_b_zk _) (by decide) (Nat.le_of_ble_eq_true rfl)
  by_cases h1 : x < a
  · refine tk_D_isWithin_0_2 h1 ⟨congrArg some (ab_b_f ?_).symm, rfl⟩
    rw [ab_ltI] at h1
    omega
  · by_cases h2 : b < x
    · refine tk_D_isWithin_0_1 h1 h2 ⟨congrArg some (ab_b_f ?_).symm, rfl⟩
      rw [ab_ltI] at h2
      omega
    · refine tk_D_isWithin_0_0 h1 h2 ⟨congrArg some (ab_b_t ?_).symm, rfl⟩
      rw [ab_ltI] at h1 h2
      omega
theorem ct_D_isColour {Z : ab_Z} (hZ : ab_okZ Z) (x : Int32) (m : ab_M) : ab_C Z 1 83 [.inl (.int x)] m (some (ab_b (0 ≤ x.toInt ∧ x.toInt < 12))) m := by
  refine ab_Kc hZ ?_ (ab_b_zk _) (by decide) (Nat.le_of_ble_eq_true rfl)
  refine tk_D_isColour_0_0 ⟨by decide, ct_D_isWithin hZ x 0 11 m⟩ ⟨congrArg some (ab_b_cong ?_), rfl⟩
  have e : (11 : Int32).toInt = 11 := rfl
  rw [e, ab_t0]
  omega
theorem ct_D_areMarks {Z : ab_Z} (hZ : ab_okZ Z) (x : Int32) (m : ab_M) : ab_C Z 1 85 [.inl (.int x)] m (some (ab_b (0 ≤ x.toInt ∧ x.toInt ≤ 65535))) m := by
  refine ab_Kc hZ ?_ (ab_b_zk _) (by decide) (Nat.le_of_ble_eq_true rfl)
  exact tk_D_areMarks_0_0 ⟨by decide, ct_D_isWithin hZ x 0 65535 m⟩ ⟨rfl, rfl⟩
theorem ct_D_isColourOrNone {Z : ab_Z} (hZ : ab_okZ Z) (x : Int32) (m : ab_M) : ab_C Z 2 84 [.inl (.int x)] m (some (ab_b (-1 ≤ x.toInt ∧ x.toInt < 12))) m := by
  refine ab_Kc hZ ?_ (ab_b_zk _) (by decide) (Nat.le_of_ble_eq_true rfl)
  by_cases h1 : x = -1
  · refine tk_D_isColourOrNone_0_2 h1 ⟨congrArg some (ab_b_t ?_).symm, rfl⟩
    rw [h1, ab_m1]
    omega
  · have h1' : x.toInt ≠ -1 := fun q => h1 (by rw [ab_eqI, q, ab_m1])
    by_cases h2 : 0 ≤ x.toInt ∧ x.toInt < 12
    · refine tk_D_isColourOrNone_0_0 h1 ⟨by decide, ct_D_isColour hZ x m⟩ (ab_b_n.mpr h2) ⟨congrArg some (ab_b_t ?_).symm, rfl⟩
      omega
    · refine tk_D_isColourOrNone_0_1 h1 ⟨by decide, ct_D_isColour hZ x m⟩ (ab_b_0.mpr h2) ⟨congrArg some (ab_b_f ?_).symm, rfl⟩
      omega
theorem ct_D_answer {Z : ab_Z} (hZ : ab_okZ Z) (x : Int32) (m : ab_M) : ab_C Z 0 78 [.inl (.ref 0), .inl (.int x)] m (some x) (ab_wr m 0 11 0) :=
  ab_Kc hZ (tk_D_answer_0_0 ⟨rfl, rfl⟩) trivial (by decide) (Nat.le_of_ble_eq_true rfl)
theorem ct_D_refuse {Z : ab_Z} (hZ : ab_okZ Z) (x : Int32) (m : ab_M) : ab_C Z 0 79 [.inl (.ref 0), .inl (.int x)] m (some (-1)) (ab_wr m 0 11 x) :=
  ab_Kc hZ (tk_D_refuse_0_0 ⟨rfl, rfl⟩) trivial (by decide) (Nat.le_of_ble_eq_true rfl)
theorem ct_D_grant {Z : ab_Z} (hZ : ab_okZ Z) (m : ab_M) : ab_C Z 0 80 [.inl (.ref 0)] m (some 1) (ab_wr m 0 11 0) :=
  ab_Kc hZ (tk_D_grant_0_0 ⟨rfl, rfl⟩) (Or.inr rfl) (by decide) (Nat.le_of_ble_eq_true rfl)
theorem ct_D_deny {Z : ab_Z} (hZ : ab_okZ Z) (x : Int32) (m : ab_M) : ab_C Z 0 81 [.inl (.ref 0), .inl (.int x)] m (some 0) (ab_wr m 0 11 x) :=
  ab_Kc hZ (tk_D_deny_0_0 ⟨rfl, rfl⟩) (Or.inl rfl) (by decide) (Nat.le_of_ble_eq_true rfl)
theorem ct_M_refuse {Z : ab_Z} (hZ : ab_okZ Z) (x : Int32) (m : ab_M) : ab_C Z 0 95 [.inl (.ref 8), .inl (.int x)] m (some (-1)) (ab_wr m 8 0 x) :=
  ab_Kc hZ (tk_M_refuse_0_0 ⟨rfl, rfl⟩) trivial (by decide) (Nat.le_of_ble_eq_true rfl)
theorem ct_M_no {Z : ab_Z} (hZ : ab_okZ Z) (x : Int32) (m : ab_M) : ab_C Z 0 96 [.inl (.ref 8), .inl (.int x)] m (some 0) (ab_wr m 8 0 x) :=
  ab_Kc hZ (tk_M_no_0_0 ⟨rfl, rfl⟩) (Or.inl rfl) (by decide) (Nat.le_of_ble_eq_true rfl)
def ab_max (x y : Int32) : Int32 := if x < y then y else x
def ab_min (x y : Int32) : Int32 := if y < x then y else x
def ab_abs (x : Int32) : Int32 := if 0 ≤ x then x else -x
theorem ab_max_I (x y : Int32) : (ab_max x y).toInt = max x.toInt y.toInt := by
  unfold ab_max
  by_cases h : x < y
  · rw [if_pos h]
    rw [ab_ltI] at h
    omega
  · rw [if_neg h]
    rw [ab_ltI] at h
    omega
theorem ab_min_I (x y : Int32) : (ab_min x y).toInt = min x.toInt y.toInt := by
  unfold ab_min
  by_cases h : y < x
  · rw [if_pos h]
    rw [ab_ltI] at h
    omega
  · rw [if_neg h]
    rw [ab_ltI] at h
    omega
theorem ct_J_max {Z : ab_Z} (hZ : ab_okZ Z) (x y : Int32) (m : ab_M) : ab_C Z 0 144 [.inl (.int x), .inl (.int y)] m (some (ab_max x y)) m := by
  refine ab_Kc hZ ?_ trivial (by decide) (Nat.le_of_ble_eq_true rfl)
  by_cases h : x < y
  · exact tk_J_max_0_1 h ⟨congrArg some (if_pos h).symm, rfl⟩
  · exact tk_J_max_0_0 h ⟨congrArg some (if_neg h).symm, rfl⟩
theorem ct_J_min {Z : ab_Z} (hZ : ab_okZ Z) (x y : Int32) (m : ab_M) : ab_C Z 0 145 [.inl (.int x), .inl (.int y)] m (some (ab_min x y)) m := by
  refine ab_Kc hZ ?_ trivial (by decide) (Nat.le_of_ble_eq_true rfl)
  by_cases h : y < x
  · exact tk_J_min_0_1 h ⟨congrArg some (if_pos h).symm, rfl⟩
  · exact tk_J_min_0_0 h ⟨congrArg some (if_neg h).symm, rfl⟩
theorem ct_J_abs {Z : ab_Z} (hZ : ab_okZ Z) (x : Int32) (m : ab_M) : ab_C Z 0 143 [.inl (.int x)] m (some (ab_abs x)) m := by
  refine ab_Kc hZ ?_ trivial (by decide) (Nat.le_of_ble_eq_true rfl)
  by_cases h : 0 ≤ x
  · exact tk_J_abs_0_1 h ⟨congrArg some (if_pos h).symm, rfl⟩
  · exact tk_J_abs_0_0 h ⟨congrArg some (if_neg h).symm, rfl⟩
theorem ct_Finds_isKept {Z : ab_Z} (hZ : ab_okZ Z) {f : Nat} (hf : f < 24) (m : ab_M) : ab_C Z 0 6 [.inl (.ref 4), .inl (.int (nI f))] m (some (ab_b (ab_rd m 24 f = 0))) m := by
  have hi := ab_in (N := 24) hf (by decide)
  have hc := ab_cl (n := f) (by omega)
  refine ab_Kc hZ ?_ (ab_b_zk _) (by decide) (Nat.le_of_ble_eq_true rfl)
  by_cases h : ab_rd m 24 f = 0
  · exact tk_Finds_isKept_0_0 hi (by rw [hc]; exact h) ⟨congrArg some (ab_b_t h).symm, rfl⟩
  · exact tk_Finds_isKept_0_1 hi (by rw [hc]; exact h) ⟨congrArg some (ab_b_f h).symm, rfl⟩
theorem ct_Places_hasWay {Z : ab_Z} (hZ : ab_okZ Z) {a b : Nat} (ha : a < 20) (hb : b < 20) (m : ab_M) : ab_C Z 0 47 [.inl (.ref 3), .inl (.int (nI a)), .inl (.int (nI b))] m (some (ab_b (ab_rd m 16 (a * 20 + b) ≠ -1))) m := by
  have hia := ab_in (N := 20) ha (by decide)
  have hib := ab_in (N := 20) hb (by decide)
  have hca := ab_cl (n := a) (by omega)
  have hcb := ab_cl (n := b) (by omega)
  refine ab_Kc hZ ?_ (ab_b_zk _) (by decide) (Nat.le_of_ble_eq_true rfl)
  by_cases h : ab_rd m 16 (a * 20 + b) = -1
  · exact tk_Places_hasWay_0_1 hia ⟨hia, hib⟩ (by rw [hca, hcb]; exact h) ⟨congrArg some (ab_b_f (fun q => q h)).symm, rfl⟩
  · exact tk_Places_hasWay_0_0 hia ⟨hia, hib⟩ (by rw [hca, hcb]; exact h) ⟨congrArg some (ab_b_t h).symm, rfl⟩
