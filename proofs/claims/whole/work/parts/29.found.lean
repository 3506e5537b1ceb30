/-! ===== found, lost ===== -/
def fd_c (m : ab_M) (n : Nat) (x1 x2 x3 x4 x5 : Int32) : ab_M := (ab_wr (ab_wr (ab_wr (ab_wr (ab_wr (ab_wr (ab_wr (ab_wr (ab_wr m 19 n x1) 20 n x2) 21 n x3) 22 n x4) 23 n x5) 24 n 0) 25 n (-1)) 26 n (nI n)) 4 8 (nI n + 1))
def fd_r (m : ab_M) (n : Nat) (x1 x2 x3 x4 x5 : Int32) : ab_M := (ab_wr (ab_wr (ab_wr (ab_wr (ab_wr (ab_wr (ab_wr (ab_wr (ab_wr m 53 n x1) 54 n x2) 55 n x3) 56 n x4) 57 n x5) 58 n 0) 59 n (-1)) 60 n (nI n)) 8 4 (nI n + 1))
def ls_c (m : ab_M) (n : Nat) (x1 x2 x3 x4 x5 x6 : Int32) : ab_M := (ab_wr (ab_wr (ab_wr (ab_wr (ab_wr (ab_wr (ab_wr (ab_wr m 27 n x1) 28 n x2) 29 n x3) 30 n x4) 31 n x5) 32 n x6) 33 n 0) 5 7 (nI n + 1))
def ls_r (m : ab_M) (n : Nat) (x1 x2 x3 x4 x5 x6 : Int32) : ab_M := (ab_wr (ab_wr (ab_wr (ab_wr (ab_wr (ab_wr (ab_wr m 61 n x1) 62 n x2) 63 n x3) 64 n x4) 65 n x5) 66 n x6) 8 5 (nI n + 1))
theorem ct_Finds_add {Z : ab_Z} (hZ : ab_okZ Z) {n : Nat} {m : ab_M} (x1 x2 x3 x4 x5 : Int32) (hn : n < 24) (h : ab_rd m 4 8 = nI n) : ab_C Z 1 5 [.inl (.ref 4), .inl (.int x1), .inl (.int x2), .inl (.int x3), .inl (.int x4), .inl (.int x5)] m (some (nI n)) (fd_c m n x1 x2 x3 x4 x5) := by
  have hin : vp_in (ab_rd m 4 8) 24 := by rw [h]; exact ab_in hn (by decide)
  have hcl : (ab_rd m 4 8).toNatClampNeg = n := by rw [h]; exact ab_cl (by omega)
  refine ab_Kc hZ (tk_Finds_add_0_0 hin hin hin hin hin hin hin hin ⟨congrArg some h, ?_⟩) trivial (by decide) (Nat.le_of_ble_eq_true rfl)
  unfold fd_c
  rw [hcl, h]
theorem ct_Losses_add {Z : ab_Z} (hZ : ab_okZ Z) {n : Nat} {m : ab_M} (x1 x2 x3 x4 x5 x6 : Int32) (hn : n < 24) (h : ab_rd m 5 7 = nI n) : ab_C Z 1 18 [.inl (.ref 5), .inl (.int x1), .inl (.int x2), .inl (.int x3), .inl (.int x4), .inl (.int x5), .inl (.int x6)] m (some (nI n)) (ls_c m n x1 x2 x3 x4 x5 x6) := by
  have hin : vp_in (ab_rd m 5 7) 24 := by rw [h]; exact ab_in hn (by decide)
  have hcl : (ab_rd m 5 7).toNatClampNeg = n := by rw [h]; exact ab_cl (by omega)
  refine ab_Kc hZ (tk_Losses_add_0_0 hin hin hin hin hin hin ⟨hin, Or.inl rfl⟩ ⟨congrArg some h, ?_⟩) trivial (by decide) (Nat.le_of_ble_eq_true rfl)
  unfold ls_c
  rw [hcl, h]
/-- which status a find has, 0: it is taken -/
def fd_st (x1 x2 x3 x4 x5 : Int32) (nK nP nF : Nat) : Int32 := if ¬ ((0 ≤ x1.toInt ∧ x1.toInt < nK) ∧ (0 ≤ x4.toInt ∧ x4.toInt < nP)) then 1 else if ¬ ((-1 ≤ x2.toInt ∧ x2.toInt < 12) ∧ (0 ≤ x3.toInt ∧ x3.toInt ≤ 65535) ∧ (0 ≤ x5.toInt ∧ x5.toInt ≤ 100000)) then 2 else if 24 ≤ (nF : Int) then 3 else 0
def ls_st (x1 x2 x3 x4 x5 x6 : Int32) (nK nP nL : Nat) : Int32 := if ¬ ((0 ≤ x1.toInt ∧ x1.toInt < nK) ∧ (0 ≤ x4.toInt ∧ x4.toInt < nP)) then 1 else if ¬ ((-1 ≤ x2.toInt ∧ x2.toInt < 12) ∧ (0 ≤ x3.toInt ∧ x3.toInt ≤ 65535) ∧ (0 ≤ x5.toInt ∧ x5.toInt ≤ x6.toInt ∧ x6.toInt ≤ 100000)) then 2 else if 24 ≤ (nL : Int) then 3 else 0
theorem fd_ret {c : Prop} [Decidable c] {st : Int32} {r : Option Int32} {m9 mr mo : ab_M} {v : Int32} (h : st = 0 → r = some v ∧ m9 = mo) (h2 : st ≠ 0 → r = some (-1) ∧ m9 = mr) : r = some (if st = 0 then v else -1) ∧ m9 = if st = 0 then mo else mr := by
  by_cases e : st = 0
  · rw [if_pos e, if_pos e]
    exact h e
  · rw [if_neg e, if_neg e]
    exact h2 e
theorem ct_D_found {Z : ab_Z} (hZ : ab_okZ Z) (x1 x2 x3 x4 x5 : Int32) {nK nP nF nL : Nat} {m : ab_M} (hn : nF ≤ 24) (hcK : (ab_rd m 1 3).toInt = nK) (hcP : (ab_rd m 3 3).toInt = nP) (hF0 : ab_rd m 4 8 = nI nF) (hcF : (ab_rd m 4 8).toInt = nF) : ab_C Z 40 60 [.inl (.ref 0), .inl (.int x1), .inl (.int x2), .inl (.int x3), .inl (.int x4), .inl (.int x5)] m (some (if fd_st x1 x2 x3 x4 x5 nK nP nF = 0 then nI nF else -1)) (if fd_st x1 x2 x3 x4 x5 nK nP nF = 0 then ab_wr (fd_c (ab_wr m 0 14 1) nF x1 x2 x3 x4 x5) 0 11 0 else ab_wr m 0 11 (fd_st x1 x2 x3 x4 x5 nK nP nF)) := by
  refine ab_Kc hZ ?_ trivial (by decide) (Nat.le_of_ble_eq_true rfl)
  have e24 : (24 : Int32).toInt = 24 := rfl
  have e0 : (0 : Int32).toInt = 0 := rfl
  have e5 : (100000 : Int32).toInt = 100000 := rfl
  by_cases q1 : 0 ≤ (x1).toInt ∧ (x1).toInt < nK
  · skip
    by_cases q2 : 0 ≤ (x4).toInt ∧ (x4).toInt < nP
    · skip
      by_cases q3 : -1 ≤ (x2).toInt ∧ (x2).toInt < 12
      · skip
        by_cases q4 : 0 ≤ (x3).toInt ∧ (x3).toInt ≤ 65535
        · skip
          by_cases q5 : (0 : Int32).toInt ≤ (x5).toInt ∧ (x5).toInt ≤ (100000 : Int32).toInt
          · skip
            by_cases q6 : 24 ≤ (nF : Int)
            · skip
              · have e : fd_st x1 x2 x3 x4 x5 nK nP nF = 3 := by unfold fd_st; (repeat' split) <;> first | rfl | (exfalso; omega)
                rw [e, if_neg (show ¬ (3 : Int32) = 0 by decide), if_neg (show ¬ (3 : Int32) = 0 by decide)]
                exact tk_D_found_0_3 ⟨by decide, ct_Kinds_has hZ x1 _⟩ (ab_b_n.mpr (show 0 ≤ (x1).toInt ∧ (x1).toInt < (ab_rd m 1 3).toInt by rw [hcK]; exact q1)) ⟨by decide, ct_Places_has hZ x4 _⟩ (ab_b_n.mpr (show 0 ≤ (x4).toInt ∧ (x4).toInt < (ab_rd m 3 3).toInt by rw [hcP]; exact q2)) ⟨by decide, ct_D_isColourOrNone hZ x2 _⟩ (ab_b_n.mpr q3) ⟨by decide, ct_D_areMarks hZ x3 _⟩ (ab_b_n.mpr q4) ⟨by decide, ct_D_isWithin hZ x5 0 100000 _⟩ (ab_b_n.mpr q5) ⟨by decide, ct_Finds_isFull hZ _⟩ (ab_b_n.mpr (show 24 ≤ (ab_rd m 4 8).toInt by rw [hcF]; exact q6)) ⟨by decide, ct_D_refuse hZ 3 _⟩ ⟨rfl, rfl⟩
            · skip
              · have e : fd_st x1 x2 x3 x4 x5 nK nP nF = 0 := by unfold fd_st; (repeat' split) <;> first | rfl | (exfalso; omega)
                rw [e, if_pos rfl, if_pos rfl]
                exact tk_D_found_0_4 ⟨by decide, ct_Kinds_has hZ x1 _⟩ (ab_b_n.mpr (show 0 ≤ (x1).toInt ∧ (x1).toInt < (ab_rd m 1 3).toInt by rw [hcK]; exact q1)) ⟨by decide, ct_Places_has hZ x4 _⟩ (ab_b_n.mpr (show 0 ≤ (x4).toInt ∧ (x4).toInt < (ab_rd m 3 3).toInt by rw [hcP]; exact q2)) ⟨by decide, ct_D_isColourOrNone hZ x2 _⟩ (ab_b_n.mpr q3) ⟨by decide, ct_D_areMarks hZ x3 _⟩ (ab_b_n.mpr q4) ⟨by decide, ct_D_isWithin hZ x5 0 100000 _⟩ (ab_b_n.mpr q5) ⟨by decide, ct_Finds_isFull hZ _⟩ (ab_b_0.mpr (show ¬ 24 ≤ (ab_rd m 4 8).toInt by rw [hcF]; exact q6)) (Or.inr rfl) ⟨by decide, ct_Finds_add hZ x1 x2 x3 x4 x5 (n := nF) (by omega) hF0⟩ ⟨by decide, ct_D_answer hZ _ _⟩ ⟨rfl, rfl⟩
          · skip
            · have e : fd_st x1 x2 x3 x4 x5 nK nP nF = 2 := by unfold fd_st; (repeat' split) <;> first | rfl | (exfalso; omega)
              rw [e, if_neg (show ¬ (2 : Int32) = 0 by decide), if_neg (show ¬ (2 : Int32) = 0 by decide)]
              exact tk_D_found_0_2 ⟨by decide, ct_Kinds_has hZ x1 _⟩ (ab_b_n.mpr (show 0 ≤ (x1).toInt ∧ (x1).toInt < (ab_rd m 1 3).toInt by rw [hcK]; exact q1)) ⟨by decide, ct_Places_has hZ x4 _⟩ (ab_b_n.mpr (show 0 ≤ (x4).toInt ∧ (x4).toInt < (ab_rd m 3 3).toInt by rw [hcP]; exact q2)) ⟨by decide, ct_D_isColourOrNone hZ x2 _⟩ (ab_b_n.mpr q3) ⟨by decide, ct_D_areMarks hZ x3 _⟩ (ab_b_n.mpr q4) ⟨by decide, ct_D_isWithin hZ x5 0 100000 _⟩ (ab_b_0.mpr q5) ⟨by decide, ct_D_refuse hZ 2 _⟩ ⟨rfl, rfl⟩
        · skip
          · have e : fd_st x1 x2 x3 x4 x5 nK nP nF = 2 := by unfold fd_st; (repeat' split) <;> first | rfl | (exfalso; omega)
            rw [e, if_neg (show ¬ (2 : Int32) = 0 by decide), if_neg (show ¬ (2 : Int32) = 0 by decide)]
            exact tk_D_found_0_1 ⟨by decide, ct_Kinds_has hZ x1 _⟩ (ab_b_n.mpr (show 0 ≤ (x1).toInt ∧ (x1).toInt < (ab_rd m 1 3).toInt by rw [hcK]; exact q1)) ⟨by decide, ct_Places_has hZ x4 _⟩ (ab_b_n.mpr (show 0 ≤ (x4).toInt ∧ (x4).toInt < (ab_rd m 3 3).toInt by rw [hcP]; exact q2)) ⟨by decide, ct_D_isColourOrNone hZ x2 _⟩ (ab_b_n.mpr q3) ⟨by decide, ct_D_areMarks hZ x3 _⟩ (ab_b_0.mpr q4) ⟨by decide, ct_D_refuse hZ 2 _⟩ ⟨rfl, rfl⟩
      · skip
        · have e : fd_st x1 x2 x3 x4 x5 nK nP nF = 2 := by unfold fd_st; (repeat' split) <;> first | rfl | (exfalso; omega)
          rw [e, if_neg (show ¬ (2 : Int32) = 0 by decide), if_neg (show ¬ (2 : Int32) = 0 by decide)]
          exact tk_D_found_0_5 ⟨by decide, ct_Kinds_has hZ x1 _⟩ (ab_b_n.mpr (show 0 ≤ (x1).toInt ∧ (x1).toInt < (ab_rd m 1 3).toInt by rw [hcK]; exact q1)) ⟨by decide, ct_Places_has hZ x4 _⟩ (ab_b_n.mpr (show 0 ≤ (x4).toInt ∧ (x4).toInt < (ab_rd m 3 3).toInt by rw [hcP]; exact q2)) ⟨by decide, ct_D_isColourOrNone hZ x2 _⟩ (ab_b_0.mpr q3) ⟨by decide, ct_D_refuse hZ 2 _⟩ ⟨rfl, rfl⟩
    · skip
      · have e : fd_st x1 x2 x3 x4 x5 nK nP nF = 1 := by unfold fd_st; (repeat' split) <;> first | rfl | (exfalso; omega)
        rw [e, if_neg (show ¬ (1 : Int32) = 0 by decide), if_neg (show ¬ (1 : Int32) = 0 by decide)]
        exact tk_D_found_0_0 ⟨by decide, ct_Kinds_has hZ x1 _⟩ (ab_b_n.mpr (show 0 ≤ (x1).toInt ∧ (x1).toInt < (ab_rd m 1 3).toInt by rw [hcK]; exact q1)) ⟨by decide, ct_Places_has hZ x4 _⟩ (ab_b_0.mpr (show ¬ (0 ≤ (x4).toInt ∧ (x4).toInt < (ab_rd m 3 3).toInt) by rw [hcP]; exact q2)) ⟨by decide, ct_D_refuse hZ 1 _⟩ ⟨rfl, rfl⟩
  · skip
    · have e : fd_st x1 x2 x3 x4 x5 nK nP nF = 1 := by unfold fd_st; (repeat' split) <;> first | rfl | (exfalso; omega)
      rw [e, if_neg (show ¬ (1 : Int32) = 0 by decide), if_neg (show ¬ (1 : Int32) = 0 by decide)]
      exact tk_D_found_0_6 ⟨by decide, ct_Kinds_has hZ x1 _⟩ (ab_b_0.mpr (show ¬ (0 ≤ (x1).toInt ∧ (x1).toInt < (ab_rd m 1 3).toInt) by rw [hcK]; exact q1)) ⟨by decide, ct_D_refuse hZ 1 _⟩ ⟨rfl, rfl⟩
theorem ct_D_lost {Z : ab_Z} (hZ : ab_okZ Z) (x1 x2 x3 x4 x5 x6 : Int32) {nK nP nF nL : Nat} {m : ab_M} (hn : nL ≤ 24) (hcK : (ab_rd m 1 3).toInt = nK) (hcP : (ab_rd m 3 3).toInt = nP) (hF0 : ab_rd m 5 7 = nI nL) (hcL : (ab_rd m 5 7).toInt = nL) : ab_C Z 40 61 [.inl (.ref 0), .inl (.int x1), .inl (.int x2), .inl (.int x3), .inl (.int x4), .inl (.int x5), .inl (.int x6)] m (some (if ls_st x1 x2 x3 x4 x5 x6 nK nP nL = 0 then nI nL else -1)) (if ls_st x1 x2 x3 x4 x5 x6 nK nP nL = 0 then ab_wr (ls_c (ab_wr m 0 14 1) nL x1 x2 x3 x4 x5 x6) 0 11 0 else ab_wr m 0 11 (ls_st x1 x2 x3 x4 x5 x6 nK nP nL)) := by
  refine ab_Kc hZ ?_ trivial (by decide) (Nat.le_of_ble_eq_true rfl)
  have e24 : (24 : Int32).toInt = 24 := rfl
  have e0 : (0 : Int32).toInt = 0 := rfl
  have e5 : (100000 : Int32).toInt = 100000 := rfl
  by_cases q1 : 0 ≤ (x1).toInt ∧ (x1).toInt < nK
  · skip
    by_cases q2 : 0 ≤ (x4).toInt ∧ (x4).toInt < nP
    · skip
      by_cases q3 : -1 ≤ (x2).toInt ∧ (x2).toInt < 12
      · skip
        by_cases q4 : 0 ≤ (x3).toInt ∧ (x3).toInt ≤ 65535
        · skip
          by_cases q5 : (0 : Int32).toInt ≤ (x5).toInt ∧ (x5).toInt ≤ (100000 : Int32).toInt
          · skip
            by_cases q6 : (x5 : Int32).toInt ≤ (x6).toInt ∧ (x6).toInt ≤ (100000 : Int32).toInt
            · skip
              by_cases q7 : 24 ≤ (nL : Int)
              · skip
                · have e : ls_st x1 x2 x3 x4 x5 x6 nK nP nL = 3 := by unfold ls_st; (repeat' split) <;> first | rfl | (exfalso; omega)
                  rw [e, if_neg (show ¬ (3 : Int32) = 0 by decide), if_neg (show ¬ (3 : Int32) = 0 by decide)]
                  exact tk_D_lost_0_3 ⟨by decide, ct_Kinds_has hZ x1 _⟩ (ab_b_n.mpr (show 0 ≤ (x1).toInt ∧ (x1).toInt < (ab_rd m 1 3).toInt by rw [hcK]; exact q1)) ⟨by decide, ct_Places_has hZ x4 _⟩ (ab_b_n.mpr (show 0 ≤ (x4).toInt ∧ (x4).toInt < (ab_rd m 3 3).toInt by rw [hcP]; exact q2)) ⟨by decide, ct_D_isColourOrNone hZ x2 _⟩ (ab_b_n.mpr q3) ⟨by decide, ct_D_areMarks hZ x3 _⟩ (ab_b_n.mpr q4) ⟨by decide, ct_D_isWithin hZ x5 0 100000 _⟩ (ab_b_n.mpr q5) ⟨by decide, ct_D_isWithin hZ x6 x5 100000 _⟩ (ab_b_n.mpr q6) ⟨by decide, ct_Losses_isFull hZ _⟩ (ab_b_n.mpr (show 24 ≤ (ab_rd m 5 7).toInt by rw [hcL]; exact q7)) ⟨by decide, ct_D_refuse hZ 3 _⟩ ⟨rfl, rfl⟩
              · skip
                · have e : ls_st x1 x2 x3 x4 x5 x6 nK nP nL = 0 := by unfold ls_st; (repeat' split) <;> first | rfl | (exfalso; omega)
                  rw [e, if_pos rfl, if_pos rfl]
                  exact tk_D_lost_0_4 ⟨by decide, ct_Kinds_has hZ x1 _⟩ (ab_b_n.mpr (show 0 ≤ (x1).toInt ∧ (x1).toInt < (ab_rd m 1 3).toInt by rw [hcK]; exact q1)) ⟨by decide, ct_Places_has hZ x4 _⟩ (ab_b_n.mpr (show 0 ≤ (x4).toInt ∧ (x4).toInt < (ab_rd m 3 3).toInt by rw [hcP]; exact q2)) ⟨by decide, ct_D_isColourOrNone hZ x2 _⟩ (ab_b_n.mpr q3) ⟨by decide, ct_D_areMarks hZ x3 _⟩ (ab_b_n.mpr q4) ⟨by decide, ct_D_isWithin hZ x5 0 100000 _⟩ (ab_b_n.mpr q5) ⟨by decide, ct_D_isWithin hZ x6 x5 100000 _⟩ (ab_b_n.mpr q6) ⟨by decide, ct_Losses_isFull hZ _⟩ (ab_b_0.mpr (show ¬ 24 ≤ (ab_rd m 5 7).toInt by rw [hcL]; exact q7)) (Or.inr rfl) ⟨by decide, ct_Losses_add hZ x1 x2 x3 x4 x5 x6 (n := nL) (by omega) hF0⟩ ⟨by decide, ct_D_answer hZ _ _⟩ ⟨rfl, rfl⟩
            · skip
              · have e : ls_st x1 x2 x3 x4 x5 x6 nK nP nL = 2 := by unfold ls_st; (repeat' split) <;> first | rfl | (exfalso; omega)
                rw [e, if_neg (show ¬ (2 : Int32) = 0 by decide), if_neg (show ¬ (2 : Int32) = 0 by decide)]
                exact tk_D_lost_0_2 ⟨by decide, ct_Kinds_has hZ x1 _⟩ (ab_b_n.mpr (show 0 ≤ (x1).toInt ∧ (x1).toInt < (ab_rd m 1 3).toInt by rw [hcK]; exact q1)) ⟨by decide, ct_Places_has hZ x4 _⟩ (ab_b_n.mpr (show 0 ≤ (x4).toInt ∧ (x4).toInt < (ab_rd m 3 3).toInt by rw [hcP]; exact q2)) ⟨by decide, ct_D_isColourOrNone hZ x2 _⟩ (ab_b_n.mpr q3) ⟨by decide, ct_D_areMarks hZ x3 _⟩ (ab_b_n.mpr q4) ⟨by decide, ct_D_isWithin hZ x5 0 100000 _⟩ (ab_b_n.mpr q5) ⟨by decide, ct_D_isWithin hZ x6 x5 100000 _⟩ (ab_b_0.mpr q6) ⟨by decide, ct_D_refuse hZ 2 _⟩ ⟨rfl, rfl⟩
          · skip
            · have e : ls_st x1 x2 x3 x4 x5 x6 nK nP nL = 2 := by unfold ls_st; (repeat' split) <;> first | rfl | (exfalso; omega)
              rw [e, if_neg (show ¬ (2 : Int32) = 0 by decide), if_neg (show ¬ (2 : Int32) = 0 by decide)]
              exact tk_D_lost_0_5 ⟨by decide, ct_Kinds_has hZ x1 _⟩ (ab_b_n.mpr (show 0 ≤ (x1).toInt ∧ (x1).toInt < (ab_rd m 1 3).toInt by rw [hcK]; exact q1)) ⟨by decide, ct_Places_has hZ x4 _⟩ (ab_b_n.mpr (show 0 ≤ (x4).toInt ∧ (x4).toInt < (ab_rd m 3 3).toInt by rw [hcP]; exact q2)) ⟨by decide, ct_D_isColourOrNone hZ x2 _⟩ (ab_b_n.mpr q3) ⟨by decide, ct_D_areMarks hZ x3 _⟩ (ab_b_n.mpr q4) ⟨by decide, ct_D_isWithin hZ x5 0 100000 _⟩ (ab_b_0.mpr q5) ⟨by decide, ct_D_refuse hZ 2 _⟩ ⟨rfl, rfl⟩
        · skip
          · have e : ls_st x1 x2 x3 x4 x5 x6 nK nP nL = 2 := by unfold ls_st; (repeat' split) <;> first | rfl | (exfalso; omega)
            rw [e, if_neg (show ¬ (2 : Int32) = 0 by decide), if_neg (show ¬ (2 : Int32) = 0 by decide)]
            exact tk_D_lost_0_1 ⟨by decide, ct_Kinds_has hZ x1 _⟩ (ab_b_n.mpr (show 0 ≤ (x1).toInt ∧ (x1).toInt < (ab_rd m 1 3).toInt by rw [hcK]; exact q1)) ⟨by decide, ct_Places_has hZ x4 _⟩ (ab_b_n.mpr (show 0 ≤ (x4).toInt ∧ (x4).toInt < (ab_rd m 3 3).toInt by rw [hcP]; exact q2)) ⟨by decide, ct_D_isColourOrNone hZ x2 _⟩ (ab_b_n.mpr q3) ⟨by decide, ct_D_areMarks hZ x3 _⟩ (ab_b_0.mpr q4) ⟨by decide, ct_D_refuse hZ 2 _⟩ ⟨rfl, rfl⟩
      · skip
        · have e : ls_st x1 x2 x3 x4 x5 x6 nK nP nL = 2 := by unfold ls_st; (repeat' split) <;> first | rfl | (exfalso; omega)
          rw [e, if_neg (show ¬ (2 : Int32) = 0 by decide), if_neg (show ¬ (2 : Int32) = 0 by decide)]
          exact tk_D_lost_0_6 ⟨by decide, ct_Kinds_has hZ x1 _⟩ (ab_b_n.mpr (show 0 ≤ (x1).toInt ∧ (x1).toInt < (ab_rd m 1 3).toInt by rw [hcK]; exact q1)) ⟨by decide, ct_Places_has hZ x4 _⟩ (ab_b_n.mpr (show 0 ≤ (x4).toInt ∧ (x4).toInt < (ab_rd m 3 3).toInt by rw [hcP]; exact q2)) ⟨by decide, ct_D_isColourOrNone hZ x2 _⟩ (ab_b_0.mpr q3) ⟨by decide, ct_D_refuse hZ 2 _⟩ ⟨rfl, rfl⟩
    · skip
      · have e : ls_st x1 x2 x3 x4 x5 x6 nK nP nL = 1 := by unfold ls_st; (repeat' split) <;> first | rfl | (exfalso; omega)
        rw [e, if_neg (show ¬ (1 : Int32) = 0 by decide), if_neg (show ¬ (1 : Int32) = 0 by decide)]
        exact tk_D_lost_0_0 ⟨by decide, ct_Kinds_has hZ x1 _⟩ (ab_b_n.mpr (show 0 ≤ (x1).toInt ∧ (x1).toInt < (ab_rd m 1 3).toInt by rw [hcK]; exact q1)) ⟨by decide, ct_Places_has hZ x4 _⟩ (ab_b_0.mpr (show ¬ (0 ≤ (x4).toInt ∧ (x4).toInt < (ab_rd m 3 3).toInt) by rw [hcP]; exact q2)) ⟨by decide, ct_D_refuse hZ 1 _⟩ ⟨rfl, rfl⟩
  · skip
    · have e : ls_st x1 x2 x3 x4 x5 x6 nK nP nL = 1 := by unfold ls_st; (repeat' split) <;> first | rfl | (exfalso; omega)
      rw [e, if_neg (show ¬ (1 : Int32) = 0 by decide), if_neg (show ¬ (1 : Int32) = 0 by decide)]
      exact tk_D_lost_0_7 ⟨by decide, ct_Kinds_has hZ x1 _⟩ (ab_b_0.mpr (show ¬ (0 ≤ (x1).toInt ∧ (x1).toInt < (ab_rd m 1 3).toInt) by rw [hcK]; exact q1)) ⟨by decide, ct_D_refuse hZ 1 _⟩ ⟨rfl, rfl⟩
theorem ct_M_found {Z : ab_Z} (hZ : ab_okZ Z) (x1 x2 x3 x4 x5 : Int32) {nK nP nF nL : Nat} {m : ab_M} (hn : nF ≤ 24) (hcK : (ab_rd m 8 2).toInt = nK) (hcP : (ab_rd m 8 3).toInt = nP) (hF0 : ab_rd m 8 4 = nI nF) (hcF : (ab_rd m 8 4).toInt = nF) : ab_C Z 40 110 [.inl (.ref 8), .inl (.int x1), .inl (.int x2), .inl (.int x3), .inl (.int x4), .inl (.int x5)] m (some (if fd_st x1 x2 x3 x4 x5 nK nP nF = 0 then nI nF else -1)) (if fd_st x1 x2 x3 x4 x5 nK nP nF = 0 then fd_r (iv_m0 m) nF x1 x2 x3 x4 x5 else ab_wr (iv_m0 m) 8 0 (fd_st x1 x2 x3 x4 x5 nK nP nF)) := by
  refine ab_Kc hZ ?_ trivial (by decide) (Nat.le_of_ble_eq_true rfl)
  have e24 : (24 : Int32).toInt = 24 := rfl
  have e0 : (0 : Int32).toInt = 0 := rfl
  have e5 : (100000 : Int32).toInt = 100000 := rfl
  have hmem : ∀ M1 : ab_M, ab_rd M1 8 4 = ab_rd m 8 4 → ab_wr (ab_wr (ab_wr (ab_wr (ab_wr (ab_wr (ab_wr (ab_wr (ab_wr M1 53 ((ab_rd M1 8 4).toNatClampNeg) x1) 54 ((ab_rd M1 8 4).toNatClampNeg) x2) 55 ((ab_rd M1 8 4).toNatClampNeg) x3) 56 ((ab_rd M1 8 4).toNatClampNeg) x4) 57 ((ab_rd M1 8 4).toNatClampNeg) x5) 58 ((ab_rd M1 8 4).toNatClampNeg) 0) 59 ((ab_rd M1 8 4).toNatClampNeg) (-1)) 60 ((ab_rd M1 8 4).toNatClampNeg) (ab_rd M1 8 4)) 8 4 ((ab_rd M1 8 4) + 1) = fd_r M1 nF x1 x2 x3 x4 x5 := by
    intro M1 e
    unfold fd_r
    rw [e, hF0, ab_cl (by omega)]
  have hin0 : nF ≠ 24 → vp_in (ab_rd m 8 4) 24 := fun q => by rw [hF0]; exact ab_in (by omega) (by decide)
  by_cases q1 : 0 ≤ (x1).toInt ∧ (x1).toInt < nK
  · skip
    by_cases q2 : 0 ≤ (x4).toInt ∧ (x4).toInt < nP
    · skip
      by_cases q3 : x2 = -1
      all_goals have q3' := q3
      all_goals rw [ab_eqI, ab_m1] at q3'
      · skip
        by_cases q4 : 0 ≤ (x3).toInt ∧ (x3).toInt ≤ 65535
        · skip
          by_cases q5 : 0 ≤ (x5).toInt ∧ (x5).toInt ≤ 100000
          · skip
            by_cases q6 : ab_rd m 8 4 = 24
            all_goals have q6' := q6
            all_goals rw [ab_eqI, e24] at q6'
            · skip
              · have e : fd_st x1 x2 x3 x4 x5 nK nP nF = 3 := by unfold fd_st; (repeat' split) <;> first | rfl | (exfalso; omega)
                rw [e, if_neg (show ¬ (3 : Int32) = 0 by decide), if_neg (show ¬ (3 : Int32) = 0 by decide)]
                exact tk_M_found_0_7 ⟨by decide, ct_M_isKind hZ x1 _⟩ (ab_b_n.mpr (show 0 ≤ (x1).toInt ∧ (x1).toInt < (ab_rd m 8 2).toInt by rw [hcK]; exact q1)) ⟨by decide, ct_M_isPlace hZ x4 _⟩ (ab_b_n.mpr (show 0 ≤ (x4).toInt ∧ (x4).toInt < (ab_rd m 8 3).toInt by rw [hcP]; exact q2)) q3 ⟨by decide, ct_M_areMarks hZ x3 _⟩ (ab_b_n.mpr q4) ⟨by decide, ct_M_isTick hZ x5 _⟩ (ab_b_n.mpr q5) q6 ⟨by decide, ct_M_refuse hZ 3 _⟩ ⟨rfl, rfl⟩
            · skip
              · have e : fd_st x1 x2 x3 x4 x5 nK nP nF = 0 := by unfold fd_st; (repeat' split) <;> first | rfl | (exfalso; omega)
                rw [e, if_pos rfl, if_pos rfl]
                exact tk_M_found_0_8 ⟨by decide, ct_M_isKind hZ x1 _⟩ (ab_b_n.mpr (show 0 ≤ (x1).toInt ∧ (x1).toInt < (ab_rd m 8 2).toInt by rw [hcK]; exact q1)) ⟨by decide, ct_M_isPlace hZ x4 _⟩ (ab_b_n.mpr (show 0 ≤ (x4).toInt ∧ (x4).toInt < (ab_rd m 8 3).toInt by rw [hcP]; exact q2)) q3 ⟨by decide, ct_M_areMarks hZ x3 _⟩ (ab_b_n.mpr q4) ⟨by decide, ct_M_isTick hZ x5 _⟩ (ab_b_n.mpr q5) q6 (hin0 (by omega)) (hin0 (by omega)) (hin0 (by omega)) (hin0 (by omega)) (hin0 (by omega)) (hin0 (by omega)) (hin0 (by omega)) (hin0 (by omega)) ⟨congrArg some (by rw [ab_rd_s]; exact (congrArg (fun z : Int32 => z + 1 - 1) hF0).trans (by show nI _ + 1 - 1 = nI _; rw [nI_1, nI_pred])), hmem _ rfl⟩
          · skip
            · have e : fd_st x1 x2 x3 x4 x5 nK nP nF = 2 := by unfold fd_st; (repeat' split) <;> first | rfl | (exfalso; omega)
              rw [e, if_neg (show ¬ (2 : Int32) = 0 by decide), if_neg (show ¬ (2 : Int32) = 0 by decide)]
              exact tk_M_found_0_6 ⟨by decide, ct_M_isKind hZ x1 _⟩ (ab_b_n.mpr (show 0 ≤ (x1).toInt ∧ (x1).toInt < (ab_rd m 8 2).toInt by rw [hcK]; exact q1)) ⟨by decide, ct_M_isPlace hZ x4 _⟩ (ab_b_n.mpr (show 0 ≤ (x4).toInt ∧ (x4).toInt < (ab_rd m 8 3).toInt by rw [hcP]; exact q2)) q3 ⟨by decide, ct_M_areMarks hZ x3 _⟩ (ab_b_n.mpr q4) ⟨by decide, ct_M_isTick hZ x5 _⟩ (ab_b_0.mpr q5) ⟨by decide, ct_M_refuse hZ 2 _⟩ ⟨rfl, rfl⟩
        · skip
          · have e : fd_st x1 x2 x3 x4 x5 nK nP nF = 2 := by unfold fd_st; (repeat' split) <;> first | rfl | (exfalso; omega)
            rw [e, if_neg (show ¬ (2 : Int32) = 0 by decide), if_neg (show ¬ (2 : Int32) = 0 by decide)]
            exact tk_M_found_0_9 ⟨by decide, ct_M_isKind hZ x1 _⟩ (ab_b_n.mpr (show 0 ≤ (x1).toInt ∧ (x1).toInt < (ab_rd m 8 2).toInt by rw [hcK]; exact q1)) ⟨by decide, ct_M_isPlace hZ x4 _⟩ (ab_b_n.mpr (show 0 ≤ (x4).toInt ∧ (x4).toInt < (ab_rd m 8 3).toInt by rw [hcP]; exact q2)) q3 ⟨by decide, ct_M_areMarks hZ x3 _⟩ (ab_b_0.mpr q4) ⟨by decide, ct_M_refuse hZ 2 _⟩ ⟨rfl, rfl⟩
      · skip
        by_cases q7 : 0 ≤ (x2).toInt ∧ (x2).toInt < 12
        · skip
          by_cases q8 : 0 ≤ (x3).toInt ∧ (x3).toInt ≤ 65535
          · skip
            by_cases q9 : 0 ≤ (x5).toInt ∧ (x5).toInt ≤ 100000
            · skip
              by_cases q10 : ab_rd m 8 4 = 24
              all_goals have q10' := q10
              all_goals rw [ab_eqI, e24] at q10'
              · skip
                · have e : fd_st x1 x2 x3 x4 x5 nK nP nF = 3 := by unfold fd_st; (repeat' split) <;> first | rfl | (exfalso; omega)
                  rw [e, if_neg (show ¬ (3 : Int32) = 0 by decide), if_neg (show ¬ (3 : Int32) = 0 by decide)]
                  exact tk_M_found_0_2 ⟨by decide, ct_M_isKind hZ x1 _⟩ (ab_b_n.mpr (show 0 ≤ (x1).toInt ∧ (x1).toInt < (ab_rd m 8 2).toInt by rw [hcK]; exact q1)) ⟨by decide, ct_M_isPlace hZ x4 _⟩ (ab_b_n.mpr (show 0 ≤ (x4).toInt ∧ (x4).toInt < (ab_rd m 8 3).toInt by rw [hcP]; exact q2)) q3 ⟨by decide, ct_M_isColour hZ x2 _⟩ (ab_b_n.mpr q7) ⟨by decide, ct_M_areMarks hZ x3 _⟩ (ab_b_n.mpr q8) ⟨by decide, ct_M_isTick hZ x5 _⟩ (ab_b_n.mpr q9) q10 ⟨by decide, ct_M_refuse hZ 3 _⟩ ⟨rfl, rfl⟩
              · skip
                · have e : fd_st x1 x2 x3 x4 x5 nK nP nF = 0 := by unfold fd_st; (repeat' split) <;> first | rfl | (exfalso; omega)
                  rw [e, if_pos rfl, if_pos rfl]
                  exact tk_M_found_0_3 ⟨by decide, ct_M_isKind hZ x1 _⟩ (ab_b_n.mpr (show 0 ≤ (x1).toInt ∧ (x1).toInt < (ab_rd m 8 2).toInt by rw [hcK]; exact q1)) ⟨by decide, ct_M_isPlace hZ x4 _⟩ (ab_b_n.mpr (show 0 ≤ (x4).toInt ∧ (x4).toInt < (ab_rd m 8 3).toInt by rw [hcP]; exact q2)) q3 ⟨by decide, ct_M_isColour hZ x2 _⟩ (ab_b_n.mpr q7) ⟨by decide, ct_M_areMarks hZ x3 _⟩ (ab_b_n.mpr q8) ⟨by decide, ct_M_isTick hZ x5 _⟩ (ab_b_n.mpr q9) q10 (hin0 (by omega)) (hin0 (by omega)) (hin0 (by omega)) (hin0 (by omega)) (hin0 (by omega)) (hin0 (by omega)) (hin0 (by omega)) (hin0 (by omega)) ⟨congrArg some (by rw [ab_rd_s]; exact (congrArg (fun z : Int32 => z + 1 - 1) hF0).trans (by show nI _ + 1 - 1 = nI _; rw [nI_1, nI_pred])), hmem _ rfl⟩
            · skip
              · have e : fd_st x1 x2 x3 x4 x5 nK nP nF = 2 := by unfold fd_st; (repeat' split) <;> first | rfl | (exfalso; omega)
                rw [e, if_neg (show ¬ (2 : Int32) = 0 by decide), if_neg (show ¬ (2 : Int32) = 0 by decide)]
                exact tk_M_found_0_1 ⟨by decide, ct_M_isKind hZ x1 _⟩ (ab_b_n.mpr (show 0 ≤ (x1).toInt ∧ (x1).toInt < (ab_rd m 8 2).toInt by rw [hcK]; exact q1)) ⟨by decide, ct_M_isPlace hZ x4 _⟩ (ab_b_n.mpr (show 0 ≤ (x4).toInt ∧ (x4).toInt < (ab_rd m 8 3).toInt by rw [hcP]; exact q2)) q3 ⟨by decide, ct_M_isColour hZ x2 _⟩ (ab_b_n.mpr q7) ⟨by decide, ct_M_areMarks hZ x3 _⟩ (ab_b_n.mpr q8) ⟨by decide, ct_M_isTick hZ x5 _⟩ (ab_b_0.mpr q9) ⟨by decide, ct_M_refuse hZ 2 _⟩ ⟨rfl, rfl⟩
          · skip
            · have e : fd_st x1 x2 x3 x4 x5 nK nP nF = 2 := by unfold fd_st; (repeat' split) <;> first | rfl | (exfalso; omega)
              rw [e, if_neg (show ¬ (2 : Int32) = 0 by decide), if_neg (show ¬ (2 : Int32) = 0 by decide)]
              exact tk_M_found_0_4 ⟨by decide, ct_M_isKind hZ x1 _⟩ (ab_b_n.mpr (show 0 ≤ (x1).toInt ∧ (x1).toInt < (ab_rd m 8 2).toInt by rw [hcK]; exact q1)) ⟨by decide, ct_M_isPlace hZ x4 _⟩ (ab_b_n.mpr (show 0 ≤ (x4).toInt ∧ (x4).toInt < (ab_rd m 8 3).toInt by rw [hcP]; exact q2)) q3 ⟨by decide, ct_M_isColour hZ x2 _⟩ (ab_b_n.mpr q7) ⟨by decide, ct_M_areMarks hZ x3 _⟩ (ab_b_0.mpr q8) ⟨by decide, ct_M_refuse hZ 2 _⟩ ⟨rfl, rfl⟩
        · skip
          · have e : fd_st x1 x2 x3 x4 x5 nK nP nF = 2 := by unfold fd_st; (repeat' split) <;> first | rfl | (exfalso; omega)
            rw [e, if_neg (show ¬ (2 : Int32) = 0 by decide), if_neg (show ¬ (2 : Int32) = 0 by decide)]
            exact tk_M_found_0_5 ⟨by decide, ct_M_isKind hZ x1 _⟩ (ab_b_n.mpr (show 0 ≤ (x1).toInt ∧ (x1).toInt < (ab_rd m 8 2).toInt by rw [hcK]; exact q1)) ⟨by decide, ct_M_isPlace hZ x4 _⟩ (ab_b_n.mpr (show 0 ≤ (x4).toInt ∧ (x4).toInt < (ab_rd m 8 3).toInt by rw [hcP]; exact q2)) q3 ⟨by decide, ct_M_isColour hZ x2 _⟩ (ab_b_0.mpr q7) ⟨by decide, ct_M_refuse hZ 2 _⟩ ⟨rfl, rfl⟩
    · skip
      · have e : fd_st x1 x2 x3 x4 x5 nK nP nF = 1 := by unfold fd_st; (repeat' split) <;> first | rfl | (exfalso; omega)
        rw [e, if_neg (show ¬ (1 : Int32) = 0 by decide), if_neg (show ¬ (1 : Int32) = 0 by decide)]
        exact tk_M_found_0_0 ⟨by decide, ct_M_isKind hZ x1 _⟩ (ab_b_n.mpr (show 0 ≤ (x1).toInt ∧ (x1).toInt < (ab_rd m 8 2).toInt by rw [hcK]; exact q1)) ⟨by decide, ct_M_isPlace hZ x4 _⟩ (ab_b_0.mpr (show ¬ (0 ≤ (x4).toInt ∧ (x4).toInt < (ab_rd m 8 3).toInt) by rw [hcP]; exact q2)) ⟨by decide, ct_M_refuse hZ 1 _⟩ ⟨rfl, rfl⟩
  · skip
    · have e : fd_st x1 x2 x3 x4 x5 nK nP nF = 1 := by unfold fd_st; (repeat' split) <;> first | rfl | (exfalso; omega)
      rw [e, if_neg (show ¬ (1 : Int32) = 0 by decide), if_neg (show ¬ (1 : Int32) = 0 by decide)]
      exact tk_M_found_0_10 ⟨by decide, ct_M_isKind hZ x1 _⟩ (ab_b_0.mpr (show ¬ (0 ≤ (x1).toInt ∧ (x1).toInt < (ab_rd m 8 2).toInt) by rw [hcK]; exact q1)) ⟨by decide, ct_M_refuse hZ 1 _⟩ ⟨rfl, rfl⟩
theorem ct_M_lost {Z : ab_Z} (hZ : ab_okZ Z) (x1 x2 x3 x4 x5 x6 : Int32) {nK nP nF nL : Nat} {m : ab_M} (hn : nL ≤ 24) (hcK : (ab_rd m 8 2).toInt = nK) (hcP : (ab_rd m 8 3).toInt = nP) (hF0 : ab_rd m 8 5 = nI nL) (hcL : (ab_rd m 8 5).toInt = nL) : ab_C Z 40 111 [.inl (.ref 8), .inl (.int x1), .inl (.int x2), .inl (.int x3), .inl (.int x4), .inl (.int x5), .inl (.int x6)] m (some (if ls_st x1 x2 x3 x4 x5 x6 nK nP nL = 0 then nI nL else -1)) (if ls_st x1 x2 x3 x4 x5 x6 nK nP nL = 0 then ls_r (iv_m0 m) nL x1 x2 x3 x4 x5 x6 else ab_wr (iv_m0 m) 8 0 (ls_st x1 x2 x3 x4 x5 x6 nK nP nL)) := by
  refine ab_Kc hZ ?_ trivial (by decide) (Nat.le_of_ble_eq_true rfl)
  have e24 : (24 : Int32).toInt = 24 := rfl
  have e0 : (0 : Int32).toInt = 0 := rfl
  have e5 : (100000 : Int32).toInt = 100000 := rfl
  have hmem : ∀ M1 : ab_M, ab_rd M1 8 5 = ab_rd m 8 5 → ab_wr (ab_wr (ab_wr (ab_wr (ab_wr (ab_wr (ab_wr M1 61 ((ab_rd M1 8 5).toNatClampNeg) x1) 62 ((ab_rd M1 8 5).toNatClampNeg) x2) 63 ((ab_rd M1 8 5).toNatClampNeg) x3) 64 ((ab_rd M1 8 5).toNatClampNeg) x4) 65 ((ab_rd M1 8 5).toNatClampNeg) x5) 66 ((ab_rd M1 8 5).toNatClampNeg) x6) 8 5 ((ab_rd M1 8 5) + 1) = ls_r M1 nL x1 x2 x3 x4 x5 x6 := by
    intro M1 e
    unfold ls_r
    rw [e, hF0, ab_cl (by omega)]
  have hin0 : nL ≠ 24 → vp_in (ab_rd m 8 5) 24 := fun q => by rw [hF0]; exact ab_in (by omega) (by decide)
  by_cases q1 : 0 ≤ (x1).toInt ∧ (x1).toInt < nK
  · skip
    by_cases q2 : 0 ≤ (x4).toInt ∧ (x4).toInt < nP
    · skip
      by_cases q3 : x2 = -1
      all_goals have q3' := q3
      all_goals rw [ab_eqI, ab_m1] at q3'
      · skip
        by_cases q4 : 0 ≤ (x3).toInt ∧ (x3).toInt ≤ 65535
        · skip
          by_cases q5 : 0 ≤ (x5).toInt ∧ (x5).toInt ≤ 100000
          · skip
            by_cases q6 : 0 ≤ (x6).toInt ∧ (x6).toInt ≤ 100000
            · skip
              by_cases q7 : x5 ≤ x6
              all_goals have q7' := q7
              all_goals rw [ab_leI] at q7'
              · skip
                by_cases q8 : ab_rd m 8 5 = 24
                all_goals have q8' := q8
                all_goals rw [ab_eqI, e24] at q8'
                · skip
                  · have e : ls_st x1 x2 x3 x4 x5 x6 nK nP nL = 3 := by unfold ls_st; (repeat' split) <;> first | rfl | (exfalso; omega)
                    rw [e, if_neg (show ¬ (3 : Int32) = 0 by decide), if_neg (show ¬ (3 : Int32) = 0 by decide)]
                    exact tk_M_lost_0_9 ⟨by decide, ct_M_isKind hZ x1 _⟩ (ab_b_n.mpr (show 0 ≤ (x1).toInt ∧ (x1).toInt < (ab_rd m 8 2).toInt by rw [hcK]; exact q1)) ⟨by decide, ct_M_isPlace hZ x4 _⟩ (ab_b_n.mpr (show 0 ≤ (x4).toInt ∧ (x4).toInt < (ab_rd m 8 3).toInt by rw [hcP]; exact q2)) q3 ⟨by decide, ct_M_areMarks hZ x3 _⟩ (ab_b_n.mpr q4) ⟨by decide, ct_M_isTick hZ x5 _⟩ (ab_b_n.mpr q5) ⟨by decide, ct_M_isTick hZ x6 _⟩ (ab_b_n.mpr q6) q7 q8 ⟨by decide, ct_M_refuse hZ 3 _⟩ ⟨rfl, rfl⟩
                · skip
                  · have e : ls_st x1 x2 x3 x4 x5 x6 nK nP nL = 0 := by unfold ls_st; (repeat' split) <;> first | rfl | (exfalso; omega)
                    rw [e, if_pos rfl, if_pos rfl]
                    exact tk_M_lost_0_10 ⟨by decide, ct_M_isKind hZ x1 _⟩ (ab_b_n.mpr (show 0 ≤ (x1).toInt ∧ (x1).toInt < (ab_rd m 8 2).toInt by rw [hcK]; exact q1)) ⟨by decide, ct_M_isPlace hZ x4 _⟩ (ab_b_n.mpr (show 0 ≤ (x4).toInt ∧ (x4).toInt < (ab_rd m 8 3).toInt by rw [hcP]; exact q2)) q3 ⟨by decide, ct_M_areMarks hZ x3 _⟩ (ab_b_n.mpr q4) ⟨by decide, ct_M_isTick hZ x5 _⟩ (ab_b_n.mpr q5) ⟨by decide, ct_M_isTick hZ x6 _⟩ (ab_b_n.mpr q6) q7 q8 (hin0 (by omega)) (hin0 (by omega)) (hin0 (by omega)) (hin0 (by omega)) (hin0 (by omega)) (hin0 (by omega)) ⟨congrArg some (by rw [ab_rd_s]; exact (congrArg (fun z : Int32 => z + 1 - 1) hF0).trans (by show nI _ + 1 - 1 = nI _; rw [nI_1, nI_pred])), hmem _ rfl⟩
              · skip
                · have e : ls_st x1 x2 x3 x4 x5 x6 nK nP nL = 2 := by unfold ls_st; (repeat' split) <;> first | rfl | (exfalso; omega)
                  rw [e, if_neg (show ¬ (2 : Int32) = 0 by decide), if_neg (show ¬ (2 : Int32) = 0 by decide)]
                  exact tk_M_lost_0_8 ⟨by decide, ct_M_isKind hZ x1 _⟩ (ab_b_n.mpr (show 0 ≤ (x1).toInt ∧ (x1).toInt < (ab_rd m 8 2).toInt by rw [hcK]; exact q1)) ⟨by decide, ct_M_isPlace hZ x4 _⟩ (ab_b_n.mpr (show 0 ≤ (x4).toInt ∧ (x4).toInt < (ab_rd m 8 3).toInt by rw [hcP]; exact q2)) q3 ⟨by decide, ct_M_areMarks hZ x3 _⟩ (ab_b_n.mpr q4) ⟨by decide, ct_M_isTick hZ x5 _⟩ (ab_b_n.mpr q5) ⟨by decide, ct_M_isTick hZ x6 _⟩ (ab_b_n.mpr q6) q7 ⟨by decide, ct_M_refuse hZ 2 _⟩ ⟨rfl, rfl⟩
            · skip
              · have e : ls_st x1 x2 x3 x4 x5 x6 nK nP nL = 2 := by unfold ls_st; (repeat' split) <;> first | rfl | (exfalso; omega)
                rw [e, if_neg (show ¬ (2 : Int32) = 0 by decide), if_neg (show ¬ (2 : Int32) = 0 by decide)]
                exact tk_M_lost_0_11 ⟨by decide, ct_M_isKind hZ x1 _⟩ (ab_b_n.mpr (show 0 ≤ (x1).toInt ∧ (x1).toInt < (ab_rd m 8 2).toInt by rw [hcK]; exact q1)) ⟨by decide, ct_M_isPlace hZ x4 _⟩ (ab_b_n.mpr (show 0 ≤ (x4).toInt ∧ (x4).toInt < (ab_rd m 8 3).toInt by rw [hcP]; exact q2)) q3 ⟨by decide, ct_M_areMarks hZ x3 _⟩ (ab_b_n.mpr q4) ⟨by decide, ct_M_isTick hZ x5 _⟩ (ab_b_n.mpr q5) ⟨by decide, ct_M_isTick hZ x6 _⟩ (ab_b_0.mpr q6) ⟨by decide, ct_M_refuse hZ 2 _⟩ ⟨rfl, rfl⟩
          · skip
            · have e : ls_st x1 x2 x3 x4 x5 x6 nK nP nL = 2 := by unfold ls_st; (repeat' split) <;> first | rfl | (exfalso; omega)
              rw [e, if_neg (show ¬ (2 : Int32) = 0 by decide), if_neg (show ¬ (2 : Int32) = 0 by decide)]
              exact tk_M_lost_0_12 ⟨by decide, ct_M_isKind hZ x1 _⟩ (ab_b_n.mpr (show 0 ≤ (x1).toInt ∧ (x1).toInt < (ab_rd m 8 2).toInt by rw [hcK]; exact q1)) ⟨by decide, ct_M_isPlace hZ x4 _⟩ (ab_b_n.mpr (show 0 ≤ (x4).toInt ∧ (x4).toInt < (ab_rd m 8 3).toInt by rw [hcP]; exact q2)) q3 ⟨by decide, ct_M_areMarks hZ x3 _⟩ (ab_b_n.mpr q4) ⟨by decide, ct_M_isTick hZ x5 _⟩ (ab_b_0.mpr q5) ⟨by decide, ct_M_refuse hZ 2 _⟩ ⟨rfl, rfl⟩
        · skip
          · have e : ls_st x1 x2 x3 x4 x5 x6 nK nP nL = 2 := by unfold ls_st; (repeat' split) <;> first | rfl | (exfalso; omega)
            rw [e, if_neg (show ¬ (2 : Int32) = 0 by decide), if_neg (show ¬ (2 : Int32) = 0 by decide)]
            exact tk_M_lost_0_13 ⟨by decide, ct_M_isKind hZ x1 _⟩ (ab_b_n.mpr (show 0 ≤ (x1).toInt ∧ (x1).toInt < (ab_rd m 8 2).toInt by rw [hcK]; exact q1)) ⟨by decide, ct_M_isPlace hZ x4 _⟩ (ab_b_n.mpr (show 0 ≤ (x4).toInt ∧ (x4).toInt < (ab_rd m 8 3).toInt by rw [hcP]; exact q2)) q3 ⟨by decide, ct_M_areMarks hZ x3 _⟩ (ab_b_0.mpr q4) ⟨by decide, ct_M_refuse hZ 2 _⟩ ⟨rfl, rfl⟩
      · skip
        by_cases q9 : 0 ≤ (x2).toInt ∧ (x2).toInt < 12
        · skip
          by_cases q10 : 0 ≤ (x3).toInt ∧ (x3).toInt ≤ 65535
          · skip
            by_cases q11 : 0 ≤ (x5).toInt ∧ (x5).toInt ≤ 100000
            · skip
              by_cases q12 : 0 ≤ (x6).toInt ∧ (x6).toInt ≤ 100000
              · skip
                by_cases q13 : x5 ≤ x6
                all_goals have q13' := q13
                all_goals rw [ab_leI] at q13'
                · skip
                  by_cases q14 : ab_rd m 8 5 = 24
                  all_goals have q14' := q14
                  all_goals rw [ab_eqI, e24] at q14'
                  · skip
                    · have e : ls_st x1 x2 x3 x4 x5 x6 nK nP nL = 3 := by unfold ls_st; (repeat' split) <;> first | rfl | (exfalso; omega)
                      rw [e, if_neg (show ¬ (3 : Int32) = 0 by decide), if_neg (show ¬ (3 : Int32) = 0 by decide)]
                      exact tk_M_lost_0_2 ⟨by decide, ct_M_isKind hZ x1 _⟩ (ab_b_n.mpr (show 0 ≤ (x1).toInt ∧ (x1).toInt < (ab_rd m 8 2).toInt by rw [hcK]; exact q1)) ⟨by decide, ct_M_isPlace hZ x4 _⟩ (ab_b_n.mpr (show 0 ≤ (x4).toInt ∧ (x4).toInt < (ab_rd m 8 3).toInt by rw [hcP]; exact q2)) q3 ⟨by decide, ct_M_isColour hZ x2 _⟩ (ab_b_n.mpr q9) ⟨by decide, ct_M_areMarks hZ x3 _⟩ (ab_b_n.mpr q10) ⟨by decide, ct_M_isTick hZ x5 _⟩ (ab_b_n.mpr q11) ⟨by decide, ct_M_isTick hZ x6 _⟩ (ab_b_n.mpr q12) q13 q14 ⟨by decide, ct_M_refuse hZ 3 _⟩ ⟨rfl, rfl⟩
                  · skip
                    · have e : ls_st x1 x2 x3 x4 x5 x6 nK nP nL = 0 := by unfold ls_st; (repeat' split) <;> first | rfl | (exfalso; omega)
                      rw [e, if_pos rfl, if_pos rfl]
                      exact tk_M_lost_0_3 ⟨by decide, ct_M_isKind hZ x1 _⟩ (ab_b_n.mpr (show 0 ≤ (x1).toInt ∧ (x1).toInt < (ab_rd m 8 2).toInt by rw [hcK]; exact q1)) ⟨by decide, ct_M_isPlace hZ x4 _⟩ (ab_b_n.mpr (show 0 ≤ (x4).toInt ∧ (x4).toInt < (ab_rd m 8 3).toInt by rw [hcP]; exact q2)) q3 ⟨by decide, ct_M_isColour hZ x2 _⟩ (ab_b_n.mpr q9) ⟨by decide, ct_M_areMarks hZ x3 _⟩ (ab_b_n.mpr q10) ⟨by decide, ct_M_isTick hZ x5 _⟩ (ab_b_n.mpr q11) ⟨by decide, ct_M_isTick hZ x6 _⟩ (ab_b_n.mpr q12) q13 q14 (hin0 (by omega)) (hin0 (by omega)) (hin0 (by omega)) (hin0 (by omega)) (hin0 (by omega)) (hin0 (by omega)) ⟨congrArg some (by rw [ab_rd_s]; exact (congrArg (fun z : Int32 => z + 1 - 1) hF0).trans (by show nI _ + 1 - 1 = nI _; rw [nI_1, nI_pred])), hmem _ rfl⟩
                · skip
                  · have e : ls_st x1 x2 x3 x4 x5 x6 nK nP nL = 2 := by unfold ls_st; (repeat' split) <;> first | rfl | (exfalso; omega)
                    rw [e, if_neg (show ¬ (2 : Int32) = 0 by decide), if_neg (show ¬ (2 : Int32) = 0 by decide)]
                    exact tk_M_lost_0_1 ⟨by decide, ct_M_isKind hZ x1 _⟩ (ab_b_n.mpr (show 0 ≤ (x1).toInt ∧ (x1).toInt < (ab_rd m 8 2).toInt by rw [hcK]; exact q1)) ⟨by decide, ct_M_isPlace hZ x4 _⟩ (ab_b_n.mpr (show 0 ≤ (x4).toInt ∧ (x4).toInt < (ab_rd m 8 3).toInt by rw [hcP]; exact q2)) q3 ⟨by decide, ct_M_isColour hZ x2 _⟩ (ab_b_n.mpr q9) ⟨by decide, ct_M_areMarks hZ x3 _⟩ (ab_b_n.mpr q10) ⟨by decide, ct_M_isTick hZ x5 _⟩ (ab_b_n.mpr q11) ⟨by decide, ct_M_isTick hZ x6 _⟩ (ab_b_n.mpr q12) q13 ⟨by decide, ct_M_refuse hZ 2 _⟩ ⟨rfl, rfl⟩
              · skip
                · have e : ls_st x1 x2 x3 x4 x5 x6 nK nP nL = 2 := by unfold ls_st; (repeat' split) <;> first | rfl | (exfalso; omega)
                  rw [e, if_neg (show ¬ (2 : Int32) = 0 by decide), if_neg (show ¬ (2 : Int32) = 0 by decide)]
                  exact tk_M_lost_0_4 ⟨by decide, ct_M_isKind hZ x1 _⟩ (ab_b_n.mpr (show 0 ≤ (x1).toInt ∧ (x1).toInt < (ab_rd m 8 2).toInt by rw [hcK]; exact q1)) ⟨by decide, ct_M_isPlace hZ x4 _⟩ (ab_b_n.mpr (show 0 ≤ (x4).toInt ∧ (x4).toInt < (ab_rd m 8 3).toInt by rw [hcP]; exact q2)) q3 ⟨by decide, ct_M_isColour hZ x2 _⟩ (ab_b_n.mpr q9) ⟨by decide, ct_M_areMarks hZ x3 _⟩ (ab_b_n.mpr q10) ⟨by decide, ct_M_isTick hZ x5 _⟩ (ab_b_n.mpr q11) ⟨by decide, ct_M_isTick hZ x6 _⟩ (ab_b_0.mpr q12) ⟨by decide, ct_M_refuse hZ 2 _⟩ ⟨rfl, rfl⟩
            · skip
              · have e : ls_st x1 x2 x3 x4 x5 x6 nK nP nL = 2 := by unfold ls_st; (repeat' split) <;> first | rfl | (exfalso; omega)
                rw [e, if_neg (show ¬ (2 : Int32) = 0 by decide), if_neg (show ¬ (2 : Int32) = 0 by decide)]
                exact tk_M_lost_0_5 ⟨by decide, ct_M_isKind hZ x1 _⟩ (ab_b_n.mpr (show 0 ≤ (x1).toInt ∧ (x1).toInt < (ab_rd m 8 2).toInt by rw [hcK]; exact q1)) ⟨by decide, ct_M_isPlace hZ x4 _⟩ (ab_b_n.mpr (show 0 ≤ (x4).toInt ∧ (x4).toInt < (ab_rd m 8 3).toInt by rw [hcP]; exact q2)) q3 ⟨by decide, ct_M_isColour hZ x2 _⟩ (ab_b_n.mpr q9) ⟨by decide, ct_M_areMarks hZ x3 _⟩ (ab_b_n.mpr q10) ⟨by decide, ct_M_isTick hZ x5 _⟩ (ab_b_0.mpr q11) ⟨by decide, ct_M_refuse hZ 2 _⟩ ⟨rfl, rfl⟩
          · skip
            · have e : ls_st x1 x2 x3 x4 x5 x6 nK nP nL = 2 := by unfold ls_st; (repeat' split) <;> first | rfl | (exfalso; omega)
              rw [e, if_neg (show ¬ (2 : Int32) = 0 by decide), if_neg (show ¬ (2 : Int32) = 0 by decide)]
              exact tk_M_lost_0_6 ⟨by decide, ct_M_isKind hZ x1 _⟩ (ab_b_n.mpr (show 0 ≤ (x1).toInt ∧ (x1).toInt < (ab_rd m 8 2).toInt by rw [hcK]; exact q1)) ⟨by decide, ct_M_isPlace hZ x4 _⟩ (ab_b_n.mpr (show 0 ≤ (x4).toInt ∧ (x4).toInt < (ab_rd m 8 3).toInt by rw [hcP]; exact q2)) q3 ⟨by decide, ct_M_isColour hZ x2 _⟩ (ab_b_n.mpr q9) ⟨by decide, ct_M_areMarks hZ x3 _⟩ (ab_b_0.mpr q10) ⟨by decide, ct_M_refuse hZ 2 _⟩ ⟨rfl, rfl⟩
        · skip
          · have e : ls_st x1 x2 x3 x4 x5 x6 nK nP nL = 2 := by unfold ls_st; (repeat' split) <;> first | rfl | (exfalso; omega)
            rw [e, if_neg (show ¬ (2 : Int32) = 0 by decide), if_neg (show ¬ (2 : Int32) = 0 by decide)]
            exact tk_M_lost_0_7 ⟨by decide, ct_M_isKind hZ x1 _⟩ (ab_b_n.mpr (show 0 ≤ (x1).toInt ∧ (x1).toInt < (ab_rd m 8 2).toInt by rw [hcK]; exact q1)) ⟨by decide, ct_M_isPlace hZ x4 _⟩ (ab_b_n.mpr (show 0 ≤ (x4).toInt ∧ (x4).toInt < (ab_rd m 8 3).toInt by rw [hcP]; exact q2)) q3 ⟨by decide, ct_M_isColour hZ x2 _⟩ (ab_b_0.mpr q9) ⟨by decide, ct_M_refuse hZ 2 _⟩ ⟨rfl, rfl⟩
    · skip
      · have e : ls_st x1 x2 x3 x4 x5 x6 nK nP nL = 1 := by unfold ls_st; (repeat' split) <;> first | rfl | (exfalso; omega)
        rw [e, if_neg (show ¬ (1 : Int32) = 0 by decide), if_neg (show ¬ (1 : Int32) = 0 by decide)]
        exact tk_M_lost_0_0 ⟨by decide, ct_M_isKind hZ x1 _⟩ (ab_b_n.mpr (show 0 ≤ (x1).toInt ∧ (x1).toInt < (ab_rd m 8 2).toInt by rw [hcK]; exact q1)) ⟨by decide, ct_M_isPlace hZ x4 _⟩ (ab_b_0.mpr (show ¬ (0 ≤ (x4).toInt ∧ (x4).toInt < (ab_rd m 8 3).toInt) by rw [hcP]; exact q2)) ⟨by decide, ct_M_refuse hZ 1 _⟩ ⟨rfl, rfl⟩
  · skip
    · have e : ls_st x1 x2 x3 x4 x5 x6 nK nP nL = 1 := by unfold ls_st; (repeat' split) <;> first | rfl | (exfalso; omega)
      rw [e, if_neg (show ¬ (1 : Int32) = 0 by decide), if_neg (show ¬ (1 : Int32) = 0 by decide)]
      exact tk_M_lost_0_14 ⟨by decide, ct_M_isKind hZ x1 _⟩ (ab_b_0.mpr (show ¬ (0 ≤ (x1).toInt ∧ (x1).toInt < (ab_rd m 8 2).toInt) by rw [hcK]; exact q1)) ⟨by decide, ct_M_refuse hZ 1 _⟩ ⟨rfl, rfl⟩
