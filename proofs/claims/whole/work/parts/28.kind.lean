/-! ===== kind ===== -/
theorem lg_one : ∀ k, k < 40 → ab_lc 1 <<< ((nI k).toInt64 &&& 63) = lN (2 ^ k) := by decide +kernel
theorem fb_orL (a b : Nat) : lN a ||| lN b = lN (a ||| b) := by
  apply Int64.toBitVec_inj.1
  show BitVec.ofNat 64 a ||| BitVec.ofNat 64 b = BitVec.ofNat 64 (a ||| b)
  apply BitVec.eq_of_getLsbD_eq
  intro i hi
  simp [hi]
theorem kd_line_lt {up : Nat → Int32} {n : Nat} (h : kd_ok up n) (hn : n ≤ 2 ^ 30) : ∀ (f k : Nat), k < n → kd_line up f k < 2 ^ (k + 1)
  | 0, k, _ => Nat.two_pow_pos _
  | f + 1, k, hk => by
    unfold kd_line
    rw [Nat.pow_succ]
    have h0 := Nat.two_pow_pos k
    rcases kd_cases h hk hn with ⟨h1, -⟩ | ⟨h1, j, hj, -, h2⟩
    · rw [if_pos h1]
      omega
    · rw [if_neg h1, h2]
      have := kd_line_lt h hn f j (by omega)
      have h3 : 2 ^ (j + 1) ≤ 2 ^ k := Nat.pow_le_pow_right (by decide) (by omega)
      omega
theorem kd_or {a k : Nat} (h : a < 2 ^ k) : a ||| 2 ^ k = 2 ^ k + a := by
  have := Nat.two_pow_add_eq_or_of_lt h 1
  rw [Nat.mul_one] at this
  rw [this, Nat.or_comm]
/-- what may stand above a new kind -/
def kd_may (x : Int32) (n : Nat) : Prop := (n = 0 ∧ x = -1) ∨ (0 < n ∧ 0 ≤ x.toInt ∧ x.toInt < n)
theorem kd_may_dec (x : Int32) (n : Nat) : kd_may x n ∨ ¬ kd_may x n := Classical.em _
theorem ct_Kinds_canBeAbove {Z : ab_Z} (hZ : ab_okZ Z) {x : Int32} {n : Nat} {m : ab_M} (hn : n ≤ 40) (h : ab_rd m 1 3 = nI n) : (kd_may x n → ab_C Z 1 12 [.inl (.ref 1), .inl (.int x)] m (some 1) m) ∧ (¬ kd_may x n → ab_C Z 1 12 [.inl (.ref 1), .inl (.int x)] m (some 0) m) := by
  have hc : (ab_rd m 1 3).toInt = n := iv_toI h (by omega)
  have hz : ab_rd m 1 3 = 0 ↔ n = 0 := by
    rw [ab_eqI, hc, ab_t0]
    omega
  constructor
  · intro hm
    refine ab_Kc hZ ?_ (Or.inr rfl) (by decide) (Nat.le_of_ble_eq_true rfl)
    rcases hm with ⟨h0, h1⟩ | ⟨h0, h1⟩
    · exact tk_Kinds_canBeAbove_0_0 (hz.mpr h0) h1 ⟨rfl, rfl⟩
    · exact tk_Kinds_canBeAbove_0_2 (fun q => by have := hz.mp q; omega) ⟨by decide, ct_Kinds_has hZ x m⟩ ⟨congrArg some (ab_b_t (by rw [hc]; exact h1)), rfl⟩
  · intro hm
    refine ab_Kc hZ ?_ (Or.inl rfl) (by decide) (Nat.le_of_ble_eq_true rfl)
    by_cases h0 : n = 0
    · exact tk_Kinds_canBeAbove_0_1 (hz.mpr h0) (fun q => hm (Or.inl ⟨h0, q⟩)) ⟨rfl, rfl⟩
    · exact tk_Kinds_canBeAbove_0_2 (fun q => h0 (hz.mp q)) ⟨by decide, ct_Kinds_has hZ x m⟩ ⟨congrArg some (ab_b_f (by rw [hc]; exact fun q => hm (Or.inr ⟨by omega, q⟩))), rfl⟩
/-- the cells behind a kind more -/
def kd_new (m : ab_M) (n : Nat) (x : Int32) (ln : Nat) : ab_M := ab_wr (ab_wr (ab_wr (ab_wl m 13 n (lN ln)) 12 n x) 14 n (-1)) 1 3 (nI n + 1)
theorem ct_Kinds_add {Z : ab_Z} (hZ : ab_okZ Z) {x : Int32} {n : Nat} {m : ab_M} (hn : n < 40) (h : ab_rd m 1 3 = nI n) (hm : kd_may x n) {ln : Nat} (hl : (n = 0 → ln = 1) ∧ (0 < n → ∃ a, ab_rl m 13 x.toNatClampNeg = lN a ∧ a < 2 ^ n ∧ ln = 2 ^ n + a)) : ab_C Z 1 13 [.inl (.ref 1), .inl (.int x)] m (some (nI n)) (kd_new m n x ln) := by
  have hc : (ab_rd m 1 3).toInt = n := iv_toI h (by omega)
  have hin : vp_in (ab_rd m 1 3) 40 := by rw [h]; exact ab_in hn (by decide)
  have hcl : (ab_rd m 1 3).toNatClampNeg = n := by rw [h]; exact ab_cl (by omega)
  refine ab_Kc hZ ?_ trivial (by decide) (Nat.le_of_ble_eq_true rfl)
  rcases hm with ⟨h0, h1⟩ | ⟨h0, h1⟩
  · refine tk_Kinds_add_0_1 ⟨by decide, ct_Kinds_has hZ x m⟩ (ab_b_f (by rw [hc, h0]; omega)) hin hin hin ⟨congrArg some h, ?_⟩
    rw [hcl, h, lg_one n hn, hl.1 h0]
    subst h0
    rfl
  · obtain ⟨a, ha1, ha2, ha3⟩ := hl.2 h0
    refine tk_Kinds_add_0_0 ⟨by decide, ct_Kinds_has hZ x m⟩ (ab_b_n.mpr (by rw [hc]; exact h1)) (vp_in_iff.mpr (by omega)) hin hin hin ⟨congrArg some h, ?_⟩
    rw [hcl, h, lg_one n hn, ha1, fb_orL, kd_or ha2, ha3]
    rfl
theorem iv_F.more {m : ab_M} {nK nP nK' nP' n : Nat} (h : iv_F m nK nP n) (h1 : nK ≤ nK') (h2 : nP ≤ nP') : iv_F m nK' nP' n := by
  obtain ⟨g1, g2, g3, a1, a2, a3, a4, a5, a6, a7, a8, g⟩ := h
  refine ⟨g1, g2, g3, a1, a2, a3, a4, a5, a6, a7, a8, fun f hf => ?_⟩
  obtain ⟨⟨k, hk, e1⟩, e2, e3, ⟨p, hp, e4⟩, e5⟩ := g f hf
  exact ⟨⟨k, by omega, e1⟩, e2, e3, ⟨p, by omega, e4⟩, e5⟩
theorem iv_L.more {m : ab_M} {nK nP nK' nP' n : Nat} (h : iv_L m nK nP n) (h1 : nK ≤ nK') (h2 : nP ≤ nP') : iv_L m nK' nP' n := by
  obtain ⟨g1, g2, g3, a1, a2, a3, a4, a5, a6, a7, a8, a9, g⟩ := h
  refine ⟨g1, g2, g3, a1, a2, a3, a4, a5, a6, a7, a8, a9, fun f hf => ?_⟩
  obtain ⟨⟨k, hk, e1⟩, e2, e3, ⟨p, hp, e4⟩, e5⟩ := g f hf
  exact ⟨⟨k, by omega, e1⟩, e2, e3, ⟨p, by omega, e4⟩, e5⟩
theorem iv_kind {m : ab_M} {nK nP nF nL nO : Nat} (h : iv_all m nK nP nF nL nO) (hn : nK < 40) {x : Int32} (hm : kd_may x nK) {ln : Nat} (hln : ln = kd_line (upd (ab_rd m 48) nK x) 41 nK) :
    iv_A (ab_wr (ab_wr (ab_wr (iv_m0 (ab_wr (kd_new m nK x ln) 0 11 0)) 48 nK x) 49 nK (-1)) 8 2 (nI nK + 1)) := by
  obtain ⟨hK, hN, hP, hF, hL, hC, ⟨s1, s2, s3, s4, s5, s6, s7, s8, s9⟩, hB⟩ := h
  obtain ⟨g1, g2, g3, g4, g5, g6, g7, g8⟩ := id hK
  have hup : ∀ k, k < nK → upd (ab_rd m 48) nK x k = ab_rd m 48 k := fun k hk => if_neg (by omega)
  have hok : kd_ok (upd (ab_rd m 48) nK x) (nK + 1) := by
    intro k hk
    by_cases e : k = nK
    · subst e
      have : upd (ab_rd m 48) k x k = x := if_pos rfl
      rw [this]
      rcases hm with ⟨a1, a2⟩ | ⟨a1, a2⟩
      · exact Or.inl ⟨a1, a2⟩
      · obtain ⟨j, hj, e2⟩ := iv_ix a2 (by omega)
        exact Or.inr ⟨j, hj, e2⟩
    · rw [hup k (by omega)]
      exact g6 k (by omega)
  refine ⟨nK + 1, nP, nF, nL, nO, ?_, hN.cong rfl rfl, hP.cong rfl rfl rfl rfl rfl rfl, (hF.more (Nat.le_succ nK) (Nat.le_refl nP)).cong rfl rfl rfl rfl rfl rfl rfl rfl rfl rfl rfl rfl rfl rfl rfl rfl rfl rfl, (hL.more (Nat.le_succ nK) (Nat.le_refl nP)).cong rfl rfl rfl rfl rfl rfl rfl rfl rfl rfl rfl rfl rfl rfl rfl rfl, hC.cong rfl rfl rfl, ⟨rfl, s2, s3, s4, s5, s6, s7, s8, s9⟩, ?_⟩
  · refine ⟨by omega, nI_1 nK, nI_1 nK, fun k => ?_, fun k => ?_, hok, fun k hk => ?_, fun k hk => ?_⟩
    · show ab_rd (ab_wr m 12 nK x) 12 k = ab_rd (ab_wr m 48 nK x) 48 k
      rw [ab_rd_p, ab_rd_p, g4]
    · show ab_rd (ab_wr m 14 nK (-1)) 14 k = ab_rd (ab_wr m 49 nK (-1)) 49 k
      rw [ab_rd_p, ab_rd_p, g5]
    · show ab_rd (ab_wr m 49 nK (-1)) 49 k = -1 ∨ (1 ≤ (ab_rd (ab_wr m 49 nK (-1)) 49 k).toInt ∧ (ab_rd (ab_wr m 49 nK (-1)) 49 k).toInt ≤ 1000)
      rw [ab_rd_p]
      by_cases e : k = nK
      · rw [if_pos e]
        exact Or.inl rfl
      · rw [if_neg e]
        exact g7 k (by omega)
    · show ab_rl (ab_wl m 13 nK (lN ln)) 13 k = lN (kd_line (upd (ab_rd m 48) nK x) 41 k)
      rw [ab_rl_p]
      by_cases e : k = nK
      · rw [if_pos e, e, hln]
      · rw [if_neg e, g8 k (by omega), kd_line_cong g6 (by omega) hup 41 k (by omega)]
  · refine hB.cong rfl rfl rfl rfl rfl rfl rfl rfl rfl rfl (fun l f hl hf => ?_)
    obtain ⟨-, -, -, -, -, -, -, -, -, -, -, gF⟩ := hF
    obtain ⟨-, -, -, -, -, -, -, -, -, -, -, -, gL⟩ := hL
    obtain ⟨⟨k1, hk1, e1⟩, -⟩ := gF f hf
    obtain ⟨⟨k2, hk2, e2⟩, -⟩ := gL l hl
    show ct_sum (iv_on (kd_st (upd (ab_rd m 48) nK x) (ab_rd m 61 l).toNatClampNeg (ab_rd m 53 f).toNatClampNeg)) _ _ _ _ _ _ = ct_sum (iv_on (kd_st (ab_rd m 48) (ab_rd m 61 l).toNatClampNeg (ab_rd m 53 f).toNatClampNeg)) _ _ _ _ _ _
    rw [e1, e2, ab_cl (by omega), ab_cl (by omega), kd_st_cong g6 (by omega) hup hk2 hk1]
    rfl
theorem op_kind {Z : ab_Z} (hZ : ab_okZ Z) (x : Int32) {m : ab_M} (hI : iv_A m) : iv_Op Z 55 102 [.inl (.int x)] m := by
  have hI' := hI
  obtain ⟨nK, nP, nF, nL, nO, h⟩ := hI'
  obtain ⟨g1, g2, g3, g4, g5, g6, g7, g8⟩ := id h.1
  have hcM : (ab_rd m 8 2).toInt = nK := iv_toI g3 (by omega)
  have hz : ab_rd m 8 2 = 0 ↔ nK = 0 := by
    rw [ab_eqI, hcM, ab_t0]
    omega
  have e40 : (40 : Int32).toInt = 40 := rfl
  have hq40 : ab_rd m 8 2 = 40 ↔ nK = 40 := by
    rw [ab_eqI, hcM, e40]
    omega
  have hcan := ct_Kinds_canBeAbove hZ (x := x) (m := m) g1 g2
  rcases kd_may_dec x nK with hm | hm
  · by_cases hf : nK = 40
    · refine ⟨-1, _, _, ab_Kc hZ (tk_D_kind_0_1 ⟨by decide, hcan.1 hm⟩ (by decide) ⟨by decide, ct_Kinds_isFull hZ m⟩ (ab_b_n.mpr (by rw [iv_toI g2 (by omega)]; omega)) ⟨by decide, ct_D_refuse hZ 3 _⟩ ⟨rfl, rfl⟩) trivial (by decide) (Nat.le_of_ble_eq_true rfl), ?_, iv_refused hI 3⟩
      rcases hm with ⟨a1, -⟩ | ⟨a1, a2⟩
      · omega
      · exact ab_Kc hZ (tk_M_kind_0_4 (fun q => by have := hz.mp q; omega) ⟨by decide, ct_M_isKind hZ x _⟩ (ab_b_n.mpr (show 0 ≤ x.toInt ∧ x.toInt < (ab_rd m 8 2).toInt by rw [hcM]; exact a2)) (hq40.mpr hf) ⟨by decide, ct_M_refuse hZ 3 _⟩ ⟨rfl, rfl⟩) trivial (by decide) (Nat.le_of_ble_eq_true rfl)
    · have hn : nK < 40 := by omega
      have hup : ∀ k, k < nK → upd (ab_rd m 48) nK x k = ab_rd m 48 k := fun k hk => if_neg (by omega)
      have hl : (nK = 0 → kd_line (upd (ab_rd m 48) nK x) 41 nK = 1) ∧ (0 < nK → ∃ a, ab_rl m 13 x.toNatClampNeg = lN a ∧ a < 2 ^ nK ∧ kd_line (upd (ab_rd m 48) nK x) 41 nK = 2 ^ nK + a) := by
        have hself : upd (ab_rd m 48) nK x nK = x := if_pos rfl
        constructor
        · intro h0
          unfold kd_line
          rw [hself]
          rcases hm with ⟨-, a2⟩ | ⟨a1, -⟩
          · rw [a2, if_pos (by decide), h0]
          · omega
        · intro h0
          rcases hm with ⟨a1, -⟩ | ⟨-, a2⟩
          · omega
          · obtain ⟨j, hj, e2⟩ := iv_ix a2 (by omega)
            refine ⟨kd_line (ab_rd m 48) 41 j, ?_, ?_, ?_⟩
            · rw [e2, ab_cl (by omega)]
              exact g8 j hj
            · have h1 := kd_line_lt g6 (by omega) 41 j hj
              have h2 : 2 ^ (j + 1) ≤ 2 ^ nK := Nat.pow_le_pow_right (by decide) (by omega)
              omega
            · show 2 ^ nK + (if upd (ab_rd m 48) nK x nK < 0 then 0 else kd_line (upd (ab_rd m 48) nK x) 40 (upd (ab_rd m 48) nK x nK).toNatClampNeg) = _
              rw [hself, e2, if_neg (nI_pos (by omega)), ab_cl (by omega)]
              rw [← e2, kd_line_cong g6 (by omega) hup 40 j hj, kd_line_fuel g6 (by omega) j 40 41 hj (by omega) (by omega)]
      have hin : vp_in (ab_rd m 8 2) 40 := by rw [g3]; exact ab_in hn (by decide)
      have hcl : (ab_rd m 8 2).toNatClampNeg = nK := by rw [g3]; exact ab_cl (by omega)
      have hD : ab_C Z 40 55 [.inl (.ref 0), .inl (.int x)] m (some (nI nK)) (ab_wr (kd_new m nK x (kd_line (upd (ab_rd m 48) nK x) 41 nK)) 0 11 0) := ab_Kc hZ (tk_D_kind_0_2 ⟨by decide, hcan.1 hm⟩ (by decide) ⟨by decide, ct_Kinds_isFull hZ m⟩ (ab_b_f (by rw [iv_toI g2 (by omega)]; omega)) ⟨by decide, ct_Kinds_add hZ hn g2 hm hl⟩ ⟨by decide, ct_D_answer hZ _ _⟩ ⟨rfl, rfl⟩) trivial (by decide) (Nat.le_of_ble_eq_true rfl)
      have hfin := iv_kind h hn hm rfl
      have hr : nI nK + 1 - 1 = nI nK := by rw [nI_1, nI_pred]
      refine ⟨nI nK, _, _, hD, ?_, hfin⟩
      refine ab_Kc hZ ?_ trivial (by decide) (Nat.le_of_ble_eq_true rfl)
      have hval : ∀ M1 : ab_M, ab_rd M1 8 2 = ab_rd m 8 2 → some ((ab_rd (ab_wr (ab_wr (ab_wr M1 48 ((ab_rd M1 8 2).toNatClampNeg) x) 49 ((ab_rd M1 8 2).toNatClampNeg) (-1)) 8 2 ((ab_rd M1 8 2) + 1)) 8 2) - 1) = some (nI nK) := by
        intro M1 e
        rw [ab_rd_s, e, g3, hr]
      have hmem : ∀ M1 : ab_M, ab_rd M1 8 2 = ab_rd m 8 2 → ab_wr (ab_wr (ab_wr M1 48 ((ab_rd M1 8 2).toNatClampNeg) x) 49 ((ab_rd M1 8 2).toNatClampNeg) (-1)) 8 2 ((ab_rd M1 8 2) + 1) = ab_wr (ab_wr (ab_wr M1 48 nK x) 49 nK (-1)) 8 2 (nI nK + 1) := by
        intro M1 e
        rw [e, hcl, g3]
      rcases id hm with ⟨a1, a2⟩ | ⟨a1, a2⟩
      · exact tk_M_kind_0_2 (hz.mpr a1) a2 (fun q => hf (hq40.mp q)) hin hin ⟨hval _ rfl, hmem _ rfl⟩
      · exact tk_M_kind_0_5 (fun q => by have := hz.mp q; omega) ⟨by decide, ct_M_isKind hZ x _⟩ (ab_b_n.mpr (show 0 ≤ x.toInt ∧ x.toInt < (ab_rd m 8 2).toInt by rw [hcM]; exact a2)) (fun q => hf (hq40.mp q)) hin hin ⟨hval _ rfl, hmem _ rfl⟩
  · refine ⟨-1, _, _, ab_Kc hZ (tk_D_kind_0_0 ⟨by decide, hcan.2 hm⟩ rfl ⟨by decide, ct_D_refuse hZ 1 _⟩ ⟨rfl, rfl⟩) trivial (by decide) (Nat.le_of_ble_eq_true rfl), ?_, iv_refused hI 1⟩
    refine ab_Kc hZ ?_ trivial (by decide) (Nat.le_of_ble_eq_true rfl)
    by_cases h0 : nK = 0
    · exact tk_M_kind_0_0 (hz.mpr h0) (fun q => hm (Or.inl ⟨h0, q⟩)) ⟨by decide, ct_M_refuse hZ 1 _⟩ ⟨rfl, rfl⟩
    · exact tk_M_kind_0_3 (fun q => h0 (hz.mp q)) ⟨by decide, ct_M_isKind hZ x _⟩ (ab_b_0.mpr (show ¬ (0 ≤ x.toInt ∧ x.toInt < (ab_rd m 8 2).toInt) by rw [hcM]; exact fun q => hm (Or.inr ⟨by omega, q⟩))) ⟨by decide, ct_M_refuse hZ 1 _⟩ ⟨rfl, rfl⟩
