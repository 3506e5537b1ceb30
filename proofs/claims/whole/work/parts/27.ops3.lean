/-! ===== near ===== -/
theorem bt_us {n j : Nat} (hn : n < 2 ^ 31) (hj : j < 31) : ((nI n).toUInt32 >>> ((nI j).toUInt32 &&& Int32.toUInt32 31)).toInt32 = nI (n / 2 ^ j) := by
  refine pk_ushrN (by omega) (nI j) j ?_
  have h1 : (nI j).toUInt32.toNat = j := by
    have := pk_tn (n := j) (by omega)
    exact this
  have h2 : ((nI j).toUInt32 &&& Int32.toUInt32 31).toNat = j := by
    rw [UInt32.toNat_and, h1]
    show j &&& 31 = j
    rw [show (31 : Nat) = 2 ^ 5 - 1 by rfl, Nat.and_two_pow_sub_one_eq_mod, Nat.mod_eq_of_lt]
    omega
  show (((nI j).toUInt32 &&& Int32.toUInt32 31).toBitVec % 32).toNat = j
  rw [BitVec.toNat_umod]
  show ((nI j).toUInt32 &&& Int32.toUInt32 31).toNat % 32 = j
  rw [h2, Nat.mod_eq_of_lt (by omega)]
theorem bt_bit {n j : Nat} (hn : n < 2 ^ 31) (hj : j < 31) : (((nI n).toUInt32 >>> ((nI j).toUInt32 &&& Int32.toUInt32 31)).toInt32 &&& 1) = if n.testBit j = true then 1 else 0 := by
  rw [bt_us hn hj]
  have h1 := pk_andN (n := n / 2 ^ j) (by have := Nat.div_le_self n (2 ^ j); omega) (m := 1) 1 (by decide)
  rw [h1]
  have h2 : n / 2 ^ j % 2 ^ 1 = (n.testBit j).toNat := by
    rw [Nat.toNat_testBit]
  rw [h2]
  cases n.testBit j <;> rfl
theorem bt_smod : ∀ j, j < 31 → ((nI j).toBitVec.smod 32).toNat = j := by decide +kernel
theorem bt_m31 {j : Nat} (hj : j < 31) : nI j &&& 31 = nI j := by
  have h1 := pk_andN (n := j) (by omega) (m := 31) 5 (by decide)
  rw [h1, Nat.mod_eq_of_lt (by omega)]
theorem bt_shl {j : Nat} (hj : j < 31) : (1 : Int32) <<< ((nI j) &&& 31) = nI (2 ^ j) := by
  rw [bt_m31 hj]
  have h2 := pk_shlN (n := 1) (nI j) j (bt_smod j hj) (by rw [Nat.one_mul]; exact Nat.pow_lt_pow_right (by decide) (by omega))
  rw [Nat.one_mul] at h2
  exact h2
theorem fb_xorI (a b : Nat) : nI a ^^^ nI b = nI (a ^^^ b) := by
  apply Int32.toBitVec_inj.1
  show BitVec.ofNat 32 a ^^^ BitVec.ofNat 32 b = BitVec.ofNat 32 (a ^^^ b)
  apply BitVec.eq_of_getLsbD_eq
  intro i hi
  simp [hi]
theorem fa_and (a b : Nat) : nI a &&& nI b = nI (a &&& b) := by
  apply Int32.toBitVec_inj.1
  show BitVec.ofNat 32 a &&& BitVec.ofNat 32 b = BitVec.ofNat 32 (a &&& b)
  apply BitVec.eq_of_getLsbD_eq
  intro i hi
  simp [hi]
theorem fa_or (a b : Nat) : nI a ||| nI b = nI (a ||| b) := by
  apply Int32.toBitVec_inj.1
  show BitVec.ofNat 32 a ||| BitVec.ofNat 32 b = BitVec.ofNat 32 (a ||| b)
  apply BitVec.eq_of_getLsbD_eq
  intro i hi
  simp [hi]
theorem fb_bit_flip (n j i : Nat) : (n ^^^ 2 ^ j).testBit i = (n.testBit i ^^ decide (i = j)) := by
  rw [Nat.testBit_xor]
  by_cases h : j = i
  · subst h; simp
  · have h2 : ¬ i = j := fun e => h e.symm
    first | (simp [Nat.testBit_two_pow, h, h2]; done) | (simp [Nat.testBit_two_pow_of_ne h, h2]; done)
theorem ct_Colours_areNear {Z : ab_Z} (hZ : ab_okZ Z) {a b x : Nat} (ha : a < 12) (hb : b < 12) (hx : x < 4096) (m : ab_M) (h : ab_rd m 15 a = nI x) : ab_C Z 0 0 [.inl (.ref 2), .inl (.int (nI a)), .inl (.int (nI b))] m (some (ab_b (x.testBit b = true))) m := by
  have hia := ab_in (N := 12) ha (by decide)
  have hca := ab_cl (n := a) (by omega)
  have hbit := bt_bit (n := x) (j := b) (by omega) (by omega)
  refine ab_Kc hZ ?_ (ab_b_zk _) (by decide) (Nat.le_of_ble_eq_true rfl)
  by_cases hq : x.testBit b = true
  · refine tk_Colours_areNear_0_0 hia ?_ ⟨congrArg some (ab_b_t hq).symm, rfl⟩
    rw [hca, h, hbit, if_pos hq]
    decide
  · refine tk_Colours_areNear_0_1 hia ?_ ⟨congrArg some (ab_b_f hq).symm, rfl⟩
    rw [hca, h, hbit, if_neg hq]
theorem ct_Colours_turn {Z : ab_Z} (hZ : ab_okZ Z) {a b x y : Nat} (ha : a < 12) (hb : b < 12) (hab : a ≠ b) (m : ab_M) (h : ab_rd m 15 a = nI x) (h2 : ab_rd m 15 b = nI y) : ab_C Z 0 1 [.inl (.ref 2), .inl (.int (nI a)), .inl (.int (nI b))] m none (ab_wr (ab_wr m 15 a (nI (x ^^^ 2 ^ b))) 15 b (nI (y ^^^ 2 ^ a))) := by
  have hia := ab_in (N := 12) ha (by decide)
  have hca := ab_cl (n := a) (by omega)
  have hib := ab_in (N := 12) hb (by decide)
  have hcb := ab_cl (n := b) (by omega)
  refine ab_Kv hZ (tk_Colours_turn_0_0 hia hia hib hib ⟨rfl, ?_⟩) trivial (by decide) (Nat.le_of_ble_eq_true rfl)
  rw [hca, hcb, ab_rd_d _ _ _ (Ne.symm hab), h, h2, bt_shl (by omega), bt_shl (by omega), fb_xorI, fb_xorI]
theorem iv_near {m : ab_M} (hN : iv_N m) {a b x y : Nat} {v : Int32} (ha : a < 12) (hb : b < 12) (hab : a ≠ b) (hx : x < 4096) (h : ab_rd m 15 a = nI x) (hy : y < 4096) (h2 : ab_rd m 15 b = nI y) (hxb : ∀ c, c < 12 → ab_rd m 50 (12 * a + c) = if x.testBit c = true then 1 else 0) (hyb : ∀ c, c < 12 → ab_rd m 50 (12 * b + c) = if y.testBit c = true then 1 else 0) (hv : ab_zk v) (hne : ¬ ab_rd m 50 (12 * a + b) = v) {m1 : ab_M} (e1 : m1.1 15 = (ab_wr (ab_wr m 15 a (nI (x ^^^ 2 ^ b))) 15 b (nI (y ^^^ 2 ^ a))).1 15) (e2 : m1.1 50 = (ab_wr (ab_wr m 50 (12 * a + b) v) 50 (12 * b + a) v).1 50) : iv_N m1 := by
  have r1 : ∀ c, ab_rd m1 15 c = if c = b then nI (y ^^^ 2 ^ a) else if c = a then nI (x ^^^ 2 ^ b) else ab_rd m 15 c := by
    intro c
    rw [iv_rdc e1]
    rw [ab_rd_p, ab_rd_p]
  have r2 : ∀ i, ab_rd m1 50 i = if i = 12 * b + a then v else if i = 12 * a + b then v else ab_rd m 50 i := by
    intro i
    rw [iv_rdc e2]
    rw [ab_rd_p, ab_rd_p]
  have hsym := hN.2 a b ha hb
  have hpow : ∀ c, c < 12 → 2 ^ c < 2 ^ 12 := fun c hc => Nat.pow_lt_pow_right (by decide) hc
  have flip : ∀ (t : Bool), ¬ (if t = true then (1 : Int32) else 0) = v → v = if (t ^^ true) = true then 1 else 0 := by
    intro t ht
    rcases hv with rfl | rfl <;> cases t
    · exact absurd rfl ht
    · rfl
    · rfl
    · exact absurd rfl ht
  refine ⟨fun c hc => ?_, fun c e hc he => ?_⟩
  · by_cases hcb : c = b
    · subst hcb
      refine ⟨y ^^^ 2 ^ a, Nat.xor_lt_two_pow (n := 12) hy (hpow a ha), by rw [r1, if_pos rfl], fun e he => ?_⟩
      rw [r2, fb_bit_flip]
      by_cases hea : e = a
      · subst hea
        rw [if_pos rfl, decide_eq_true (rfl : e = e)]
        refine flip _ ?_
        rw [← hyb e he, ← hsym]
        exact hne
      · rw [if_neg (by omega), if_neg (by omega), decide_eq_false hea, Bool.xor_false]
        exact hyb e he
    · by_cases hca : c = a
      · subst hca
        refine ⟨x ^^^ 2 ^ b, Nat.xor_lt_two_pow (n := 12) hx (hpow b hb), by rw [r1, if_neg hcb, if_pos rfl], fun e he => ?_⟩
        rw [r2, fb_bit_flip]
        by_cases heb : e = b
        · subst heb
          rw [if_neg (by omega), if_pos rfl, decide_eq_true (rfl : e = e)]
          refine flip _ ?_
          rw [← hxb e he]
          exact hne
        · rw [if_neg (by omega), if_neg (by omega), decide_eq_false heb, Bool.xor_false]
          exact hxb e he
      · obtain ⟨z, hz, g1, g2⟩ := hN.1 c hc
        refine ⟨z, hz, by rw [r1, if_neg hcb, if_neg hca]; exact g1, fun e he => ?_⟩
        rw [r2, if_neg (by omega), if_neg (by omega)]
        exact g2 e he
  · rw [r2, r2]
    by_cases h5 : c = a ∧ e = b
    · rw [if_neg (by omega), if_pos (by omega), if_pos (by omega)]
    · by_cases h6 : c = b ∧ e = a
      · rw [if_pos (by omega), if_neg (by omega), if_pos (by omega)]
      · rw [if_neg (by omega), if_neg (by omega), if_neg (by omega), if_neg (by omega)]
        exact hN.2 c e hc he
theorem iv_ix {x : Int32} {n : Nat} (h : 0 ≤ x.toInt ∧ x.toInt < n) (hn : n < 2 ^ 31) : ∃ j, j < n ∧ x = nI j := ⟨x.toInt.toNat, by omega, by rw [ab_eqI, nI_toInt (by omega)]; omega⟩
theorem nI_12 {a b : Nat} (ha : a < 12) (hb : b < 12) : 12 * nI a + nI b = nI (12 * a + b) := by
  have : (12 : Int32) = nI 12 := rfl
  rw [this, pk_mul, nI_add]
theorem op_near {Z : ab_Z} (hZ : ab_okZ Z) (x y v : Int32) (hv : ab_zk v) {m : ab_M} (hI : iv_A m) : iv_Op Z 56 103 [.inl (.int x), .inl (.int y), .inl (.int v)] m := by
  by_cases hx : 0 ≤ x.toInt ∧ x.toInt < 12
  · by_cases hy : 0 ≤ y.toInt ∧ y.toInt < 12
    · by_cases hxy : x = y
      · exact ⟨0, _, _, ab_Kc hZ (tk_D_near_0_0 ⟨by decide, ct_D_isColour hZ x m⟩ (ab_b_n.mpr hx) ⟨by decide, ct_D_isColour hZ y m⟩ (ab_b_n.mpr hy) hxy ⟨by decide, ct_D_deny hZ 2 _⟩ ⟨rfl, rfl⟩) (Or.inl rfl) (by decide) (Nat.le_of_ble_eq_true rfl), ab_Kc hZ (tk_M_near_0_0 ⟨by decide, ct_M_isColour hZ x _⟩ (ab_b_n.mpr hx) ⟨by decide, ct_M_isColour hZ y _⟩ (ab_b_n.mpr hy) hxy ⟨by decide, ct_M_no hZ 2 _⟩ ⟨rfl, rfl⟩) (Or.inl rfl) (by decide) (Nat.le_of_ble_eq_true rfl), iv_refused hI 2⟩
      · have hx0 := hx
        have hy0 := hy
        obtain ⟨a, ha, rfl⟩ := iv_ix (n := 12) hx (by decide)
        obtain ⟨b, hb, rfl⟩ := iv_ix (n := 12) hy (by decide)
        have hab : a ≠ b := fun q => hxy (by rw [q])
        have hI' := hI
        obtain ⟨nK, nP, nF, nL, nO, hK, hN, hP, hF, hL, hC, ⟨s1, s2, s3, s4, s5, s6, s7, s8, s9⟩, hB⟩ := hI'
        obtain ⟨p, hp, p1, p2⟩ := hN.1 a ha
        obtain ⟨q, hq, q1, q2⟩ := hN.1 b hb
        have hin1 : vp_in (12 * nI a + nI b) 144 := by rw [nI_12 ha hb]; exact ab_in (by omega) (by decide)
        have hin2 : vp_in (12 * nI b + nI a) 144 := by rw [nI_12 hb ha]; exact ab_in (by omega) (by decide)
        have hcl1 : (12 * nI a + nI b).toNatClampNeg = 12 * a + b := by rw [nI_12 ha hb, ab_cl (by omega)]
        have hcl2 : (12 * nI b + nI a).toNatClampNeg = 12 * b + a := by rw [nI_12 hb ha, ab_cl (by omega)]
        have hval : ab_b (p.testBit b = true) = ab_rd m 50 (12 * a + b) := (p2 b hb).symm
        by_cases hz : ab_rd m 50 (12 * a + b) = v
        · exact ⟨0, _, _, ab_Kc hZ (tk_D_near_0_1 ⟨by decide, ct_D_isColour hZ _ m⟩ (ab_b_n.mpr hx0) ⟨by decide, ct_D_isColour hZ _ m⟩ (ab_b_n.mpr hy0) hxy ⟨by decide, ct_Colours_areNear hZ ha hb hp m p1⟩ (hval.trans hz) ⟨by decide, ct_D_deny hZ 4 _⟩ ⟨rfl, rfl⟩) (Or.inl rfl) (by decide) (Nat.le_of_ble_eq_true rfl), ab_Kc hZ (tk_M_near_0_1 ⟨by decide, ct_M_isColour hZ _ _⟩ (ab_b_n.mpr hx0) ⟨by decide, ct_M_isColour hZ _ _⟩ (ab_b_n.mpr hy0) hxy hin1 (by rw [hcl1]; exact hz) ⟨by decide, ct_M_no hZ 4 _⟩ ⟨rfl, rfl⟩) (Or.inl rfl) (by decide) (Nat.le_of_ble_eq_true rfl), iv_refused hI 4⟩
        · refine ⟨1, _, _, ab_Kc hZ (tk_D_near_0_2 ⟨by decide, ct_D_isColour hZ _ m⟩ (ab_b_n.mpr hx0) ⟨by decide, ct_D_isColour hZ _ m⟩ (ab_b_n.mpr hy0) hxy ⟨by decide, ct_Colours_areNear hZ ha hb hp m p1⟩ (fun e => hz (hval.symm.trans e)) ⟨by decide, ct_Colours_turn hZ ha hb hab m p1 q1⟩ (Or.inr rfl) ⟨by decide, ct_D_grant hZ _⟩ ⟨rfl, rfl⟩) (Or.inr rfl) (by decide) (Nat.le_of_ble_eq_true rfl), ab_Kc hZ (tk_M_near_0_2 ⟨by decide, ct_M_isColour hZ _ _⟩ (ab_b_n.mpr hx0) ⟨by decide, ct_M_isColour hZ _ _⟩ (ab_b_n.mpr hy0) hxy hin1 (by rw [hcl1]; exact hz) ⟨hin1, hv⟩ ⟨hin2, hv⟩ ⟨rfl, rfl⟩) (Or.inr rfl) (by decide) (Nat.le_of_ble_eq_true rfl), ?_⟩
          rw [hcl1, hcl2]
          exact ⟨nK, nP, nF, nL, nO, hK.cong rfl rfl rfl rfl rfl rfl rfl, iv_near hN ha hb hab hp p1 hq q1 p2 q2 hv hz rfl rfl, hP.cong rfl rfl rfl rfl rfl rfl, hF.cong rfl rfl rfl rfl rfl rfl rfl rfl rfl rfl rfl rfl rfl rfl rfl rfl rfl rfl, hL.cong rfl rfl rfl rfl rfl rfl rfl rfl rfl rfl rfl rfl rfl rfl rfl rfl, hC.cong rfl rfl rfl, ⟨rfl, s2, s3, s4, s5, s6, s7, s8, s9⟩, iv_B.old rfl⟩
    · exact ⟨0, _, _, ab_Kc hZ (tk_D_near_0_3 ⟨by decide, ct_D_isColour hZ x m⟩ (ab_b_n.mpr hx) ⟨by decide, ct_D_isColour hZ y m⟩ (ab_b_0.mpr hy) ⟨by decide, ct_D_deny hZ 2 _⟩ ⟨rfl, rfl⟩) (Or.inl rfl) (by decide) (Nat.le_of_ble_eq_true rfl), ab_Kc hZ (tk_M_near_0_3 ⟨by decide, ct_M_isColour hZ x _⟩ (ab_b_n.mpr hx) ⟨by decide, ct_M_isColour hZ y _⟩ (ab_b_0.mpr hy) ⟨by decide, ct_M_no hZ 2 _⟩ ⟨rfl, rfl⟩) (Or.inl rfl) (by decide) (Nat.le_of_ble_eq_true rfl), iv_refused hI 2⟩
  · exact ⟨0, _, _, ab_Kc hZ (tk_D_near_0_4 ⟨by decide, ct_D_isColour hZ x m⟩ (ab_b_0.mpr hx) ⟨by decide, ct_D_deny hZ 2 _⟩ ⟨rfl, rfl⟩) (Or.inl rfl) (by decide) (Nat.le_of_ble_eq_true rfl), ab_Kc hZ (tk_M_near_0_4 ⟨by decide, ct_M_isColour hZ x _⟩ (ab_b_0.mpr hx) ⟨by decide, ct_M_no hZ 2 _⟩ ⟨rfl, rfl⟩) (Or.inl rfl) (by decide) (Nat.le_of_ble_eq_true rfl), iv_refused hI 2⟩
