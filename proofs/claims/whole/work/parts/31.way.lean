/-! ===== stretches written by loops; way ===== -/
/-- the places a .. a + n - 1 of an array, each by its old value -/
def lp_f (m : ab_M) (p a n : Nat) (g : Nat → Int32 → Int32) : ab_M := (va_up m.1 p (fun j => if a ≤ j ∧ j < a + n then g j (m.1 p j) else m.1 p j), m.2)
theorem lp_f_0 (m : ab_M) (p a : Nat) (g : Nat → Int32 → Int32) : lp_f m p a 0 g = m := by
  unfold lp_f
  have : va_up m.1 p (fun j => if a ≤ j ∧ j < a + 0 then g j (m.1 p j) else m.1 p j) = m.1 := by
    funext q j
    unfold va_up
    by_cases e : q = p
    · rw [if_pos e, if_neg (by omega), e]
    · rw [if_neg e]
  rw [this]
theorem lp_f_s (m : ab_M) (p a n : Nat) (g : Nat → Int32 → Int32) {v : Int32} (hv : v = g (a + n) (ab_rd m p (a + n))) : ab_wr (lp_f m p a n g) p (a + n) v = lp_f m p a (n + 1) g := by
  have : ∀ (x : Nat → Nat → Int32) (y : Nat → Nat → Int32), x = y → ((x, m.2) : ab_M) = (y, m.2) := fun x y h => by rw [h]
  refine this _ _ ?_
  funext q j
  unfold va_up
  by_cases e : q = p
  · rw [if_pos e, if_pos e]
    unfold upd
    by_cases h : j = a + n
    · rw [if_pos h, if_pos (by omega), hv, h]
      rfl
    · rw [if_neg h]
      show (lp_f m p a n g).1 p j = _
      unfold lp_f va_up
      show (if p = p then (fun j => if a ≤ j ∧ j < a + n then g j (m.1 p j) else m.1 p j) else m.1 p) j = _
      rw [if_pos rfl]
      by_cases h2 : a ≤ j ∧ j < a + n
      · rw [if_pos h2, if_pos (by omega)]
      · rw [if_neg h2, if_neg (by omega)]
  · rw [if_neg e, if_neg e]
    show (lp_f m p a n g).1 q j = m.1 q j
    unfold lp_f va_up
    show (if q = p then (fun j => if a ≤ j ∧ j < a + n then g j (m.1 p j) else m.1 p j) else m.1 q) j = m.1 q j
    rw [if_neg e]
theorem lp_f_rd (m : ab_M) (p a n : Nat) (g : Nat → Int32 → Int32) (j : Nat) : ab_rd (lp_f m p a n g) p j = if a ≤ j ∧ j < a + n then g j (ab_rd m p j) else ab_rd m p j := by
  show (va_up m.1 p (fun j => if a ≤ j ∧ j < a + n then g j (m.1 p j) else m.1 p j)) p j = _
  unfold va_up
  rw [if_pos rfl]
  rfl
theorem lp_f_n (m : ab_M) {p q : Nat} (a n : Nat) (g : Nat → Int32 → Int32) (h : q ≠ p) : (lp_f m p a n g).1 q = m.1 q := if_neg h
theorem lp_f_rn (m : ab_M) {p q : Nat} (a n : Nat) (g : Nat → Int32 → Int32) (h : q ≠ p) (j : Nat) : ab_rd (lp_f m p a n g) q j = ab_rd m q j := congrFun (lp_f_n m a n g h) j
theorem lp_f_k (m : ab_M) (p a n : Nat) (g : Nat → Int32 → Int32) (hv : g (a + n) (ab_rd m p (a + n)) = ab_rd m p (a + n)) : lp_f m p a n g = lp_f m p a (n + 1) g := by
  have h : ab_wr (lp_f m p a n g) p (a + n) (ab_rd m p (a + n)) = lp_f m p a n g := by
    have : ∀ (x : Nat → Nat → Int32) (y : Nat → Nat → Int32), x = y → ((x, m.2) : ab_M) = (y, m.2) := fun x y h => by rw [h]
    refine this _ _ ?_
    funext q j
    unfold va_up
    by_cases e : q = p
    · rw [if_pos e]
      unfold upd
      by_cases h2 : j = a + n
      · rw [if_pos h2, h2, e]
        have := lp_f_rd m p a n g (a + n)
        rw [if_neg (by omega)] at this
        exact this.symm
      · rw [if_neg h2, e]
        rfl
    · rw [if_neg e]
      rfl
  rw [← lp_f_s m p a n g hv.symm, h]
theorem ct_Places_forgetFar {Z : ab_Z} (hZ : ab_okZ Z) {n : Nat} {m : ab_M} (hn : n ≤ 20) (h : ab_rd m 3 3 = nI n) : ab_C Z 0 50 [.inl (.ref 3)] m none (lp_f m 18 0 n (fun _ _ => 0)) := by
  have lp : ∀ (j i : Nat), i + j = n → ab_T Z 50 0 (2, [(0, .inl (.ref 3)), (1, .inl (.int (nI i)))], [], lp_f m 18 0 i (fun _ _ => 0)) (fun r m9 => r = none ∧ m9 = lp_f m 18 0 n (fun _ _ => 0)) := by
    intro j
    induction j with
    | zero =>
      intro i hi
      have hi : i = n := by omega
      subst hi
      refine tk_Places_forgetFar_2_1 ?_ ⟨rfl, rfl⟩
      rw [lp_f_rn m 0 i _ (by decide), h]
      exact nI_le (Nat.le_refl _) (by omega)
    | succ j ih =>
      intro i hi
      refine tk_Places_forgetFar_2_0 ?_ ⟨ab_in (by omega) (by decide), Or.inl rfl⟩ ?_
      · rw [lp_f_rn m 0 i _ (by decide), h]
        exact nI_ge (by omega) (by omega)
      · rw [ab_cl (by omega), nI_1]
        have := lp_f_s m 18 0 i (fun _ _ => 0) (v := 0) rfl
        rw [Nat.zero_add] at this
        rw [this]
        exact ih (i + 1) (by omega)
  refine ab_Kv hZ (tk_Places_forgetFar_0_0 ?_) trivial (by decide) (Nat.le_of_ble_eq_true rfl)
  have := lp n 0 (by omega)
  rw [lp_f_0] at this
  exact this
theorem ct_Places_setWay {Z : ab_Z} (hZ : ab_okZ Z) {a b n : Nat} {x : Int32} {m : ab_M} (ha : a < 20) (hb : b < 20) (hn : n ≤ 20) (h : ab_rd m 3 3 = nI n) : ab_C Z 1 48 [.inl (.ref 3), .inl (.int (nI a)), .inl (.int (nI b)), .inl (.int x)] m none (lp_f (ab_wr (ab_wr m 16 (a * 20 + b) x) 16 (b * 20 + a) x) 18 0 n (fun _ _ => 0)) := by
  have hia := ab_in (N := 20) ha (by decide)
  have hib := ab_in (N := 20) hb (by decide)
  have hca := ab_cl (n := a) (by omega)
  have hcb := ab_cl (n := b) (by omega)
  refine ab_Kv hZ (tk_Places_setWay_0_0 hia ⟨hia, hib⟩ hib ⟨hib, hia⟩ ⟨(by decide : 0 < 1), ?_⟩ ⟨rfl, rfl⟩) trivial (by decide) (Nat.le_of_ble_eq_true rfl)
  rw [hca, hcb]
  exact ct_Places_forgetFar hZ hn h
theorem nI_20 {a b : Nat} (ha : a < 20) (hb : b < 20) : 20 * nI a + nI b = nI (20 * a + b) := by
  have : (20 : Int32) = nI 20 := rfl
  rw [this, pk_mul, nI_add]
theorem iv_way {m : ab_M} {n : Nat} (hP : iv_P m n) {a b : Nat} (ha : a < n) (hb : b < n) (hab : a ≠ b) {t w : Int32} (htw : (t = -1 ∧ w = 100000000) ∨ ∃ e : Nat, 1 ≤ e ∧ e ≤ 1000 ∧ t = nI e ∧ w = nI e) {m1 : ab_M} (e1 : m1.1 16 = (ab_wr (ab_wr m 16 (a * 20 + b) t) 16 (b * 20 + a) t).1 16) (e2 : m1.1 51 = (ab_wr (ab_wr m 51 (20 * a + b) w) 51 (20 * b + a) w).1 51) (e3 : m1.1 18 = (lp_f m 18 0 n (fun _ _ => 0)).1 18) (c1 : ab_rd m1 3 3 = ab_rd m 3 3) (c2 : ab_rd m1 8 3 = ab_rd m 8 3) : iv_P m1 n := by
  obtain ⟨g1, g2, g3, g4, g5, g6, g7, g8, g9⟩ := hP
  have r1 : ∀ i, ab_rd m1 16 i = if i = b * 20 + a then t else if i = a * 20 + b then t else ab_rd m 16 i := by
    intro i
    rw [iv_rdc e1, ab_rd_p, ab_rd_p]
  have r2 : ∀ i, ab_rd m1 51 i = if i = 20 * b + a then w else if i = 20 * a + b then w else ab_rd m 51 i := by
    intro i
    rw [iv_rdc e2, ab_rd_p, ab_rd_p]
  have r3 : ∀ i, ab_rd m1 18 i = if i < n then 0 else ab_rd m 18 i := by
    intro i
    rw [iv_rdc e3, lp_f_rd]
    by_cases q : i < n
    · rw [if_pos q, if_pos (by omega)]
    · rw [if_neg q, if_neg (by omega)]
  refine ⟨g1, c1.trans g2, c2.trans g3, fun c d hc hd => ?_, fun c d hc hd => ?_, fun c d hc h20 hd => ?_, fun c hc => ?_, fun c h1 h2 => ?_, fun c hc hz => ?_⟩
  · rw [r1, r2]
    by_cases q : (c = b ∧ d = a) ∨ (c = a ∧ d = b)
    · have k1 : c * 20 + d = b * 20 + a ∨ c * 20 + d = a * 20 + b := by
        rcases q with ⟨q1, q2⟩ | ⟨q1, q2⟩ <;> subst q1 <;> subst q2
        · exact Or.inl rfl
        · exact Or.inr rfl
      have k2 : 20 * c + d = 20 * b + a ∨ 20 * c + d = 20 * a + b := by omega
      have z1 : (if c * 20 + d = b * 20 + a then t else if c * 20 + d = a * 20 + b then t else ab_rd m 16 (c * 20 + d)) = t := by
        by_cases y : c * 20 + d = b * 20 + a
        · rw [if_pos y]
        · rw [if_neg y, if_pos (by omega)]
      have z2 : (if 20 * c + d = 20 * b + a then w else if 20 * c + d = 20 * a + b then w else ab_rd m 51 (20 * c + d)) = w := by
        by_cases y : 20 * c + d = 20 * b + a
        · rw [if_pos y]
        · rw [if_neg y, if_pos (by omega)]
      rw [z1, z2]
      exact htw
    · rw [if_neg (by omega), if_neg (by omega), if_neg (by omega), if_neg (by omega)]
      exact g4 c d hc hd
  · rw [r1, r1]
    by_cases q : c = a ∧ d = b
    · rw [if_neg (by omega), if_pos (by omega), if_pos (by omega)]
    · by_cases q2 : c = b ∧ d = a
      · rw [if_pos (by omega), if_neg (by omega), if_pos (by omega)]
      · rw [if_neg (by omega), if_neg (by omega), if_neg (by omega), if_neg (by omega)]
        exact g5 c d hc hd
  · rw [r1, if_neg (by omega), if_neg (by omega)]
    exact g6 c d hc h20 hd
  · rw [r3]
    by_cases q : c < n
    · rw [if_pos q]
      exact Or.inl rfl
    · rw [if_neg q]
      exact g7 c hc
  · rw [r3, if_neg (by omega)]
    exact g8 c h1 h2
  · rw [r3, if_pos hc] at hz
    exact absurd rfl hz
theorem op_way {Z : ab_Z} (hZ : ab_okZ Z) (x y v : Int32) {m : ab_M} (hI : iv_A m) : iv_Op Z 58 105 [.inl (.int x), .inl (.int y), .inl (.int v)] m := by
  have hI' := hI
  obtain ⟨nK, nP, nF, nL, nO, hK, hN, hP, hF, hL, hC, ⟨s1, s2, s3, s4, s5, s6, s7, s8, s9⟩, hB⟩ := hI'
  obtain ⟨g1, g2, g3, g4, g5, g6, -⟩ := id hP
  have cD : (ab_rd m 3 3).toInt = nP := iv_toI g2 (by omega)
  have cM : (ab_rd m 8 3).toInt = nP := iv_toI g3 (by omega)
  have e1 : (1 : Int32).toInt = 1 := rfl
  have e2 : (1000 : Int32).toInt = 1000 := rfl
  have hasD : ∀ z : Int32, (0 ≤ z.toInt ∧ z.toInt < nP) → ¬ ab_b (0 ≤ z.toInt ∧ z.toInt < (ab_rd m 3 3).toInt) = 0 := fun z h => ab_b_n.mpr (by rw [cD]; exact h)
  have hasM : ∀ z : Int32, (0 ≤ z.toInt ∧ z.toInt < nP) → ¬ ab_b (0 ≤ z.toInt ∧ z.toInt < (ab_rd m 8 3).toInt) = 0 := fun z h => ab_b_n.mpr (by rw [cM]; exact h)
  have notD : ∀ z : Int32, ¬ (0 ≤ z.toInt ∧ z.toInt < nP) → ab_b (0 ≤ z.toInt ∧ z.toInt < (ab_rd m 3 3).toInt) = 0 := fun z h => ab_b_0.mpr (by rw [cD]; exact h)
  have notM : ∀ z : Int32, ¬ (0 ≤ z.toInt ∧ z.toInt < nP) → ab_b (0 ≤ z.toInt ∧ z.toInt < (ab_rd m 8 3).toInt) = 0 := fun z h => ab_b_0.mpr (by rw [cM]; exact h)
  by_cases hx : 0 ≤ x.toInt ∧ x.toInt < nP
  · by_cases hy : 0 ≤ y.toInt ∧ y.toInt < nP
    · by_cases hxy : x = y
      · exact ⟨0, _, _, ab_Kc hZ (tk_D_way_0_0 ⟨by decide, ct_Places_has hZ x m⟩ (hasD x hx) ⟨by decide, ct_Places_has hZ y m⟩ (hasD y hy) hxy ⟨by decide, ct_D_deny hZ 1 _⟩ ⟨rfl, rfl⟩) (Or.inl rfl) (by decide) (Nat.le_of_ble_eq_true rfl), ab_Kc hZ (tk_M_way_0_0 ⟨by decide, ct_M_isPlace hZ x _⟩ (hasM x hx) ⟨by decide, ct_M_isPlace hZ y _⟩ (hasM y hy) hxy ⟨by decide, ct_M_no hZ 1 _⟩ ⟨rfl, rfl⟩) (Or.inl rfl) (by decide) (Nat.le_of_ble_eq_true rfl), iv_refused hI 1⟩
      · have hx0 := hx
        have hy0 := hy
        obtain ⟨a, ha, rfl⟩ := iv_ix hx (by omega)
        obtain ⟨b, hb, rfl⟩ := iv_ix hy (by omega)
        have hab : a ≠ b := fun q => hxy (by rw [q])
        have hin1 : vp_in (20 * nI a + nI b) 400 := by rw [nI_20 (by omega) (by omega)]; exact ab_in (by omega) (by decide)
        have hin2 : vp_in (20 * nI b + nI a) 400 := by rw [nI_20 (by omega) (by omega)]; exact ab_in (by omega) (by decide)
        have hcl1 : (20 * nI a + nI b).toNatClampNeg = 20 * a + b := by rw [nI_20 (by omega) (by omega), ab_cl (by omega)]
        have hcl2 : (20 * nI b + nI a).toNatClampNeg = 20 * b + a := by rw [nI_20 (by omega) (by omega), ab_cl (by omega)]
        have hset := fun z : Int32 => ct_Places_setWay hZ (a := a) (b := b) (x := z) (m := m) (by omega) (by omega) g1 g2
        have hway := ct_Places_hasWay hZ (a := a) (b := b) (by omega) (by omega) m
        have fin : ∀ (z w : Int32), ((z = -1 ∧ w = 100000000) ∨ ∃ e : Nat, 1 ≤ e ∧ e ≤ 1000 ∧ z = nI e ∧ w = nI e) → iv_A (ab_wr (ab_wr (iv_m0 (ab_wr (ab_wr (lp_f (ab_wr (ab_wr m 16 (a * 20 + b) z) 16 (b * 20 + a) z) 18 0 nP (fun _ _ => 0)) 0 14 1) 0 11 0)) 51 (20 * a + b) w) 51 (20 * b + a) w) := by
          intro z w hzw
          exact ⟨nK, nP, nF, nL, nO, hK.cong rfl rfl rfl rfl rfl rfl rfl, hN.cong rfl rfl, iv_way hP ha hb hab hzw rfl rfl rfl rfl rfl, hF.cong rfl rfl rfl rfl rfl rfl rfl rfl rfl rfl rfl rfl rfl rfl rfl rfl rfl rfl, hL.cong rfl rfl rfl rfl rfl rfl rfl rfl rfl rfl rfl rfl rfl rfl rfl rfl, hC.cong rfl rfl rfl, ⟨rfl, s2, s3, s4, s5, s6, s7, s8, s9⟩, iv_B.old rfl⟩
        by_cases hv : v = -1
        · by_cases hw : ab_rd m 16 (a * 20 + b) = -1
          · have hwM : ab_rd m 51 (20 * a + b) = 100000000 := by
              rcases g4 a b ha hb with ⟨-, q⟩ | ⟨e, q1, q2, q3, -⟩
              · exact q
              · rw [hw, ab_eqI, nI_toInt (by omega), ab_m1] at q3
                omega
            exact ⟨0, _, _, ab_Kc hZ (tk_D_way_0_5 ⟨by decide, ct_Places_has hZ _ m⟩ (hasD _ hx0) ⟨by decide, ct_Places_has hZ _ m⟩ (hasD _ hy0) hxy hv hv ⟨by decide, hway⟩ (ab_b_f (fun q => q hw)) ⟨by decide, ct_D_deny hZ 7 _⟩ ⟨rfl, rfl⟩) (Or.inl rfl) (by decide) (Nat.le_of_ble_eq_true rfl), ab_Kc hZ (tk_M_way_0_8 ⟨by decide, ct_M_isPlace hZ _ _⟩ (hasM _ hx0) ⟨by decide, ct_M_isPlace hZ _ _⟩ (hasM _ hy0) hxy hv hv hin1 (by rw [hcl1]; exact hwM) ⟨by decide, ct_M_no hZ 7 _⟩ ⟨rfl, rfl⟩) (Or.inl rfl) (by decide) (Nat.le_of_ble_eq_true rfl), iv_refused hI 7⟩
          · have hwM : ¬ ab_rd m 51 (20 * a + b) = 100000000 := by
              rcases g4 a b ha hb with ⟨q, -⟩ | ⟨e, q1, q2, -, q4⟩
              · exact absurd q hw
              · rw [q4, ab_eqI, nI_toInt (by omega)]
                have : (100000000 : Int32).toInt = 100000000 := rfl
                omega
            refine ⟨1, _, _, ab_Kc hZ (tk_D_way_0_6 ⟨by decide, ct_Places_has hZ _ m⟩ (hasD _ hx0) ⟨by decide, ct_Places_has hZ _ m⟩ (hasD _ hy0) hxy hv hv ⟨by decide, hway⟩ (ab_b_n.mpr hw) ⟨by decide, hset v⟩ (Or.inr rfl) ⟨by decide, ct_D_grant hZ _⟩ ⟨rfl, rfl⟩) (Or.inr rfl) (by decide) (Nat.le_of_ble_eq_true rfl), ab_Kc hZ (tk_M_way_0_9 ⟨by decide, ct_M_isPlace hZ _ _⟩ (hasM _ hx0) ⟨by decide, ct_M_isPlace hZ _ _⟩ (hasM _ hy0) hxy hv hv hin1 (by rw [hcl1]; exact hwM) hv hin1 hin1 hin2 ⟨rfl, rfl⟩) (Or.inr rfl) (by decide) (Nat.le_of_ble_eq_true rfl), ?_⟩
            rw [hcl1, hcl2, ab_rd_s]
            exact fin v _ (Or.inl ⟨hv, rfl⟩)
        · by_cases hw : 1 ≤ v.toInt ∧ v.toInt ≤ 1000
          · refine ⟨1, _, _, ab_Kc hZ (tk_D_way_0_4 ⟨by decide, ct_Places_has hZ _ m⟩ (hasD _ hx0) ⟨by decide, ct_Places_has hZ _ m⟩ (hasD _ hy0) hxy hv ⟨by decide, ct_D_isWithin hZ v 1 1000 m⟩ (ab_b_n.mpr hw) hv ⟨by decide, hset v⟩ (Or.inr rfl) ⟨by decide, ct_D_grant hZ _⟩ ⟨rfl, rfl⟩) (Or.inr rfl) (by decide) (Nat.le_of_ble_eq_true rfl), ab_Kc hZ (tk_M_way_0_6 ⟨by decide, ct_M_isPlace hZ _ _⟩ (hasM _ hx0) ⟨by decide, ct_M_isPlace hZ _ _⟩ (hasM _ hy0) hxy hv (by rw [ab_ltI, e1]; omega) (by rw [ab_leI, e2]; omega) hv hv hin1 hin1 hin2 ⟨rfl, rfl⟩) (Or.inr rfl) (by decide) (Nat.le_of_ble_eq_true rfl), ?_⟩
            rw [hcl1, hcl2, ab_rd_s]
            have hve : v = nI v.toInt.toNat := by
              rw [ab_eqI, nI_toInt (by omega)]
              omega
            exact fin v _ (Or.inr ⟨v.toInt.toNat, by omega, by omega, hve, hve⟩)
          · refine ⟨0, _, _, ab_Kc hZ (tk_D_way_0_1 ⟨by decide, ct_Places_has hZ _ m⟩ (hasD _ hx0) ⟨by decide, ct_Places_has hZ _ m⟩ (hasD _ hy0) hxy hv ⟨by decide, ct_D_isWithin hZ v 1 1000 m⟩ (ab_b_0.mpr hw) ⟨by decide, ct_D_deny hZ 2 _⟩ ⟨rfl, rfl⟩) (Or.inl rfl) (by decide) (Nat.le_of_ble_eq_true rfl), ab_Kc hZ ?_ (Or.inl rfl) (by decide) (Nat.le_of_ble_eq_true rfl), iv_refused hI 2⟩
            by_cases hz : v < 1
            · exact tk_M_way_0_7 ⟨by decide, ct_M_isPlace hZ _ _⟩ (hasM _ hx0) ⟨by decide, ct_M_isPlace hZ _ _⟩ (hasM _ hy0) hxy hv hz ⟨by decide, ct_M_no hZ 2 _⟩ ⟨rfl, rfl⟩
            · exact tk_M_way_0_1 ⟨by decide, ct_M_isPlace hZ _ _⟩ (hasM _ hx0) ⟨by decide, ct_M_isPlace hZ _ _⟩ (hasM _ hy0) hxy hv hz (by rw [ab_ltI, e1] at hz; rw [ab_leI, e2]; omega) ⟨by decide, ct_M_no hZ 2 _⟩ ⟨rfl, rfl⟩
    · exact ⟨0, _, _, ab_Kc hZ (tk_D_way_0_8 ⟨by decide, ct_Places_has hZ x m⟩ (hasD x hx) ⟨by decide, ct_Places_has hZ y m⟩ (notD y hy) ⟨by decide, ct_D_deny hZ 1 _⟩ ⟨rfl, rfl⟩) (Or.inl rfl) (by decide) (Nat.le_of_ble_eq_true rfl), ab_Kc hZ (tk_M_way_0_13 ⟨by decide, ct_M_isPlace hZ x _⟩ (hasM x hx) ⟨by decide, ct_M_isPlace hZ y _⟩ (notM y hy) ⟨by decide, ct_M_no hZ 1 _⟩ ⟨rfl, rfl⟩) (Or.inl rfl) (by decide) (Nat.le_of_ble_eq_true rfl), iv_refused hI 1⟩
  · exact ⟨0, _, _, ab_Kc hZ (tk_D_way_0_9 ⟨by decide, ct_Places_has hZ x m⟩ (notD x hx) ⟨by decide, ct_D_deny hZ 1 _⟩ ⟨rfl, rfl⟩) (Or.inl rfl) (by decide) (Nat.le_of_ble_eq_true rfl), ab_Kc hZ (tk_M_way_0_14 ⟨by decide, ct_M_isPlace hZ x _⟩ (notM x hx) ⟨by decide, ct_M_no hZ 1 _⟩ ⟨rfl, rfl⟩) (Or.inl rfl) (by decide) (Nat.le_of_ble_eq_true rfl), iv_refused hI 1⟩
