/-! ===== steps between kinds ===== -/
theorem kd_bit {up : Nat → Int32} {n : Nat} (h : kd_ok up n) (hn : n ≤ 2 ^ 30) (j : Nat) : ∀ (f k : Nat), k < n → k < f → (kd_line up f k).testBit j = (kd_up up f k j).isSome
  | 0, _, _, h0 => absurd h0 (by omega)
  | f + 1, k, hk, hf => by
    have tb : ∀ r, r < 2 ^ k → ¬ k = j → (2 ^ k + r).testBit j = r.testBit j := fun r hr hj => by
      have := Nat.testBit_two_pow_mul_add 1 hr j
      rw [Nat.mul_one] at this
      rw [this]
      by_cases q : j < k
      · rw [if_pos q]
      · rw [if_neg q, Nat.testBit_lt_two_pow (Nat.one_lt_two_pow (by omega)), Nat.testBit_lt_two_pow (Nat.lt_of_lt_of_le hr (Nat.pow_le_pow_right (by decide) (by omega)))]
    have tk : ∀ r, r < 2 ^ k → (2 ^ k + r).testBit k = true := fun r hr => by
      have := Nat.testBit_two_pow_mul_add 1 hr k
      rw [Nat.mul_one] at this
      rw [this, if_neg (Nat.lt_irrefl k), Nat.sub_self]
      rfl
    unfold kd_line kd_up
    rcases kd_cases h hk hn with ⟨h1, -⟩ | ⟨h1, i, hi, -, h2⟩
    · rw [if_pos h1, if_pos h1]
      by_cases e : k = j
      · rw [if_pos e, ← e, tk 0 (Nat.two_pow_pos k)]
        rfl
      · rw [if_neg e, tb 0 (Nat.two_pow_pos k) e, Nat.zero_testBit]
        rfl
    · rw [if_neg h1, if_neg h1, h2]
      have hlt : kd_line up f i < 2 ^ k := Nat.lt_of_lt_of_le (kd_line_lt h hn f i (by omega)) (Nat.pow_le_pow_right (by decide) (by omega))
      by_cases e : k = j
      · rw [if_pos e, ← e, tk _ hlt]
        rfl
      · rw [if_neg e, tb _ hlt e, kd_bit h hn j f i (by omega) (by omega), Option.isSome_map]
theorem kd_cnt {up : Nat → Int32} {n : Nat} (h : kd_ok up n) (hn : n ≤ 40) (t : Nat) : ∀ (f k s : Nat), k < n → k < f → kd_up up f k t = some s → pp_bs (kd_line up f k) 40 = pp_bs (kd_line up 41 t) 40 + s
  | 0, _, _, _, h0, _ => absurd h0 (by omega)
  | f + 1, k, s, hk, hf, e0 => by
    unfold kd_up at e0
    by_cases e : k = t
    · rw [if_pos e] at e0
      have : s = 0 := by
        injection e0 with e0
        exact e0.symm
      rw [this, ← e, kd_line_fuel h (by omega) k (f + 1) 41 hk hf (by omega)]
      rfl
    · rw [if_neg e] at e0
      rcases kd_cases h hk (by omega) with ⟨h1, -⟩ | ⟨h1, i, hi, -, h2⟩
      · rw [if_pos h1] at e0
        cases e0
      · rw [if_neg h1, h2] at e0
        cases e1 : kd_up up f i t with
        | none =>
          rw [e1] at e0
          cases e0
        | some s' =>
          rw [e1] at e0
          have es : s' + 1 = s := by
            injection e0
          have ih := kd_cnt h hn t f i s' (by omega) (by omega) e1
          have hlt : kd_line up f i < 2 ^ k := Nat.lt_of_lt_of_le (kd_line_lt h (by omega) f i (by omega)) (Nat.pow_le_pow_right (by decide) (by omega))
          show pp_bs (2 ^ k + (if up k < 0 then 0 else kd_line up f (up k).toNatClampNeg)) 40 = _
          rw [if_neg h1, h2, pp_add hlt 40 (by omega), ih]
          omega
def kd_i (x : Option Nat) : Int32 := match x with
  | none => -1
  | some n => nI n
theorem kd_up_lt {up : Nat → Int32} (t : Nat) : ∀ (f k s : Nat), kd_up up f k t = some s → s < f
  | 0, _, _, e0 => by cases e0
  | f + 1, k, s, e0 => by
    unfold kd_up at e0
    by_cases e : k = t
    · rw [if_pos e] at e0
      injection e0 with e0
      omega
    · rw [if_neg e] at e0
      by_cases h1 : up k < 0
      · rw [if_pos h1] at e0
        cases e0
      · rw [if_neg h1] at e0
        cases e1 : kd_up up f (up k).toNatClampNeg t with
        | none =>
          rw [e1] at e0
          cases e0
        | some s' =>
          rw [e1] at e0
          have := kd_up_lt t f _ s' e1
          have es : s' + 1 = s := by
            injection e0
          omega
theorem kd_st_lt {up : Nat → Int32} {a b s : Nat} (h : kd_st up a b = some s) : s < 41 := by
  unfold kd_st at h
  cases e : kd_up up 41 a b with
  | some s' =>
    rw [e] at h
    have := kd_up_lt b 41 a s' e
    injection h with h
    omega
  | none =>
    rw [e] at h
    exact kd_up_lt a 41 b s h
theorem kd_i_I {x : Option Nat} (h : ∀ s, x = some s → s < 41) : (kd_i x).toInt = iv_on x := by
  cases x with
  | none => rfl
  | some s =>
    have := h s rfl
    show (nI s).toInt = (s : Int)
    exact nI_toInt (by omega)
theorem kd_i_m1 {x : Option Nat} (h : ∀ s, x = some s → s < 41) : kd_i x = -1 ↔ x = none := by
  cases x with
  | none => exact ⟨fun _ => rfl, fun _ => rfl⟩
  | some s =>
    have := h s rfl
    refine ⟨fun q => ?_, fun q => by cases q⟩
    have q : nI s = -1 := q
    rw [ab_eqI, nI_toInt (by omega), ab_m1] at q
    omega
theorem kd_i_lt {x : Option Nat} (h : ∀ s, x = some s → s < 41) : kd_i x < 0 ↔ x = none := by
  rw [ab_ltI, kd_i_I h, ab_t0]
  cases x with
  | none => exact ⟨fun _ => rfl, fun _ => (by decide : (-1 : Int) < 0)⟩
  | some s => exact ⟨fun q => absurd q (by show ¬ (s : Int) < 0; omega), fun q => by cases q⟩
theorem lg_bit {n b : Nat} (hn : n < 2 ^ 40) (hb : b < 40) : lg_cmp (((lN n).toUInt64 >>> ((nI b).toInt64.toUInt64 &&& Int64.toUInt64 63)).toInt64 &&& ab_lc 1) (ab_lc 0) = 0 ↔ n.testBit b = false := by
  rw [pp_ush (by omega) (by omega), show ab_lc 1 = lN 1 from rfl, pp_andL, Nat.and_one_is_mod]
  have h2 : n / 2 ^ b % 2 = (n.testBit b).toNat := by
    rw [Nat.toNat_testBit]
  rw [h2]
  cases n.testBit b
  · exact ⟨fun _ => rfl, fun _ => by decide⟩
  · exact ⟨fun q => absurd q (by decide), fun q => by cases q⟩
theorem kd_abs (a b : Nat) (ha : a < 2 ^ 30) (hb : b < 2 ^ 30) {s : Nat} (h : a = b + s ∨ b = a + s) : ab_abs (nI a - nI b) = nI s := by
  have e := pk_sub_toInt ha hb
  unfold ab_abs
  rcases h with h | h
  · rw [if_pos (by rw [ab_leI, e, ab_t0]; omega), ab_eqI, e, nI_toInt (by omega)]
    omega
  · by_cases q : s = 0
    · rw [if_pos (by rw [ab_leI, e, ab_t0]; omega), ab_eqI, e, nI_toInt (by omega)]
      omega
    · rw [if_neg (by rw [ab_leI, e, ab_t0]; omega), ab_eqI, Int32.toInt_neg, e, nI_toInt (by omega), ab_bm (by omega) (by omega)]
      omega
theorem ct_Kinds_steps {Z : ab_Z} (hZ : ab_okZ Z) {a b n : Nat} {m : ab_M} {up : Nat → Int32} (hn : n ≤ 40) (hok : kd_ok up n) (hl : ∀ k, k < n → ab_rl m 13 k = lN (kd_line up 41 k)) (ha : a < n) (hb : b < n) : ab_C Z 1 14 [.inl (.ref 1), .inl (.int (nI a)), .inl (.int (nI b))] m (some (kd_i (kd_st up a b))) m := by
  have hia := ab_in (n := a) (N := 40) (by omega) (by decide)
  have hib := ab_in (n := b) (N := 40) (by omega) (by decide)
  have hca := ab_cl (n := a) (by omega)
  have hcb := ab_cl (n := b) (by omega)
  have lt : ∀ k, k < n → kd_line up 41 k < 2 ^ 40 := fun k hk => Nat.lt_of_lt_of_le (kd_line_lt hok (by omega) 41 k hk) (Nat.pow_le_pow_right (by decide) (by omega))
  have tab := kd_bit hok (by omega) b 41 a ha (by omega)
  have tba := kd_bit hok (by omega) a 41 b hb (by omega)
  have ba := lg_bit (lt a ha) (show b < 40 by omega)
  have bb := lg_bit (lt b hb) (show a < 40 by omega)
  have bla := ct_J_bitCountL hZ (lN (kd_line up 41 a)) m
  have blb := ct_J_bitCountL hZ (lN (kd_line up 41 b)) m
  rw [pp_long (lt a ha)] at bla
  rw [pp_long (lt b hb)] at blb
  have l1 := pp_8 (kd_line up 41 a) 40
  have l2 := pp_8 (kd_line up 41 b) 40
  refine ab_Kc hZ ?_ trivial (by decide) (Nat.le_of_ble_eq_true rfl)
  unfold kd_st
  cases e : kd_up up 41 a b with
  | some s =>
    have hc := kd_cnt hok hn b 41 a s ha (by omega) e
    have tt : ¬ (kd_line up 41 a).testBit b = false := fun q => by rw [tab, e] at q; cases q
    refine tk_Kinds_steps_0_4 hia (by rw [hca, hl a ha]; exact fun q => tt (ba.mp q)) (by decide) hia ⟨(by decide : 0 < 1), by rw [hca, hl a ha]; exact bla⟩ hib ⟨(by decide : 0 < 1), by rw [hcb, hl b hb]; exact blb⟩ ⟨(by decide : 0 < 1), ct_J_abs hZ _ m⟩ ⟨?_, rfl⟩
    rw [kd_abs _ _ (by omega) (by omega) (Or.inl hc)]
    rfl
  | none =>
    have tf : (kd_line up 41 a).testBit b = false := by rw [tab, e]; rfl
    cases e2 : kd_up up 41 b a with
    | some s =>
      have hc := kd_cnt hok hn a 41 b s hb (by omega) e2
      have tt : ¬ (kd_line up 41 b).testBit a = false := fun q => by rw [tba, e2] at q; cases q
      refine tk_Kinds_steps_0_0 hia (by rw [hca, hl a ha]; exact ba.mpr tf) hib (by rw [hcb, hl b hb]; exact fun q => tt (bb.mp q)) (by decide) hia ⟨(by decide : 0 < 1), by rw [hca, hl a ha]; exact bla⟩ hib ⟨(by decide : 0 < 1), by rw [hcb, hl b hb]; exact blb⟩ ⟨(by decide : 0 < 1), ct_J_abs hZ _ m⟩ ⟨?_, rfl⟩
      rw [kd_abs _ _ (by omega) (by omega) (Or.inr hc)]
      rfl
    | none =>
      have tf2 : (kd_line up 41 b).testBit a = false := by rw [tba, e2]; rfl
      exact tk_Kinds_steps_0_3 hia (by rw [hca, hl a ha]; exact ba.mpr tf) hib (by rw [hcb, hl b hb]; exact bb.mpr tf2) rfl ⟨rfl, rfl⟩
/-- the reference's -/
theorem ct_M_below {Z : ab_Z} (hZ : ab_okZ Z) {a b n : Nat} {m : ab_M} (hn : n ≤ 40) (hok : kd_ok (ab_rd m 48) n) (ha : a < n) (hb : b < n) : ab_C Z 0 113 [.inl (.ref 8), .inl (.int (nI a)), .inl (.int (nI b))] m (some (kd_i (kd_up (ab_rd m 48) 41 a b))) m := by
  have lp : ∀ (f k c : Nat), k < n → k < f → c + f ≤ 41 → ab_T Z 113 0 (5, [(0, .inl (.ref 8)), (1, .inl (.int (nI a))), (2, .inl (.int (nI b))), (3, .inl (.int (nI c))), (4, .inl (.int (nI k)))], [], m) (fun r m9 => r = some (kd_i ((kd_up (ab_rd m 48) f k b).map (fun j => j + c))) ∧ m9 = m) := by
    intro f
    induction f with
    | zero => intro k c _ h _; omega
    | succ f ih =>
      intro k c hk hf hc
      unfold kd_up
      by_cases e : k = b
      · rw [if_pos e]
        refine tk_M_below_5_2 (nI_pos (by omega)) ((nI_eq (by omega) (by omega)).mpr e) (nI_pos' (by omega)) ⟨?_, rfl⟩
        show some (nI c) = some (nI (0 + c))
        rw [Nat.zero_add]
      · rw [if_neg e]
        refine tk_M_below_5_0 (nI_pos (by omega)) (fun q => e ((nI_eq (by omega) (by omega)).mp q)) (ab_in (by omega) (by decide)) ?_
        rw [ab_cl (by omega), nI_1]
        rcases kd_cases hok hk (by omega) with ⟨h1, -, h3⟩ | ⟨h1, i, hi, h3, h2⟩
        · rw [if_pos h1, h3]
          exact tk_M_below_5_3 (by decide) (by decide) ⟨rfl, rfl⟩
        · rw [if_neg h1, h2, h3]
          have := ih i (c + 1) (by omega) (by omega) (by omega)
          rw [Option.map_map]
          have ef : ((fun j => j + c) ∘ fun j => j + 1) = fun j => j + (c + 1) := by
            funext j
            show j + 1 + c = j + (c + 1)
            omega
          rw [ef]
          exact this
  have := lp 41 a 0 ha (by omega) (by omega)
  have ef : (fun j : Nat => j + 0) = id := by
    funext j
    rfl
  rw [ef, Option.map_id] at this
  exact ab_Kc hZ (tk_M_below_0_0 this) trivial (by decide) (Nat.le_of_ble_eq_true rfl)
