/-! ===== how many bits a number has ===== -/
def pp_bs (n N : Nat) : Nat := cn_of (fun j => n.testBit j = true) N
theorem pp_split (h : Nat) {l : Nat} (hl : l < 2 ^ 8) : ∀ N, pp_bs (2 ^ 8 * h + l) (8 + N) = pp_bs l 8 + pp_bs h N
  | 0 => by
    show cn_of _ 8 = cn_of _ 8 + 0
    rw [Nat.add_zero]
    refine cn_cong (fun k hk => ?_)
    rw [Nat.testBit_two_pow_mul_add _ hl, if_pos hk]
  | N + 1 => by
    have ih := pp_split h hl N
    show pp_bs (2 ^ 8 * h + l) (8 + N) + (if (2 ^ 8 * h + l).testBit (8 + N) = true then 1 else 0) = pp_bs l 8 + (pp_bs h N + (if h.testBit N = true then 1 else 0))
    rw [ih, Nat.testBit_two_pow_mul_add _ hl, if_neg (show ¬ 8 + N < 8 by omega), show 8 + N - 8 = N by omega]
    omega
theorem pp_and (h M : Nat) {l n : Nat} (hl : l < 2 ^ 8) (hn : n < 2 ^ 8) : (2 ^ 8 * h + l) &&& (2 ^ 8 * M + n) = 2 ^ 8 * (h &&& M) + (l &&& n) := by
  apply Nat.eq_of_testBit_eq
  intro i
  have hln : l &&& n < 2 ^ 8 := Nat.and_lt_two_pow _ hn
  rw [Nat.testBit_and, Nat.testBit_two_pow_mul_add _ hl, Nat.testBit_two_pow_mul_add _ hn, Nat.testBit_two_pow_mul_add _ hln]
  by_cases q : i < 8
  · rw [if_pos q, if_pos q, if_pos q, Nat.testBit_and]
  · rw [if_neg q, if_neg q, if_neg q, Nat.testBit_and]
def pp_m (b : Nat) : Nat → Nat
  | 0 => 0
  | N + 1 => 2 ^ 8 * pp_m b N + b
def pp_A (N x : Nat) : Nat := x - ((x / 2) &&& pp_m 85 N)
def pp_B (N y : Nat) : Nat := (y &&& pp_m 51 N) + ((y / 4) &&& pp_m 51 N)
def pp_C (N y : Nat) : Nat := (y + y / 16) &&& pp_m 15 N
theorem pp_a1 : ∀ l, l < 256 → ∀ b, b < 2 → (l / 2 + 128 * b) &&& 85 = (l / 2) &&& pp_m 85 1 := by decide +kernel
theorem pp_b1 : ∀ l, l < 256 → ∀ b, b < 4 → (l / 4 + 64 * b) &&& 51 = (l / 4) &&& pp_m 51 1 := by decide +kernel
theorem pp_c1 : ∀ l, l < 69 → ∀ b, b < 5 → (l + l / 16 + 16 * b) &&& 15 = (l + l / 16) &&& pp_m 15 1 := by decide +kernel
theorem pp_f1 : ∀ l, l < 256 → pp_A 1 l < 256 ∧ pp_B 1 (pp_A 1 l) < 69 ∧ pp_B 1 (pp_A 1 l) % 16 < 5 ∧ pp_C 1 (pp_B 1 (pp_A 1 l)) = pp_bs l 8 := by decide +kernel
theorem pp_a (N h : Nat) {l : Nat} (hl : l < 256) : pp_A (N + 1) (2 ^ 8 * h + l) = 2 ^ 8 * pp_A N h + pp_A 1 l := by
  have e : (2 ^ 8 * h + l) / 2 = 2 ^ 8 * (h / 2) + (l / 2 + 128 * (h % 2)) := by omega
  have e2 : ((2 ^ 8 * h + l) / 2) &&& pp_m 85 (N + 1) = 2 ^ 8 * ((h / 2) &&& pp_m 85 N) + ((l / 2) &&& pp_m 85 1) := by
    rw [e, ← pp_a1 l hl (h % 2) (by omega)]
    exact pp_and _ _ (by omega) (by decide)
  have h1 : (h / 2) &&& pp_m 85 N ≤ h / 2 := Nat.and_le_left
  have h2 : (l / 2) &&& pp_m 85 1 ≤ l / 2 := Nat.and_le_left
  unfold pp_A
  rw [e2]
  omega
theorem pp_b (N h : Nat) {l : Nat} (hl : l < 256) : pp_B (N + 1) (2 ^ 8 * h + l) = 2 ^ 8 * pp_B N h + pp_B 1 l := by
  have e : (2 ^ 8 * h + l) / 4 = 2 ^ 8 * (h / 4) + (l / 4 + 64 * (h % 4)) := by omega
  have e2 : ((2 ^ 8 * h + l) / 4) &&& pp_m 51 (N + 1) = 2 ^ 8 * ((h / 4) &&& pp_m 51 N) + ((l / 4) &&& pp_m 51 1) := by
    rw [e, ← pp_b1 l hl (h % 4) (by omega)]
    exact pp_and _ _ (by omega) (by decide)
  have e3 : (2 ^ 8 * h + l) &&& pp_m 51 (N + 1) = 2 ^ 8 * (h &&& pp_m 51 N) + (l &&& pp_m 51 1) := pp_and _ _ (by omega) (by decide)
  unfold pp_B
  rw [e2, e3]
  omega
theorem pp_c (N h : Nat) {l : Nat} (hl : l < 69) (hh : h % 16 < 5) : pp_C (N + 1) (2 ^ 8 * h + l) = 2 ^ 8 * pp_C N h + pp_C 1 l := by
  have e : (2 ^ 8 * h + l) + (2 ^ 8 * h + l) / 16 = 2 ^ 8 * (h + h / 16) + (l + l / 16 + 16 * (h % 16)) := by omega
  unfold pp_C
  rw [e, ← pp_c1 l hl (h % 16) hh]
  exact pp_and _ _ (by omega) (by decide)
def pp_F (N x : Nat) : Nat := pp_C N (pp_B N (pp_A N x))
theorem pp_nib : ∀ N x, x < 256 ^ N → pp_B N (pp_A N x) % 16 < 5
  | 0, x, h => by
    have : x = 0 := by
      have : 256 ^ 0 = 1 := rfl
      omega
    rw [this]
    decide
  | N + 1, x, h => by
    have e : x = 2 ^ 8 * (x / 256) + x % 256 := by omega
    have hl : x % 256 < 256 := Nat.mod_lt _ (by decide)
    have f := pp_f1 (x % 256) hl
    rw [e, pp_a N _ hl, pp_b N _ f.1]
    omega
theorem pp_s (N h : Nat) {l : Nat} (hl : l < 256) (hh : h < 256 ^ N) : pp_F (N + 1) (2 ^ 8 * h + l) = 2 ^ 8 * pp_F N h + pp_bs l 8 := by
  have f := pp_f1 l hl
  unfold pp_F
  rw [pp_a N h hl, pp_b N _ f.1, pp_c N _ f.2.1 (pp_nib N h hh), f.2.2.2]
theorem pp_8 (l N : Nat) : pp_bs l N ≤ N := cn_le _ N
/-- the counts of four bytes -/
theorem pp_4 {n : Nat} (hn : n < 2 ^ 32) : ∃ c0 c1 c2 c3, c0 ≤ 8 ∧ c1 ≤ 8 ∧ c2 ≤ 8 ∧ c3 ≤ 8 ∧ pp_F 4 n = c0 + 256 * c1 + 65536 * c2 + 16777216 * c3 ∧ pp_bs n 32 = c0 + c1 + c2 + c3 := by
  have lt : ∀ x : Nat, x % 256 < 256 := fun x => Nat.mod_lt _ (by decide)
  have e0 : n = 2 ^ 8 * (n / 256) + n % 256 := by omega
  have e1 : n / 256 = 2 ^ 8 * (n / 65536) + n / 256 % 256 := by omega
  have e2 : n / 65536 = 2 ^ 8 * (n / 16777216) + n / 65536 % 256 := by omega
  have e3 : n / 16777216 = 2 ^ 8 * 0 + n / 16777216 := by omega
  have l3 : n / 16777216 < 256 := by omega
  refine ⟨pp_bs (n % 256) 8, pp_bs (n / 256 % 256) 8, pp_bs (n / 65536 % 256) 8, pp_bs (n / 16777216) 8, pp_8 _ 8, pp_8 _ 8, pp_8 _ 8, pp_8 _ 8, ?_, ?_⟩
  · have f3 := pp_s 0 0 l3 (by decide)
    rw [← e3] at f3
    have f2 := pp_s 1 (n / 16777216) (lt (n / 65536)) (by omega)
    rw [← e2, f3] at f2
    have f1 := pp_s 2 (n / 65536) (lt (n / 256)) (by omega)
    rw [← e1, f2] at f1
    have f0 := pp_s 3 (n / 256) (lt n) (by omega)
    rw [← e0, f1] at f0
    have z : pp_F 0 0 = 0 := by decide
    rw [z] at f0
    refine Eq.trans (show pp_F 4 n = _ from f0) ?_
    omega
  · have g2 := pp_split (n / 16777216) (lt (n / 65536)) 8
    rw [← e2] at g2
    have g1 := pp_split (n / 65536) (lt (n / 256)) 16
    rw [← e1, show (16 : Nat) = 8 + 8 from rfl, g2] at g1
    have g0 := pp_split (n / 256) (lt n) 24
    rw [← e0, show (24 : Nat) = 8 + (8 + 8) from rfl, g1] at g0
    rw [show (32 : Nat) = 8 + (8 + (8 + 8)) from rfl, g0]
    omega
/-- Integer.bitCount counts bits -/
theorem pp_int {n : Nat} (hn : n < 2 ^ 32) : ab_bc (nI n) = nI (pp_bs n 32) := by
  have us : ∀ (x k : Nat) (s : Int32), x < 2 ^ 32 → ((s.toUInt32 &&& Int32.toUInt32 31).toBitVec % 32).toNat = k → ab_us (nI x) s = nI (x / 2 ^ k) := fun x k s hx hs => pk_ushrN hx s k hs
  have lA : ((n / 2 ^ 1) &&& 1431655765) ≤ n / 2 ^ 1 := Nat.and_le_left
  have a1 : bc_a (nI n) = nI (pp_A 4 n) := by
    unfold bc_a
    rw [us n 1 1 hn rfl, show (1431655765 : Int32) = nI 1431655765 from rfl, fa_and, pk_sub (by omega)]
    rfl
  have hA : pp_A 4 n < 2 ^ 32 := by
    have : pp_A 4 n ≤ n := Nat.sub_le _ _
    omega
  generalize ea : pp_A 4 n = A at a1 hA
  have lB1 : A &&& 858993459 ≤ 858993459 := Nat.and_le_right
  have lB2 : (A / 2 ^ 2) &&& 858993459 ≤ 858993459 := Nat.and_le_right
  have b1 : bc_b (nI n) = nI (pp_B 4 A) := by
    unfold bc_b
    rw [a1, us A 2 2 hA rfl, show (858993459 : Int32) = nI 858993459 from rfl, fa_and, fa_and, nI_add]
    rfl
  have hB : pp_B 4 A < 2 ^ 31 := by
    show (A &&& 858993459) + ((A / 2 ^ 2) &&& 858993459) < 2 ^ 31
    omega
  generalize eb : pp_B 4 A = B at b1 hB
  have c1 : bc_c (nI n) = nI (pp_C 4 B) := by
    unfold bc_c
    rw [b1, us B 4 4 (by omega) rfl, show (252645135 : Int32) = nI 252645135 from rfl, nI_add, fa_and]
    rfl
  obtain ⟨c0, c1', c2, c3, h0, h1, h2, h3, hF, hS⟩ := pp_4 hn
  have hFC : pp_C 4 B = pp_F 4 n := by
    unfold pp_F
    rw [ea, eb]
  rw [hFC, hF] at c1
  have d1 : bc_d (nI n) = nI (c0 + 256 * c1' + 65536 * c2 + 16777216 * c3 + (c1' + 256 * c2 + 65536 * c3)) := by
    unfold bc_d
    rw [c1, us _ 8 8 (by omega) rfl, nI_add]
    congr 1
    omega
  have e1 : bc_e (nI n) = nI (c0 + 256 * c1' + 65536 * c2 + 16777216 * c3 + (c1' + 256 * c2 + 65536 * c3) + (c2 + 256 * c3 + c3)) := by
    unfold bc_e
    rw [d1, us _ 16 16 (by omega) rfl, nI_add]
    congr 1
    omega
  unfold ab_bc
  rw [e1, hS, pk_andN (by omega) 6 rfl]
  congr 1
  omega
/-! Long.bitCount -/
def pp_us (x : Int64) (n : Int32) : Int64 := (x.toUInt64 >>> (n.toInt64.toUInt64 &&& Int64.toUInt64 63)).toInt64
def lc_a (x : Int64) : Int64 := x - (pp_us x 1 &&& ab_lc 2)
def lc_b (x : Int64) : Int64 := (lc_a x &&& ab_lc 3) + (pp_us (lc_a x) 2 &&& ab_lc 3)
def lc_c (x : Int64) : Int64 := (lc_b x + pp_us (lc_b x) 4) &&& ab_lc 4
def lc_d (x : Int64) : Int64 := lc_c x + pp_us (lc_c x) 8
def lc_e (x : Int64) : Int64 := lc_d x + pp_us (lc_d x) 16
def lc_f (x : Int64) : Int64 := lc_e x + pp_us (lc_e x) 32
def ab_bl (x : Int64) : Int32 := (lc_f x).toInt32 &&& 127
theorem ct_J_bitCountL {Z : ab_Z} (hZ : ab_okZ Z) (x : Int64) (m : ab_M) : ab_C Z 0 142 [.inl (.long x)] m (some (ab_bl x)) m :=
  ab_Kc hZ (tk_J_bitCountL_0_0 ⟨rfl, rfl⟩) trivial (by decide) (Nat.le_of_ble_eq_true rfl)
theorem pp_cu : ∀ k, k < 64 → ((nI k).toInt64.toUInt64 &&& Int64.toUInt64 63) = UInt64.ofNat k := by decide +kernel
theorem pp_tn {n : Nat} (h : n < 2 ^ 64) : (lN n).toUInt64.toNat = n := by
  show (BitVec.ofNat 64 n).toNat = n
  rw [BitVec.toNat_ofNat, Nat.mod_eq_of_lt h]
theorem pp_ush {n k : Nat} (hn : n < 2 ^ 64) (hk : k < 64) : ((lN n).toUInt64 >>> ((nI k).toInt64.toUInt64 &&& Int64.toUInt64 63)).toInt64 = lN (n / 2 ^ k) := by
  rw [pp_cu k hk]
  apply Int64.toBitVec_inj.1
  apply BitVec.eq_of_toNat_eq
  show ((lN n).toUInt64 >>> UInt64.ofNat k).toNat = (BitVec.ofNat 64 _).toNat
  have h1 : (UInt64.ofNat k).toNat = k := by
    show (BitVec.ofNat 64 k).toNat = k
    rw [BitVec.toNat_ofNat, Nat.mod_eq_of_lt (by omega)]
  rw [UInt64.toNat_shiftRight, h1, pp_tn hn, Nat.mod_eq_of_lt hk, Nat.shiftRight_eq_div_pow, BitVec.toNat_ofNat, Nat.mod_eq_of_lt (Nat.lt_of_le_of_lt (Nat.div_le_self _ _) hn)]
theorem pp_andL (a b : Nat) : lN a &&& lN b = lN (a &&& b) := by
  apply Int64.toBitVec_inj.1
  show BitVec.ofNat 64 a &&& BitVec.ofNat 64 b = BitVec.ofNat 64 (a &&& b)
  apply BitVec.eq_of_getLsbD_eq
  intro i hi
  simp [hi]
/-- the counts of five bytes; the others are 0 -/
theorem pp_5 {n : Nat} (hn : n < 2 ^ 40) : ∃ c0 c1 c2 c3 c4, c0 ≤ 8 ∧ c1 ≤ 8 ∧ c2 ≤ 8 ∧ c3 ≤ 8 ∧ c4 ≤ 8 ∧ pp_F 8 n = c0 + 256 * c1 + 65536 * c2 + 16777216 * c3 + 4294967296 * c4 ∧ pp_bs n 40 = c0 + c1 + c2 + c3 + c4 := by
  have lt : ∀ x : Nat, x % 256 < 256 := fun x => Nat.mod_lt _ (by decide)
  have e0 : n = 2 ^ 8 * (n / 256) + n % 256 := by omega
  have e1 : n / 256 = 2 ^ 8 * (n / 65536) + n / 256 % 256 := by omega
  have e2 : n / 65536 = 2 ^ 8 * (n / 16777216) + n / 65536 % 256 := by omega
  have e3 : n / 16777216 = 2 ^ 8 * (n / 4294967296) + n / 16777216 % 256 := by omega
  have e4 : n / 4294967296 = 2 ^ 8 * 0 + n / 4294967296 := by omega
  have l4 : n / 4294967296 < 256 := by omega
  refine ⟨pp_bs (n % 256) 8, pp_bs (n / 256 % 256) 8, pp_bs (n / 65536 % 256) 8, pp_bs (n / 16777216 % 256) 8, pp_bs (n / 4294967296) 8, pp_8 _ 8, pp_8 _ 8, pp_8 _ 8, pp_8 _ 8, pp_8 _ 8, ?_, ?_⟩
  · have f4 := pp_s 3 0 l4 (by decide)
    rw [← e4] at f4
    have f3 := pp_s 4 (n / 4294967296) (lt (n / 16777216)) (by omega)
    rw [← e3, f4] at f3
    have f2 := pp_s 5 (n / 16777216) (lt (n / 65536)) (by omega)
    rw [← e2, f3] at f2
    have f1 := pp_s 6 (n / 65536) (lt (n / 256)) (by omega)
    rw [← e1, f2] at f1
    have f0 := pp_s 7 (n / 256) (lt n) (by omega)
    rw [← e0, f1] at f0
    have z : pp_F 3 0 = 0 := by decide
    rw [z] at f0
    refine Eq.trans (show pp_F 8 n = _ from f0) ?_
    omega
  · have g3 := pp_split (n / 4294967296) (lt (n / 16777216)) 8
    rw [← e3] at g3
    have g2 := pp_split (n / 16777216) (lt (n / 65536)) 16
    rw [← e2, show (16 : Nat) = 8 + 8 from rfl, g3] at g2
    have g1 := pp_split (n / 65536) (lt (n / 256)) 24
    rw [← e1, show (24 : Nat) = 8 + (8 + 8) from rfl, g2] at g1
    have g0 := pp_split (n / 256) (lt n) 32
    rw [← e0, show (32 : Nat) = 8 + (8 + (8 + 8)) from rfl, g1] at g0
    rw [show (40 : Nat) = 8 + (8 + (8 + (8 + 8))) from rfl, g0]
    omega
theorem pp_long {n : Nat} (hn : n < 2 ^ 40) : ab_bl (lN n) = nI (pp_bs n 40) := by
  have us : ∀ (x k : Nat), x < 2 ^ 64 → k < 64 → pp_us (lN x) (nI k) = lN (x / 2 ^ k) := fun x k hx hk => pp_ush hx hk
  have lA : ((n / 2 ^ 1) &&& 6148914691236517205) ≤ n / 2 ^ 1 := Nat.and_le_left
  have a1 : lc_a (lN n) = lN (pp_A 8 n) := by
    unfold lc_a
    rw [show (1 : Int32) = nI 1 from rfl, us n 1 (by omega) (by decide), show ab_lc 2 = lN 6148914691236517205 from rfl, pp_andL, lN_sub (by omega)]
    rfl
  have hA : pp_A 8 n < 2 ^ 40 := by
    have : pp_A 8 n ≤ n := Nat.sub_le _ _
    omega
  generalize ea : pp_A 8 n = A at a1 hA
  have lB1 : A &&& 3689348814741910323 ≤ A := Nat.and_le_left
  have lB2 : (A / 2 ^ 2) &&& 3689348814741910323 ≤ A / 2 ^ 2 := Nat.and_le_left
  have b1 : lc_b (lN n) = lN (pp_B 8 A) := by
    unfold lc_b
    rw [a1, show (2 : Int32) = nI 2 from rfl, us A 2 (by omega) (by decide), show ab_lc 3 = lN 3689348814741910323 from rfl, pp_andL, pp_andL, lN_add]
    rfl
  have hB : pp_B 8 A < 2 ^ 42 := by
    show (A &&& 3689348814741910323) + ((A / 2 ^ 2) &&& 3689348814741910323) < 2 ^ 42
    omega
  generalize eb : pp_B 8 A = B at b1 hB
  have c1 : lc_c (lN n) = lN (pp_C 8 B) := by
    unfold lc_c
    rw [b1, show (4 : Int32) = nI 4 from rfl, us B 4 (by omega) (by decide), show ab_lc 4 = lN 1085102592571150095 from rfl, lN_add, pp_andL]
    rfl
  obtain ⟨c0, c1', c2, c3, c4, h0, h1, h2, h3, h4, hF, hS⟩ := pp_5 hn
  have hFC : pp_C 8 B = pp_F 8 n := by
    unfold pp_F
    rw [ea, eb]
  rw [hFC, hF] at c1
  have d1 : lc_d (lN n) = lN (c0 + 256 * c1' + 65536 * c2 + 16777216 * c3 + 4294967296 * c4 + (c1' + 256 * c2 + 65536 * c3 + 16777216 * c4)) := by
    unfold lc_d
    rw [c1, show (8 : Int32) = nI 8 from rfl, us _ 8 (by omega) (by decide), lN_add]
    congr 1
    omega
  have e1 : lc_e (lN n) = lN (c0 + 256 * c1' + 65536 * c2 + 16777216 * c3 + 4294967296 * c4 + (c1' + 256 * c2 + 65536 * c3 + 16777216 * c4) + (c2 + 256 * c3 + 65536 * c4 + (c3 + 256 * c4))) := by
    unfold lc_e
    rw [d1, show (16 : Int32) = nI 16 from rfl, us _ 16 (by omega) (by decide), lN_add]
    congr 1
    omega
  have f1 : lc_f (lN n) = lN (c0 + 256 * c1' + 65536 * c2 + 16777216 * c3 + 4294967296 * c4 + (c1' + 256 * c2 + 65536 * c3 + 16777216 * c4) + (c2 + 256 * c3 + 65536 * c4 + (c3 + 256 * c4)) + c4) := by
    unfold lc_f
    rw [e1, show (32 : Int32) = nI 32 from rfl, us _ 32 (by omega) (by decide), lN_add]
    congr 1
    omega
  unfold ab_bl
  rw [f1, hS, lN_i, pk_and _ 7 rfl]
  congr 1
  show (BitVec.ofNat 32 _).toNat % 2 ^ 7 = _
  rw [BitVec.toNat_ofNat]
  omega
/-! a bit more -/
theorem pp_add {r k : Nat} (hr : r < 2 ^ k) : ∀ N, k < N → pp_bs (2 ^ k + r) N = pp_bs r N + 1
  | 0, h => absurd h (by omega)
  | N + 1, h => by
    have tb : ∀ j, (2 ^ k + r).testBit j = if j < k then r.testBit j else (1 : Nat).testBit (j - k) := fun j => by
      have := Nat.testBit_two_pow_mul_add 1 hr j
      rw [Nat.mul_one] at this
      exact this
    show pp_bs (2 ^ k + r) N + (if (2 ^ k + r).testBit N = true then 1 else 0) = pp_bs r N + (if r.testBit N = true then 1 else 0) + 1
    by_cases e : N = k
    · subst e
      have h1 : pp_bs (2 ^ N + r) N = pp_bs r N := cn_cong (fun j hj => by rw [tb, if_pos hj])
      rw [h1, tb, if_neg (Nat.lt_irrefl N), Nat.sub_self, Nat.testBit_lt_two_pow hr]
      rfl
    · have h1 := pp_add hr N (by omega)
      have h2 : r.testBit N = false := Nat.testBit_lt_two_pow (Nat.lt_of_lt_of_le hr (Nat.pow_le_pow_right (by decide) (by omega)))
      have h3 : (1 : Nat).testBit (N - k) = false := Nat.testBit_lt_two_pow (Nat.one_lt_two_pow (by omega))
      rw [h1, tb, if_neg (show ¬ N < k by omega), h2, h3]
      rfl
theorem pp_pos {n N : Nat} (h : n < 2 ^ N) (h0 : 0 < n) : 0 < pp_bs n N := by
  obtain ⟨i, hi⟩ := Nat.exists_testBit_of_ne_zero (by omega : n ≠ 0)
  have : i < N := by
    rcases Nat.lt_or_ge i N with q | q
    · exact q
    · have := Nat.testBit_lt_two_pow (Nat.lt_of_lt_of_le h (Nat.pow_le_pow_right (by decide) q))
      rw [this] at hi
      cases hi
  exact cn_pos this hi
