/-! ===== the class's search among the marks ===== -/
theorem cn_sub {S T : Nat → Prop} [DecidablePred S] [DecidablePred T] : ∀ {n : Nat}, (∀ k, k < n → S k → T k) → cn_of S n ≤ cn_of T n
  | 0, _ => Nat.le_refl _
  | n + 1, h => by
    have ih := cn_sub (S := S) (T := T) (n := n) (fun k hk => h k (by omega))
    rw [cn_s, cn_s]
    by_cases q : S n
    · rw [if_pos q, if_pos (h n (by omega) q)]
      omega
    · rw [if_neg q]
      omega
theorem cn_orl {S T U : Nat → Prop} [DecidablePred S] [DecidablePred T] [DecidablePred U] : ∀ {n : Nat}, (∀ k, k < n → U k → S k ∨ T k) → cn_of U n ≤ cn_of S n + cn_of T n
  | 0, _ => Nat.zero_le _
  | n + 1, h => by
    have ih := cn_orl (S := S) (T := T) (U := U) (n := n) (fun k hk => h k (by omega))
    rw [cn_s, cn_s, cn_s]
    by_cases q : U n
    · rw [if_pos q]
      rcases h n (by omega) q with z | z
      · rw [if_pos z]
        omega
      · rw [if_pos z]
        omega
    · rw [if_neg q]
      omega
theorem pp_sub {a b N : Nat} (h : ∀ g, a.testBit g = true → b.testBit g = true) : pp_bs a N ≤ pp_bs b N := cn_sub (fun k _ => h k)
theorem pp_or (a b N : Nat) : pp_bs (a ||| b) N ≤ pp_bs a N + pp_bs b N := cn_orl (fun k _ h => by
  rw [Nat.testBit_or, Bool.or_eq_true] at h
  exact h)
theorem pp_bs_s (n N : Nat) : pp_bs n (N + 1) = pp_bs n N + if n.testBit N = true then 1 else 0 := rfl
theorem pp_high {n s : Nat} (h : n < 2 ^ s) : ∀ N, pp_bs n N ≤ s
  | 0 => Nat.zero_le _
  | N + 1 => by
    have ih := pp_high h N
    rw [pp_bs_s]
    by_cases q : N < s
    · have := pp_8 n N
      by_cases z : n.testBit N = true
      · rw [if_pos z]
        omega
      · rw [if_neg z]
        omega
    · have : n.testBit N = false := Nat.testBit_lt_two_pow (Nat.lt_of_lt_of_le h (Nat.pow_le_pow_right (by decide) (by omega)))
      rw [this]
      exact ih
theorem pp_ext {n N : Nat} (h : n < 2 ^ N) : ∀ k, pp_bs n (N + k) = pp_bs n N
  | 0 => rfl
  | k + 1 => by
    have : n.testBit (N + k) = false := Nat.testBit_lt_two_pow (Nat.lt_of_lt_of_le h (Nat.pow_le_pow_right (by decide) (by omega)))
    show pp_bs n (N + k + 1) = _
    rw [pp_bs_s, this, pp_ext h k]
    rfl
theorem pp_32 {n : Nat} (h : n < 65536) : pp_bs n 32 = pp_bs n 16 := pp_ext (N := 16) h 16
theorem pp_nil (N : Nat) : pp_bs 0 N = 0 := cn_0 (fun k _ h => by rw [Nat.zero_testBit] at h; cases h)
/-- all that some marks part -/
def ms_un (pb : Nat → Nat) (n : Nat) : Nat → Nat
  | 0 => 0
  | N + 1 => ms_un pb n N ||| (if n.testBit N = true then pb N else 0)
theorem ms_bit (pb : Nat → Nat) (n g : Nat) : ∀ N, (ms_un pb n N).testBit g = true ↔ ∃ j, j < N ∧ n.testBit j = true ∧ (pb j).testBit g = true
  | 0 => by
    unfold ms_un
    rw [Nat.zero_testBit]
    exact ⟨fun h => (by cases h), fun ⟨j, h, _⟩ => (by omega)⟩
  | N + 1 => by
    have ih := ms_bit pb n g N
    unfold ms_un
    rw [Nat.testBit_or, Bool.or_eq_true, ih]
    constructor
    · rintro (⟨j, h1, h2, h3⟩ | h)
      · exact ⟨j, by omega, h2, h3⟩
      · by_cases q : n.testBit N = true
        · rw [if_pos q] at h
          exact ⟨N, by omega, q, h⟩
        · rw [if_neg q, Nat.zero_testBit] at h
          cases h
    · rintro ⟨j, h1, h2, h3⟩
      by_cases e : j = N
      · subst e
        right
        rw [if_pos h2]
        exact h3
      · exact Or.inl ⟨j, by omega, h2, h3⟩
theorem ms_le {pb : Nat → Nat} {mo : Nat} (n : Nat) : ∀ N, (∀ j, j < N → pp_bs (pb j) 32 ≤ mo) → pp_bs (ms_un pb n N) 32 ≤ pp_bs n N * mo
  | 0, _ => by
    unfold ms_un
    rw [pp_nil]
    exact Nat.zero_le _
  | N + 1, h => by
    have ih := ms_le n N (fun j hj => h j (by omega))
    have h1 := h N (by omega)
    unfold ms_un
    rw [pp_bs_s n N]
    have h2 := pp_or (ms_un pb n N) (if n.testBit N = true then pb N else 0) 32
    by_cases q : n.testBit N = true
    · rw [if_pos q] at h2 ⊢
      rw [if_pos q, Nat.add_mul, Nat.one_mul]
      omega
    · rw [if_neg q] at h2 ⊢
      rw [if_neg q, Nat.add_zero]
      rw [pp_nil] at h2
      omega
def ms_ok (pb : Nat → Nat) (need : Int) (par size below n : Nat) : Prop := n < 2 ^ below ∧ pp_bs n 16 = size ∧ need ≤ (pp_bs (par ||| ms_un pb n 16) 32 : Nat)
def ms_P (pb : Nat → Nat) (need : Int) (par size below : Nat) (r : Int32) : Prop := (r = -1 ∧ ∀ n, ¬ ms_ok pb need par size below n) ∨ ∃ n, r = nI n ∧ ms_ok pb need par size below n ∧ ∀ n', ms_ok pb need par size below n' → n ≤ n'
theorem ms_un0 (pb : Nat → Nat) (N : Nat) : ms_un pb 0 N = 0 := by
  apply Nat.eq_of_testBit_eq
  intro g
  rw [Nat.zero_testBit]
  cases e : (ms_un pb 0 N).testBit g with
  | false => rfl
  | true =>
    obtain ⟨j, -, h, -⟩ := (ms_bit pb 0 g N).mp e
    rw [Nat.zero_testBit] at h
    cases h
theorem ms_or {mark r : Nat} (hr : r < 2 ^ mark) : 2 ^ mark + r = 2 ^ mark ||| r := by
  have := Nat.two_pow_add_eq_or_of_lt hr 1
  rw [Nat.mul_one] at this
  exact this
theorem ms_top {mark r : Nat} (hr : r < 2 ^ mark) (j : Nat) : (2 ^ mark + r).testBit j = true ↔ r.testBit j = true ∨ j = mark := by
  rw [ms_or hr, Nat.testBit_or, Nat.testBit_two_pow, Bool.or_eq_true, decide_eq_true_eq]
  exact ⟨fun h => h.elim (fun z => Or.inr z.symm) Or.inl, fun h => h.elim Or.inr (fun z => Or.inl z.symm)⟩
theorem ms_add {pb : Nat → Nat} {mark r par : Nat} (hm : mark < 16) (hr : r < 2 ^ mark) : par ||| ms_un pb (2 ^ mark + r) 16 = par ||| pb mark ||| ms_un pb r 16 := by
  apply Nat.eq_of_testBit_eq
  intro g
  rw [Bool.eq_iff_iff]
  simp only [Nat.testBit_or, Bool.or_eq_true, ms_bit]
  constructor
  · rintro (h | ⟨j, h1, h2, h3⟩)
    · exact Or.inl (Or.inl h)
    · rcases (ms_top hr j).mp h2 with z | z
      · exact Or.inr ⟨j, h1, z, h3⟩
      · rw [z] at h3
        exact Or.inl (Or.inr h3)
  · rintro ((h | h) | ⟨j, h1, h2, h3⟩)
    · exact Or.inl h
    · exact Or.inr ⟨mark, hm, (ms_top hr mark).mpr (Or.inr rfl), h⟩
    · exact Or.inr ⟨j, h1, (ms_top hr j).mpr (Or.inl h2), h3⟩
theorem ms_step {pb : Nat → Nat} {need : Int} {par s below mark r : Nat} (hm : mark < below) (hb : below ≤ 16) (hr : r < 2 ^ mark) : ms_ok pb need par (s + 1) below (2 ^ mark + r) ↔ ms_ok pb need (par ||| pb mark) s mark r := by
  unfold ms_ok
  rw [ms_add (by omega) hr, pp_add hr 16 (by omega)]
  have h1 : 2 ^ mark + r < 2 ^ below := by
    have h2 : 2 ^ (mark + 1) ≤ 2 ^ below := Nat.pow_le_pow_right (by decide) (by omega)
    have h3 : 2 ^ (mark + 1) = 2 ^ mark * 2 := Nat.pow_succ 2 mark
    omega
  exact ⟨fun h => ⟨hr, by omega, h.2.2⟩, fun h => ⟨h1, by omega, h.2.2⟩⟩
/-- what the search reads -/
def ms_M (m : ab_M) (pb bl : Nat → Nat) (need : Int) (mo : Nat) : Prop := (∀ j, j < 16 → ab_rd m 46 j = nI (pb j) ∧ pb j < 2 ^ 24 ∧ pp_bs (pb j) 32 ≤ mo) ∧ (∀ b, 1 ≤ b → b ≤ 16 → ab_rd m 47 b = nI (bl b) ∧ bl b < 2 ^ 32 ∧ ∀ j, j < b → ∀ g, (pb j).testBit g = true → (bl b).testBit g = true) ∧ (ab_rd m 7 3).toInt = need ∧ -24 ≤ need ∧ need ≤ 24 ∧ ab_rd m 7 4 = nI mo ∧ mo ≤ 32
theorem ct_MarkSearch_leastSum {Z : ab_Z} (hZ : ab_okZ Z) {m : ab_M} {pb bl : Nat → Nat} {need : Int} {mo : Nat} (hM : ms_M m pb bl need mo) : ∀ (size below par : Nat), size ≤ below → below ≤ 16 → par < 2 ^ 24 → ab_K Z (size + 1) 23 [.inl (.ref 7), .inl (.int (nI size)), .inl (.int (nI below)), .inl (.int (nI par))] m (fun r m9 => (∃ v, r = some v ∧ ms_P pb need par size below v) ∧ m9 = m) := by
  obtain ⟨h1, h2, h3, h4, h5, h6, h7⟩ := hM
  intro size
  induction size with
  | zero =>
    intro below par hs hb hp
    have hbc := ct_J_bitCount hZ (nI par) m
    rw [pp_int (by omega)] at hbc
    have hle := pp_8 par 32
    have only0 : ∀ n, ms_ok pb need par 0 below n → n = 0 := fun n h => by
      have hn : n < 2 ^ 16 := Nat.lt_of_lt_of_le h.1 (Nat.pow_le_pow_right (by decide) hb)
      rcases Nat.eq_zero_or_pos n with q | q
      · exact q
      · have := pp_pos hn q
        have := h.2.1
        omega
    refine ab_Ki hZ ?_ (fun r m1 h => by obtain ⟨⟨v, rfl, -⟩, -⟩ := h; trivial) (by decide) (Nat.le_of_ble_eq_true rfl)
    by_cases q : nI (pp_bs par 32) < ab_rd m 7 3
    · refine tk_MarkSearch_leastSum_0_1 ⟨(by decide : 0 < 0 + 1), hbc⟩ (by decide) q ⟨⟨-1, rfl, Or.inl ⟨rfl, fun n h => ?_⟩⟩, rfl⟩
      have e := only0 n h
      subst e
      have h8 := h.2.2
      rw [ms_un0, Nat.or_zero] at h8
      rw [ab_ltI, nI_toInt (by omega), h3] at q
      omega
    · refine tk_MarkSearch_leastSum_0_0 ⟨(by decide : 0 < 0 + 1), hbc⟩ (by decide) q ⟨⟨0, rfl, Or.inr ⟨0, rfl, ⟨Nat.two_pow_pos _, pp_nil _, ?_⟩, fun n' _ => Nat.zero_le _⟩⟩, rfl⟩
      rw [ms_un0, Nat.or_zero]
      rw [ab_ltI, nI_toInt (by omega), h3] at q
      omega
  | succ s ih =>
    intro below par hs hb hp
    have hbc := ct_J_bitCount hZ (nI par) m
    rw [pp_int (by omega)] at hbc
    have hle := pp_8 par 32
    obtain ⟨e1, e2, e3⟩ := h2 below (by omega) hb
    have hib := ab_in (n := below) (N := 17) (by omega) (by decide)
    have hcb := ab_cl (n := below) (by omega)
    have hbc2 := ct_J_bitCount hZ (nI par ||| ab_rd m 47 (nI below).toNatClampNeg) m
    have hor : par ||| bl below < 2 ^ 32 := Nat.or_lt_two_pow (by omega) e2
    rw [hcb, e1, fb_orI, pp_int hor] at hbc2
    have hle2 := pp_8 (par ||| bl below) 32
    have hpos : (0 : Int32) < nI (s + 1) := by
      rw [ab_ltI, ab_t0, nI_toInt (by omega)]
      omega
    have e24 : nI (s + 1) * ab_rd m 7 4 = nI ((s + 1) * mo) := by rw [h6, pk_mul]
    have hmul : (s + 1) * mo ≤ 16 * 32 := Nat.mul_le_mul (by omega) h7
    have hz : ∀ d : Nat, 0 < d + 1 := fun d => by omega
    refine ab_Ki hZ ?_ (fun r m1 h => by obtain ⟨⟨v, rfl, -⟩, -⟩ := h; trivial) (by decide) (Nat.le_of_ble_eq_true rfl)
    by_cases q1 : ab_rd m 7 3 ≤ nI (pp_bs par 32) + nI (s + 1) * ab_rd m 7 4
    · by_cases q2 : ab_rd m 7 3 ≤ nI (pp_bs (par ||| bl below) 32)
      · refine tk_MarkSearch_leastSum_0_4 ⟨hz _, hbc⟩ hpos q1 hib ⟨hz _, (by rw [hcb, e1, fb_orI]; exact hbc2)⟩ q2 ?_
        rw [nI_pred]
        have lp : ∀ (k mark : Nat), mark + k = below → s ≤ mark → (∀ n, ms_ok pb need par (s + 1) below n → 2 ^ mark ≤ n) → ab_T Z 23 (s + 1 + 1) (68, [(0, .inl (.ref 7)), (1, .inl (.int (nI (s + 1)))), (2, .inl (.int (nI below))), (3, .inl (.int (nI par))), (4, .inl (.int (nI (pp_bs par 32)))), (5, .inl (.int (nI mark)))], [], m) (fun r m9 => (∃ v, r = some v ∧ ms_P pb need par (s + 1) below v) ∧ m9 = m) := by
          intro k
          induction k with
          | zero =>
            intro mark hk hsm inv
            have hk : mark = below := by omega
            subst hk
            refine tk_MarkSearch_leastSum_68_2 (Int32.le_refl _) ⟨⟨-1, rfl, Or.inl ⟨rfl, fun n h => ?_⟩⟩, rfl⟩
            have := inv n h
            have := h.1
            omega
          | succ k ihk =>
            intro mark hk hsm inv
            obtain ⟨p1, p2, p3⟩ := h1 mark (by omega)
            have him := ab_in (n := mark) (N := 16) (by omega) (by decide)
            have hcm := ab_cl (n := mark) (by omega)
            obtain ⟨r, m1, hC, ⟨v, hr, hv⟩, hm1⟩ := ih mark (par ||| pb mark) hsm (by omega) (Nat.or_lt_two_pow hp p2)
            rw [hr, hm1] at hC
            have hC' : ab_C Z (s + 1) 23 [.inl (.ref 7), .inl (.int (nI (s + 1) - 1)), .inl (.int (nI mark)), .inl (.int (nI par ||| ab_rd m 46 (nI mark).toNatClampNeg))] m (some v) m := by
              rw [hcm, p1, fb_orI, nI_pred]
              exact hC
            have hsp : 2 ^ (mark + 1) = 2 ^ mark * 2 := Nat.pow_succ 2 mark
            have hlt : ¬ nI below ≤ nI mark := nI_ge (by omega) (by omega)
            have hd : s + 1 < s + 1 + 1 := by omega
            rcases hv with ⟨z, hn⟩ | ⟨n0, z, hok, hmin⟩
            · refine tk_MarkSearch_leastSum_68_1 hlt him ⟨hd, hC'⟩ z ?_
              rw [nI_1]
              refine ihk (mark + 1) (by omega) (by omega) (fun n h => ?_)
              have g := inv n h
              rcases Nat.lt_or_ge n (2 ^ (mark + 1)) with y | y
              · have hr' : n - 2 ^ mark < 2 ^ mark := by omega
                have h' := h
                rw [show n = 2 ^ mark + (n - 2 ^ mark) by omega] at h'
                exact absurd ((ms_step (by omega) hb hr').mp h') (hn _)
              · exact y
            · have hn0 : n0 < 2 ^ mark := hok.1
              have hn16 : 2 ^ mark ≤ 2 ^ 16 := Nat.pow_le_pow_right (by decide) (by omega)
              have hv1 : ¬ v = -1 := fun y => by
                rw [z, ab_eqI, nI_toInt (by omega), ab_m1] at y
                omega
              refine tk_MarkSearch_leastSum_68_0 hlt him ⟨hd, hC'⟩ hv1 ⟨⟨_, rfl, Or.inr ⟨2 ^ mark + n0, ?_, (ms_step (by omega) hb hn0).mpr hok, fun n h => ?_⟩⟩, rfl⟩
              · rw [z, bt_or (by omega), Nat.or_comm, ← ms_or hn0]
              · have g := inv n h
                rcases Nat.lt_or_ge n (2 ^ (mark + 1)) with y | y
                · have hr' : n - 2 ^ mark < 2 ^ mark := by omega
                  have h' := h
                  rw [show n = 2 ^ mark + (n - 2 ^ mark) by omega] at h'
                  have := hmin _ ((ms_step (by omega) hb hr').mp h')
                  omega
                · omega
        refine lp (below - s) s (by omega) (Nat.le_refl _) (fun n h => ?_)
        rcases Nat.lt_or_ge n (2 ^ s) with y | y
        · have := pp_high y 16
          have := h.2.1
          omega
        · exact y
      · refine tk_MarkSearch_leastSum_0_3 ⟨hz _, hbc⟩ hpos q1 hib ⟨hz _, (by rw [hcb, e1, fb_orI]; exact hbc2)⟩ q2 ⟨⟨-1, rfl, Or.inl ⟨rfl, fun n h => ?_⟩⟩, rfl⟩
        rw [ab_leI, h3, nI_toInt (by omega)] at q2
        have hx := h.2.2
        have : pp_bs (par ||| ms_un pb n 16) 32 ≤ pp_bs (par ||| bl below) 32 := pp_sub (fun g hg => by
          rw [Nat.testBit_or, Bool.or_eq_true] at hg ⊢
          refine hg.imp id (fun y => ?_)
          obtain ⟨j, j1, j2, j3⟩ := (ms_bit pb n g 16).mp y
          refine e3 j ?_ g j3
          rcases Nat.lt_or_ge j below with w | w
          · exact w
          · have := Nat.testBit_lt_two_pow (Nat.lt_of_lt_of_le h.1 (Nat.pow_le_pow_right (by decide) w))
            rw [this] at j2
            cases j2)
        omega
    · refine tk_MarkSearch_leastSum_0_2 ⟨hz _, hbc⟩ hpos q1 ⟨⟨-1, rfl, Or.inl ⟨rfl, fun n h => ?_⟩⟩, rfl⟩
      rw [e24, nI_add, ab_leI, h3, nI_toInt (by omega)] at q1
      have hx := h.2.2
      have y1 := pp_or par (ms_un pb n 16) 32
      have y2 := ms_le (pb := pb) (mo := mo) n 16 (fun j hj => (h1 j hj).2.2)
      rw [h.2.1] at y2
      omega
/-- the sums of what is parted -/
theorem ct_MarkSearch_sumUp {Z : ab_Z} (hZ : ab_okZ Z) {m : ab_M} {pb : Nat → Nat} (hpb : ∀ j, j < 16 → ab_rd m 46 j = nI (pb j) ∧ pb j < 2 ^ 24) : ab_K Z 1 22 [.inl (.ref 7)] m (fun r m9 => r = none ∧ (∀ p, p ≠ 7 → p ≠ 47 → m9.1 p = m.1 p) ∧ (∀ p, m9.2 p = m.2 p) ∧ (∀ j, j ≠ 4 → ab_rd m9 7 j = ab_rd m 7 j) ∧ ∃ (bl : Nat → Nat) (mo : Nat), (∀ b, 1 ≤ b → b ≤ 16 → ab_rd m9 47 b = nI (bl b) ∧ bl b < 2 ^ 32 ∧ ∀ j, j < b → ∀ g, (pb j).testBit g = true → (bl b).testBit g = true) ∧ ab_rd m9 7 4 = nI mo ∧ mo ≤ 32 ∧ ∀ j, j < 16 → pp_bs (pb j) 32 ≤ mo) := by
  have lp : ∀ (k i : Nat) (M : ab_M) (bl : Nat → Nat) (mo : Nat), i + k = 16 → (∀ p, p ≠ 7 → p ≠ 47 → M.1 p = m.1 p) → (∀ p, M.2 p = m.2 p) → (∀ j, j ≠ 4 → ab_rd M 7 j = ab_rd m 7 j) → (∀ b, b ≤ i → ab_rd M 47 b = nI (bl b) ∧ bl b < 2 ^ 32 ∧ ∀ j, j < b → ∀ g, (pb j).testBit g = true → (bl b).testBit g = true) → ab_rd M 7 4 = nI mo → mo ≤ 32 → (∀ j, j < i → pp_bs (pb j) 32 ≤ mo) → ab_T Z 22 1 (7, [(0, .inl (.ref 7)), (1, .inl (.int (nI i)))], [], M) (fun r m9 => r = none ∧ (∀ p, p ≠ 7 → p ≠ 47 → m9.1 p = m.1 p) ∧ (∀ p, m9.2 p = m.2 p) ∧ (∀ j, j ≠ 4 → ab_rd m9 7 j = ab_rd m 7 j) ∧ ∃ (bl : Nat → Nat) (mo : Nat), (∀ b, 1 ≤ b → b ≤ 16 → ab_rd m9 47 b = nI (bl b) ∧ bl b < 2 ^ 32 ∧ ∀ j, j < b → ∀ g, (pb j).testBit g = true → (bl b).testBit g = true) ∧ ab_rd m9 7 4 = nI mo ∧ mo ≤ 32 ∧ ∀ j, j < 16 → pp_bs (pb j) 32 ≤ mo) := by
    intro k
    induction k with
    | zero =>
      intro i M bl mo hi f1 f2 f3 f4 f5 f6 f7
      have hi : i = 16 := by omega
      subst hi
      exact tk_MarkSearch_sumUp_7_1 (Int32.le_refl _) ⟨rfl, f1, f2, f3, bl, mo, fun b _ h => f4 b h, f5, f6, f7⟩
    | succ k ih =>
      intro i M bl mo hi f1 f2 f3 f4 f5 f6 f7
      have h16 : ¬ (16 : Int32) ≤ nI i := nI_ge (b := 16) (by omega) (by decide)
      have hci := ab_cl (n := i) (by omega)
      have hci1 := ab_cl (n := i + 1) (by omega)
      obtain ⟨p1, p2⟩ := hpb i (by omega)
      have p1' : ab_rd M 46 i = nI (pb i) := by rw [← p1]; exact congrFun (f1 _ (by decide) (by decide)) i
      obtain ⟨b1, b2, b3⟩ := f4 i (Nat.le_refl _)
      have hl := pp_8 (pb i) 32
      refine tk_MarkSearch_sumUp_7_0 h16 (ab_in (by omega) (by decide)) (ab_in (by omega) (by decide)) (by rw [nI_1]; exact ab_in (by omega) (by decide)) (ab_in (by omega) (by decide)) ⟨(by decide : 0 < 1), ct_J_bitCount hZ _ _⟩ ⟨(by decide : 0 < 1), ct_J_max hZ _ _ _⟩ ?_
      rw [nI_1, hci, hci1, p1', b1, fb_orI, pp_int (by omega), f5]
      have emx : ab_max (nI mo) (nI (pp_bs (pb i) 32)) = nI (max mo (pp_bs (pb i) 32)) := by
        rw [ab_eqI, ab_max_I, nI_toInt (by omega), nI_toInt (by omega), nI_toInt (by omega)]
        omega
      rw [emx]
      refine ih (i + 1) _ (fun b => if b = i + 1 then bl i ||| pb i else bl b) (max mo (pp_bs (pb i) 32)) (by omega) (fun p h h' => (ab_wr_n _ _ _ h).trans ((ab_wr_n _ _ _ h').trans (f1 p h h'))) (fun p => f2 p) (fun j hj => ?_) (fun b hb => ?_) (ab_rd_s _ _ _ _) (by omega) (fun j hj => ?_)
      · rw [ab_rd_d _ _ _ hj]
        exact f3 j hj
      · have r1 : ab_rd (ab_wr (ab_wr M 47 (i + 1) (nI (bl i ||| pb i))) 7 4 (nI (max mo (pp_bs (pb i) 32)))) 47 b = if b = i + 1 then nI (bl i ||| pb i) else ab_rd M 47 b := by
          rw [ab_rd_n _ _ _ _ (by decide), ab_rd_p]
        rw [r1]
        by_cases q : b = i + 1
        · rw [if_pos q, if_pos q]
          refine ⟨rfl, Nat.or_lt_two_pow b2 (by omega), fun j hj g hg => ?_⟩
          rw [Nat.testBit_or, Bool.or_eq_true]
          by_cases e : j = i
          · rw [e] at hg
            exact Or.inr hg
          · exact Or.inl (b3 j (by omega) g hg)
        · rw [if_neg q, if_neg q]
          exact f4 b (by omega)
      · by_cases e : j = i
        · rw [e]
          omega
        · have := f7 j (by omega)
          omega
  have hx : ab_rd m 47 0 = nI (ab_rd m 47 0).toBitVec.toNat := by
    apply Int32.toBitVec_inj.1
    show _ = BitVec.ofNat 32 _
    rw [BitVec.ofNat_toNat, BitVec.setWidth_eq]
  refine ab_Ki hZ (tk_MarkSearch_sumUp_0_0 (lp 16 0 _ (fun _ => (ab_rd m 47 0).toBitVec.toNat) 0 (by omega) (fun p h _ => ab_wr_n _ _ _ h) (fun p => rfl) (fun j hj => ab_rd_d _ _ _ hj) (fun b hb => ?_) rfl (by decide) (fun j hj => by omega))) (fun r m1 h => by rw [h.1]; trivial) (by decide) (Nat.le_of_ble_eq_true rfl)
  have hb : b = 0 := by omega
  subst hb
  refine ⟨?_, (ab_rd m 47 0).toBitVec.isLt, fun j hj => by omega⟩
  rw [ab_rd_n _ _ _ _ (by decide)]
  exact hx
/-- the best set of marks -/
def ms_B (G : Nat → Prop) (r : Int32) : Prop := (r = -1 ∧ ∀ n, n < 65536 → ¬ G n) ∨ ∃ n, r = nI n ∧ n < 65536 ∧ G n ∧ ∀ n', n' < 65536 → G n' → pp_bs n 16 < pp_bs n' 16 ∨ (pp_bs n 16 = pp_bs n' 16 ∧ n ≤ n')
theorem ms_B_one {G H : Nat → Prop} {r r' : Int32} (h : ms_B G r) (h' : ms_B H r') (e : ∀ n, n < 65536 → (G n ↔ H n)) : r = r' := by
  rcases h with ⟨a1, a2⟩ | ⟨n, a1, a2, a3, a4⟩ <;> rcases h' with ⟨b1, b2⟩ | ⟨n', b1, b2, b3, b4⟩
  · rw [a1, b1]
  · exact absurd ((e n' b2).mpr b3) (a2 n' b2)
  · exact absurd ((e n a2).mp a3) (b2 n a2)
  · have c1 := a4 n' b2 ((e n' b2).mpr b3)
    have c2 := b4 n a2 ((e n a2).mp a3)
    have : n = n' := by omega
    rw [a1, b1, this]
theorem ct_MarkSearch_fewestMarks {Z : ab_Z} (hZ : ab_okZ Z) {m : ab_M} {pb : Nat → Nat} {c k : Nat} (hpb : ∀ j, j < 16 → ab_rd m 46 j = nI (pb j) ∧ pb j < 2 ^ 24) (hc : ab_rd m 7 2 = nI c) (hc2 : c ≤ 24) (hk : k ≤ 24) : ab_K Z 18 21 [.inl (.ref 7), .inl (.int (nI k))] m (fun r m9 => (∃ v, r = some v ∧ ms_B (fun n => (c : Int) - k ≤ (pp_bs (ms_un pb n 16) 32 : Nat)) v) ∧ (∀ p, p ≠ 7 → p ≠ 47 → m9.1 p = m.1 p) ∧ ∀ p, m9.2 p = m.2 p) := by
  have en : (ab_rd m 7 2 - nI k).toInt = (c : Int) - k := by rw [hc, pk_sub_toInt (by omega) (by omega)]
  obtain ⟨r, m1, hC, hr, f1, f2, f3, bl, mo, f4, f5, f6, f7⟩ := ct_MarkSearch_sumUp hZ (m := ab_wr m 7 3 (ab_rd m 7 2 - nI k)) (pb := pb) (fun j hj => by rw [ab_rd_n _ _ _ _ (by decide)]; exact hpb j hj)
  rw [hr] at hC
  have hM : ms_M m1 pb bl ((c : Int) - k) mo := by
    refine ⟨fun j hj => ⟨?_, (hpb j hj).2, f7 j hj⟩, f4, ?_, by omega, by omega, f5, f6⟩
    · rw [← (hpb j hj).1]
      exact (congrFun (f1 _ (by decide) (by decide)) j).trans (ab_rd_n _ _ _ _ (by decide))
    · rw [f3 _ (by decide), ab_rd_s]
      exact en
  have lp : ∀ (j size : Nat), size + j = 17 → (∀ n, n < 65536 → (c : Int) - k ≤ (pp_bs (ms_un pb n 16) 32 : Nat) → size ≤ pp_bs n 16) → ab_T Z 21 18 (16, [(0, .inl (.ref 7)), (1, .inl (.int (nI k))), (2, .inl (.int (nI size)))], [], m1) (fun r m9 => (∃ v, r = some v ∧ ms_B (fun n => (c : Int) - k ≤ (pp_bs (ms_un pb n 16) 32 : Nat)) v) ∧ m9 = m1) := by
    intro j
    induction j with
    | zero =>
      intro size hs inv
      have hs : size = 17 := by omega
      subst hs
      refine tk_MarkSearch_fewestMarks_16_2 (by decide) ⟨⟨-1, rfl, Or.inl ⟨rfl, fun n hn hg => ?_⟩⟩, rfl⟩
      have := inv n hn hg
      have := pp_8 n 16
      omega
    | succ j ih =>
      intro size hs inv
      have h16 : ¬ (16 : Int32) < nI size := nI_nlt (b := size) (a := 16) (by omega) (by decide)
      obtain ⟨r, m2, hC2, ⟨v, hr2, hv⟩, hm2⟩ := ct_MarkSearch_leastSum hZ hM size 16 0 (by omega) (Nat.le_refl _) (by decide)
      rw [hr2, hm2] at hC2
      have hz : ∀ n, 0 ||| ms_un pb n 16 = ms_un pb n 16 := fun n => Nat.zero_or _
      rcases hv with ⟨z, hn⟩ | ⟨n0, z, hok, hmin⟩
      · refine tk_MarkSearch_fewestMarks_16_1 h16 ⟨show size + 1 < 18 by omega, hC2⟩ z ?_
        rw [nI_1]
        refine ih (size + 1) (by omega) (fun n hn' hg => ?_)
        have g := inv n hn' hg
        rcases Nat.lt_or_ge size (pp_bs n 16) with y | y
        · exact y
        · exact absurd ⟨hn', by omega, by rw [hz]; exact hg⟩ (hn n)
      · have hn0 : n0 < 65536 := hok.1
        have hv1 : ¬ v = -1 := fun y => by
          rw [z, ab_eqI, nI_toInt (by omega), ab_m1] at y
          omega
        refine tk_MarkSearch_fewestMarks_16_0 h16 ⟨show size + 1 < 18 by omega, hC2⟩ hv1 ⟨⟨v, rfl, Or.inr ⟨n0, z, hn0, by have := hok.2.2; rw [hz] at this; exact this, fun n' hn' hg => ?_⟩⟩, rfl⟩
        have g := inv n' hn' hg
        have g0 := hok.2.1
        rcases Nat.lt_or_ge size (pp_bs n' 16) with y | y
        · exact Or.inl (by omega)
        · exact Or.inr ⟨by omega, hmin n' ⟨hn', by omega, by rw [hz]; exact hg⟩⟩
  have fin := lp 17 0 (by omega) (fun n _ _ => Nat.zero_le _)
  refine ab_Ki hZ (tk_MarkSearch_fewestMarks_0_0 ⟨(by decide : 1 < 18), hC⟩ (fin.mono (fun r m9 h => ⟨h.1, fun p h1 h2 => ?_, fun p => ?_⟩))) (fun r m1 h => by obtain ⟨⟨v, rfl, -⟩, -⟩ := h; trivial) (by decide) (Nat.le_of_ble_eq_true rfl)
  · rw [h.2]
    exact (f1 p h1 h2).trans (ab_wr_n _ _ _ h1)
  · rw [h.2]
    exact f2 p
