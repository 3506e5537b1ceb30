/-! ===== questions ===== -/
/-- on which marks two finds differ -/
def qs_d (m : ab_M) (f g : Nat) : Nat := (ab_rd m 55 f).toNatClampNeg ^^^ (ab_rd m 55 g).toNatClampNeg
/-- the finds that a mark parts -/
def qs_p (m : ab_M) (f : Nat) (j : Nat) : Nat → Nat
  | 0 => 0
  | i + 1 => if kn_of m f i ∧ (qs_d m f i).testBit j = true then qs_p m f j i ||| 2 ^ i else qs_p m f j i
theorem qs_bit (m : ab_M) (f j g : Nat) : ∀ i, (qs_p m f j i).testBit g = true ↔ g < i ∧ kn_of m f g ∧ (qs_d m f g).testBit j = true
  | 0 => by
    unfold qs_p
    rw [Nat.zero_testBit]
    exact ⟨fun h => (by cases h), fun h => (by omega)⟩
  | i + 1 => by
    have ih := qs_bit m f j g i
    unfold qs_p
    by_cases q : kn_of m f i ∧ (qs_d m f i).testBit j = true
    · rw [if_pos q, bt_ins, ih]
      constructor
      · rintro (h | h)
        · exact ⟨by omega, h.2⟩
        · rw [h]
          exact ⟨by omega, q⟩
      · rintro ⟨h1, h2⟩
        by_cases e : g = i
        · exact Or.inr e
        · exact Or.inl ⟨by omega, h2⟩
    · rw [if_neg q, ih]
      constructor
      · rintro h
        exact ⟨by omega, h.2⟩
      · rintro ⟨h1, h2⟩
        by_cases e : g = i
        · rw [e] at h2
          exact absurd h2 q
        · exact ⟨by omega, h2⟩
theorem qs_lt (m : ab_M) (f j : Nat) : ∀ i, i ≤ 24 → qs_p m f j i < 2 ^ 24
  | 0, _ => by
    unfold qs_p
    decide
  | i + 1, h => by
    have ih := qs_lt m f j i (by omega)
    unfold qs_p
    by_cases q : kn_of m f i ∧ (qs_d m f i).testBit j = true
    · rw [if_pos q]
      exact bt_or_lt ih (by omega)
    · rw [if_neg q]
      exact ih
theorem qs_and {a b n : Nat} (ha : a < 2 ^ 31) (hb : b < 2 ^ 31) (hn : n < 65536) : ((nI a ^^^ nI b) &&& nI n = 0) ↔ ∀ j, j < 16 → n.testBit j = true → ¬ (a ^^^ b).testBit j = true := by
  have e : nI (a ^^^ b) &&& nI n = nI ((a ^^^ b) &&& n) := by
    apply Int32.toBitVec_inj.1
    show BitVec.ofNat 32 _ &&& BitVec.ofNat 32 _ = BitVec.ofNat 32 _
    apply BitVec.eq_of_getLsbD_eq
    intro i hi
    simp [hi]
  have hl : (a ^^^ b) &&& n < 65536 := Nat.lt_of_le_of_lt Nat.and_le_right hn
  rw [fb_xorI, e, show (0 : Int32) = nI 0 from rfl, nI_eq (by omega) (by decide)]
  constructor
  · intro h j _ h1 h2
    have : ((a ^^^ b) &&& n).testBit j = true := by rw [Nat.testBit_and, h1, h2]; rfl
    rw [h, Nat.zero_testBit] at this
    cases this
  · intro h
    apply Nat.eq_of_testBit_eq
    intro j
    rw [Nat.zero_testBit]
    cases e2 : ((a ^^^ b) &&& n).testBit j with
    | false => rfl
    | true =>
      rw [Nat.testBit_and, Bool.and_eq_true] at e2
      by_cases q : j < 16
      · exact absurd e2.1 (h j q e2.2)
      · have := Nat.testBit_lt_two_pow (Nat.lt_of_lt_of_le hn (show 2 ^ 16 ≤ 2 ^ j from Nat.pow_le_pow_right (by decide) (by omega)))
        rw [this] at e2
        cases e2.2
/-- both ways of counting -/
theorem qs_iff {m : ab_M} {nK nP nF f n k : Nat} (hF : iv_F m nK nP nF) (hf : f < nF) (hn : n < 65536) : ((cn_of (kn_of m f) nF : Nat) : Int) - k ≤ (pp_bs (ms_un (fun j => qs_p m f j nF) n 16) 32 : Nat) ↔ cn_of (fun g => kn_of m f g ∧ (ab_rd m 55 f ^^^ ab_rd m 55 g) &&& nI n = 0) nF ≤ k := by
  obtain ⟨g1, g2, g3, a1, a2, a3, a4, a5, a6, a7, a8, gg⟩ := id hF
  have key : ∀ g, g < nF → ((ab_rd m 55 f ^^^ ab_rd m 55 g) &&& nI n = 0 ↔ ∀ j, j < 16 → n.testBit j = true → ¬ (qs_d m f g).testBit j = true) := fun g hg => by
    obtain ⟨qf, h1, h2⟩ := (gg f hf).2.2.1
    obtain ⟨qg, h3, h4⟩ := (gg g hg).2.2.1
    unfold qs_d
    rw [h2, h4, ab_cl (by omega), ab_cl (by omega)]
    exact qs_and (by omega) (by omega) hn
  have e1 : pp_bs (ms_un (fun j => qs_p m f j nF) n 16) 32 = cn_of (fun g => kn_of m f g ∧ ¬ (ab_rd m 55 f ^^^ ab_rd m 55 g) &&& nI n = 0) nF := by
    have lt : ms_un (fun j => qs_p m f j nF) n 16 < 2 ^ nF := by
      apply Nat.lt_pow_two_of_testBit
      intro i hi
      cases e : (ms_un (fun j => qs_p m f j nF) n 16).testBit i with
      | false => rfl
      | true =>
        obtain ⟨j, -, -, h⟩ := (ms_bit _ n i 16).mp e
        have := ((qs_bit m f j i nF).mp h).1
        omega
    have := pp_ext lt (32 - nF)
    rw [show nF + (32 - nF) = 32 by omega] at this
    rw [this]
    refine cn_cong (fun g hg => ?_)
    rw [ms_bit, key g hg]
    constructor
    · rintro ⟨j, h1, h2, h3⟩
      have h4 := (qs_bit m f j g nF).mp h3
      exact ⟨h4.2.1, fun h => h j h1 h2 h4.2.2⟩
    · rintro ⟨h1, h2⟩
      by_cases q : ∃ j, j < 16 ∧ n.testBit j = true ∧ (qs_d m f g).testBit j = true
      · obtain ⟨j, j1, j2, j3⟩ := q
        exact ⟨j, j1, j2, (qs_bit m f j g nF).mpr ⟨hg, h1, j3⟩⟩
      · exact absurd (fun j j1 j2 j3 => q ⟨j, j1, j2, j3⟩) h2
  have e2 : cn_of (kn_of m f) nF = cn_of (fun g => kn_of m f g ∧ (ab_rd m 55 f ^^^ ab_rd m 55 g) &&& nI n = 0) nF + cn_of (fun g => kn_of m f g ∧ ¬ (ab_rd m 55 f ^^^ ab_rd m 55 g) &&& nI n = 0) nF := cn_or (fun g _ => by
    constructor
    · intro h
      by_cases q : (ab_rd m 55 f ^^^ ab_rd m 55 g) &&& nI n = 0
      · exact Or.inl ⟨h, q⟩
      · exact Or.inr ⟨h, q⟩
    · intro h
      exact h.elim And.left And.left) (fun g _ h => h.2.2 h.1.2)
  rw [e1]
  omega
theorem ct_J_fill_pb {Z : ab_Z} (hZ : ab_okZ Z) {m : ab_M} : ab_C Z 0 146 [.inl (.ref 46), .inl (.int 0)] m none (lp_f m 46 0 16 (fun _ _ => 0)) := by
  have lp : ∀ (k i : Nat), i + k = 16 → ab_T Z 146 0 (5, [(0, .inl (.ref 46)), (1, .inl (.int 0)), (2, .inl (.int (nI i))), (3, .inl (.int (Int32.ofNat 16)))], [], lp_f m 46 0 i (fun _ _ => 0)) (fun r m9 => r = none ∧ m9 = lp_f m 46 0 16 (fun _ _ => 0)) := by
    intro k
    induction k with
    | zero =>
      intro i hi
      have hi : i = 16 := by omega
      subst hi
      exact tk_J_fill46_5_1 (Int32.le_refl _) ⟨rfl, rfl⟩
    | succ k ih =>
      intro i hi
      refine tk_J_fill46_5_0 (nI_ge (b := 16) (by omega) (by decide)) (ab_in (by omega) (by decide)) ?_
      rw [ab_cl (by omega), nI_1]
      have := lp_f_s m 46 0 i (fun _ _ => 0) (v := 0) rfl
      rw [Nat.zero_add] at this
      rw [this]
      exact ih (i + 1) (by omega)
  refine ab_Kv hZ (tk_J_fill46_0_0 ?_) trivial (by decide) (Nat.le_of_ble_eq_true rfl)
  have := lp 16 0 rfl
  rw [lp_f_0] at this
  exact this
theorem ct_MarkSearch_add {Z : ab_Z} (hZ : ab_okZ Z) {g q : Nat} {m : ab_M} (hg : g < 24) (hq : q < 65536) : ab_C Z 0 20 [.inl (.ref 7), .inl (.int (nI g)), .inl (.int (nI q))] m none (lp_f (ab_wr m 7 2 (ab_rd m 7 2 + 1)) 46 0 16 (fun j v => if q.testBit j = true then v ||| nI (2 ^ g) else v)) := by
  have lp : ∀ (k i : Nat), i + k = 16 → ab_T Z 20 0 (12, [(0, .inl (.ref 7)), (1, .inl (.int (nI g))), (2, .inl (.int (nI q))), (3, .inl (.int (nI i)))], [], lp_f (ab_wr m 7 2 (ab_rd m 7 2 + 1)) 46 0 i (fun j v => if q.testBit j = true then v ||| nI (2 ^ g) else v)) (fun r m9 => r = none ∧ m9 = lp_f (ab_wr m 7 2 (ab_rd m 7 2 + 1)) 46 0 16 (fun j v => if q.testBit j = true then v ||| nI (2 ^ g) else v)) := by
    intro k
    induction k with
    | zero =>
      intro i hi
      have hi : i = 16 := by omega
      subst hi
      exact tk_MarkSearch_add_12_2 (Int32.le_refl _) ⟨rfl, rfl⟩
    | succ k ih =>
      intro i hi
      have h16 : ¬ (16 : Int32) ≤ nI i := nI_ge (b := 16) (by omega) (by decide)
      have hii := ab_in (n := i) (N := 16) (by omega) (by decide)
      have bit := bt_bit0 (n := q) (j := i) (by omega) (by omega)
      by_cases z : q.testBit i = true
      · refine tk_MarkSearch_add_12_0 h16 (fun y => bit.mp y z) hii hii ?_
        rw [ab_cl (by omega), nI_1, bt_shl (by omega), lp_f_rd, if_neg (by omega)]
        have := lp_f_s (ab_wr m 7 2 (ab_rd m 7 2 + 1)) 46 0 i (fun j v => if q.testBit j = true then v ||| nI (2 ^ g) else v) (v := ab_rd (ab_wr m 7 2 (ab_rd m 7 2 + 1)) 46 i ||| nI (2 ^ g)) (by rw [Nat.zero_add, if_pos z])
        rw [Nat.zero_add] at this
        rw [this]
        exact ih (i + 1) (by omega)
      · refine tk_MarkSearch_add_12_1 h16 (bit.mpr z) ?_
        rw [nI_1, lp_f_k (ab_wr m 7 2 (ab_rd m 7 2 + 1)) 46 0 i (fun j v => if q.testBit j = true then v ||| nI (2 ^ g) else v) (by rw [Nat.zero_add, if_neg z])]
        exact ih (i + 1) (by omega)
  refine ab_Kv hZ (tk_MarkSearch_add_0_0 ?_) trivial (by decide) (Nat.le_of_ble_eq_true rfl)
  have := lp 16 0 rfl
  rw [lp_f_0] at this
  exact this
/-- the class's side: what it answers, and that nothing else has changed -/
theorem cl_D_questions {Z : ab_Z} (hZ : ab_okZ Z) {m : ab_M} {nK nP nF nL f k : Nat} (hD : iv_D m nK nP nF nL) (hf : f < nF) (hk : k ≤ 24) : ∀ (j i : Nat) (M : ab_M), i + j = nF → iv_sk m M → ab_rd M 7 2 = nI (cn_of (kn_of m f) i) → (∀ q, q < 16 → ab_rd M 46 q = nI (qs_p m f q i)) → ab_T Z 69 40 (59, [(0, .inl (.ref 0)), (1, .inl (.int (nI f))), (2, .inl (.int (nI k))), (3, .inl (.int (nI i)))], [], M) (fun r m9 => ∃ (v : Int32) (M1 : ab_M), r = some v ∧ iv_sk m M1 ∧ ms_B (fun n => ((cn_of (kn_of m f) nF : Nat) : Int) - k ≤ (pp_bs (ms_un (fun j => qs_p m f j nF) n 16) 32 : Nat)) v ∧ m9 = ab_wr M1 0 11 (if v = -1 then 7 else 0)) := by
  obtain ⟨hK, hN, hP, hF, hL⟩ := id hD
  obtain ⟨g1, g2, g3, a1, a2, a3, a4, a5, a6, a7, a8, gg⟩ := id hF
  intro j
  induction j with
  | zero =>
    intro i M hi hM hc hp
    have hi : i = nF := by omega
    subst hi
    have ec : ab_rd M 4 8 = nI i := by rw [hM.rd (p := 4) (by decide) (by decide)]; exact g2
    have hcl := cn_le (kn_of m f) i
    obtain ⟨r, m1, hC, ⟨v, hr, hv⟩, f1, f2⟩ := ct_MarkSearch_fewestMarks hZ (m := M) (pb := fun q => qs_p m f q i) (c := cn_of (kn_of m f) i) (k := k) (fun q hq => ⟨hp q hq, qs_lt m f q i g1⟩) hc (by omega) hk
    rw [hr] at hC
    have hM1 : iv_sk m m1 := hM.trans ⟨fun p b c => f1 p (fun e => c (by rw [e]; decide)) (fun e => c (by rw [e]; decide)), f2, fun q _ => by rw [f1 8 (by decide) (by decide)]⟩
    by_cases q : v = -1
    · refine tk_D_questions_59_2 (by rw [ec]; exact Int32.le_refl _) ⟨(by decide : 18 < 40), hC⟩ q ⟨(by decide : 0 < 40), ct_D_refuse hZ 7 _⟩ ⟨-1, m1, rfl, hM1, ?_, rfl⟩
      rw [← q]
      exact hv
    · refine tk_D_questions_59_3 (by rw [ec]; exact Int32.le_refl _) ⟨(by decide : 18 < 40), hC⟩ q ⟨(by decide : 0 < 40), ct_D_answer hZ v _⟩ ⟨v, m1, rfl, hM1, hv, ?_⟩
      rw [if_neg q]
  | succ j ih =>
    intro i M hi hM hc hp
    have ec : ab_rd M 4 8 = nI nF := by rw [hM.rd (p := 4) (by decide) (by decide)]; exact g2
    have hlt : ¬ ab_rd M 4 8 ≤ nI i := by rw [ec]; exact nI_ge (by omega) (by omega)
    obtain ⟨hK', -, -, hF', -⟩ := hD.sc hM.sc
    have hkl := ct_D_isKeptInLine hZ hK' hF' hf (show i < nF by omega)
    have ekn : kn_of M f i = kn_of m f i := congrFun (kn_cong hM f) i
    have hcl := cn_le (kn_of m f) i
    by_cases z : kn_of m f i
    · have hdm := ct_D_differingMarks hZ (f := f) (g := i) (by omega) (by omega) M
      have e1 : ab_rd M 21 f ^^^ ab_rd M 21 i = nI (qs_d m f i) := by
        rw [hM.rd (p := 21) (by decide) (by decide), a3, a3]
        obtain ⟨qf, h1, h2⟩ := (gg f hf).2.2.1
        obtain ⟨qg, h3, h4⟩ := (gg i (by omega)).2.2.1
        unfold qs_d
        rw [h2, h4, ab_cl (by omega), ab_cl (by omega), fb_xorI]
      have e2 : qs_d m f i < 65536 := by
        obtain ⟨qf, h1, h2⟩ := (gg f hf).2.2.1
        obtain ⟨qg, h3, h4⟩ := (gg i (by omega)).2.2.1
        unfold qs_d
        rw [h2, h4, ab_cl (by omega), ab_cl (by omega)]
        exact Nat.xor_lt_two_pow (n := 16) (by omega) (by omega)
      rw [e1] at hdm
      refine tk_D_questions_59_0 hlt ⟨(by decide : 2 < 40), hkl⟩ (ab_b_n.mpr (by rw [ekn]; exact z)) ⟨(by decide : 0 < 40), hdm⟩ ⟨(by decide : 0 < 40), ct_MarkSearch_add hZ (by omega) e2⟩ ?_
      rw [nI_1]
      refine ih (i + 1) _ (by omega) ((hM.trans (iv_sk.s M _ _ (by decide) (by decide))).trans (iv_sk.lp _ _ _ _ (by decide) (by decide))) ?_ (fun q hq => ?_)
      · rw [cn_s, if_pos z, lp_f_rn _ _ _ _ (by decide), ab_rd_s, hc, nI_1]
      · rw [lp_f_rd, if_pos (by omega), ab_rd_n _ _ _ _ (by decide), hp q hq]
        show (if (qs_d m f i).testBit q = true then nI (qs_p m f q i) ||| nI (2 ^ i) else nI (qs_p m f q i)) = nI (if kn_of m f i ∧ (qs_d m f i).testBit q = true then qs_p m f q i ||| 2 ^ i else qs_p m f q i)
        by_cases y : (qs_d m f i).testBit q = true
        · rw [if_pos y, if_pos ⟨z, y⟩, fb_orI]
        · rw [if_neg y, if_neg (fun w => y w.2)]
    · refine tk_D_questions_59_1 hlt ⟨(by decide : 2 < 40), hkl⟩ (ab_b_0.mpr (by rw [ekn]; exact z)) ?_
      rw [nI_1]
      refine ih (i + 1) M (by omega) hM ?_ (fun q hq => ?_)
      · rw [cn_s, if_neg z]
        exact hc
      · rw [hp q hq]
        show nI (qs_p m f q i) = nI (if kn_of m f i ∧ (qs_d m f i).testBit q = true then qs_p m f q i ||| 2 ^ i else qs_p m f q i)
        rw [if_neg (fun w => z w.1)]
/-- the reference's loop -/
theorem cl_M_questions {Z : ab_Z} (hZ : ab_okZ Z) {m m9 : ab_M} {f n k : Nat} (h : kn_P m f n m9) (hn : n ≤ 24) (hf : f < 24) (hk : k ≤ 24) {G : Nat → Prop} (hG : ∀ s, s < 65536 → (G s ↔ cn_of (fun g => kn_of m f g ∧ (ab_rd m 55 f ^^^ ab_rd m 55 g) &&& nI s = 0) n ≤ k)) : ∀ (j s : Nat) (w : Nat) (v : Int32), s + j = 65536 → ((w = 17 ∧ v = -1 ∧ ∀ q, q < s → ¬ G q) ∨ ∃ q, v = nI q ∧ q < s ∧ G q ∧ w = pp_bs q 16 ∧ ∀ q', q' < s → G q' → pp_bs q 16 < pp_bs q' 16 ∨ (pp_bs q 16 = pp_bs q' 16 ∧ q ≤ q')) → ab_T Z 130 40 (88, [(0, .inl (.ref 8)), (1, .inl (.int (nI f))), (2, .inl (.int (nI k))), (3, .inl (.int (nI w))), (4, .inl (.int v)), (5, .inl (.int (nI s)))], [], m9) (fun r m8 => (∃ v, r = some v ∧ ms_B G v) ∧ m8 = m9) := by
  intro j
  induction j with
  | zero =>
    intro s w v hs inv
    have hs : s = 65536 := by omega
    subst hs
    refine tk_M_questions_88_3 (by decide) ⟨⟨v, rfl, ?_⟩, rfl⟩
    rcases inv with ⟨-, h2, h3⟩ | ⟨q, h1, h2, h3, h4, h5⟩
    · exact Or.inl ⟨h2, h3⟩
    · exact Or.inr ⟨q, h1, h2, h3, h5⟩
  | succ j ih =>
    intro s w v hs inv
    have h5 : ¬ (65535 : Int32) < nI s := nI_nlt (b := s) (a := 65535) (by omega) (by decide)
    have hbc := ct_J_bitCount hZ (nI s) m9
    rw [pp_int (by omega), pp_32 (by omega)] at hbc
    have hl := pp_8 s 16
    have hw : w ≤ 17 := by
      rcases inv with ⟨h1, -⟩ | ⟨q, -, -, -, h1, -⟩
      · omega
      · have := pp_8 q 16
        omega
    have hal := ct_M_alikes hZ h hn hf (nI s)
    have hcl := cn_le (fun g => kn_of m f g ∧ (ab_rd m 55 f ^^^ ab_rd m 55 g) &&& nI s = 0) n
    by_cases q1 : w ≤ pp_bs s 16
    · refine tk_M_questions_88_2 h5 ⟨(by decide : 0 < 40), hbc⟩ (nI_le q1 (by omega)) ?_
      rw [nI_1]
      refine ih (s + 1) w v (by omega) ?_
      rcases inv with ⟨h1, h2, h3⟩ | ⟨q, h1, h2, h3, h4, h6⟩
      · omega
      · refine Or.inr ⟨q, h1, by omega, h3, h4, fun q' hq' hg => ?_⟩
        by_cases e : q' = s
        · rw [e]
          omega
        · exact h6 q' (by omega) hg
    · have hlt : ¬ nI w ≤ nI (pp_bs s 16) := nI_ge (by omega) (by omega)
      by_cases q2 : G s
      · have q2' := (hG s (by omega)).mp q2
        refine tk_M_questions_88_1 h5 ⟨(by decide : 0 < 40), hbc⟩ hlt ⟨(by decide : 0 < 40), hal⟩ (nI_le q2' (by omega)) ⟨(by decide : 0 < 40), hbc⟩ ?_
        rw [nI_1]
        refine ih (s + 1) (pp_bs s 16) (nI s) (by omega) (Or.inr ⟨s, rfl, by omega, q2, rfl, fun q' hq' hg => ?_⟩)
        by_cases e : q' = s
        · rw [e]
          omega
        · rcases inv with ⟨h1, h2, h3⟩ | ⟨q, h1, h2, h3, h4, h6⟩
          · exact absurd hg (h3 q' (by omega))
          · have := h6 q' (by omega) hg
            omega
      · have q2' : ¬ cn_of (fun g => kn_of m f g ∧ (ab_rd m 55 f ^^^ ab_rd m 55 g) &&& nI s = 0) n ≤ k := fun z => q2 ((hG s (by omega)).mpr z)
        refine tk_M_questions_88_0 h5 ⟨(by decide : 0 < 40), hbc⟩ hlt ⟨(by decide : 0 < 40), hal⟩ (nI_ge (by omega) (by omega)) ?_
        rw [nI_1]
        refine ih (s + 1) w v (by omega) ?_
        rcases inv with ⟨h1, h2, h3⟩ | ⟨q, h1, h2, h3, h4, h6⟩
        · refine Or.inl ⟨h1, h2, fun q hq => ?_⟩
          by_cases e : q = s
          · rw [e]
            exact q2
          · exact h3 q (by omega)
        · refine Or.inr ⟨q, h1, by omega, h3, h4, fun q' hq' hg => ?_⟩
          by_cases e : q' = s
          · rw [e] at hg
            exact absurd hg q2
          · exact h6 q' (by omega) hg
theorem op_questions {Z : ab_Z} (hZ : ab_okZ Z) (x y : Int32) {m : ab_M} (hI : iv_A m) : iv_Op Z 69 130 [.inl (.int x), .inl (.int y)] m := by
  have hI' := hI
  obtain ⟨nK, nP, nF, nL, nO, h⟩ := hI'
  have hD := h.D
  obtain ⟨hK, hN, hP, hF, hL⟩ := id hD
  obtain ⟨g1, g2, g3, a1, a2, a3, a4, a5, a6, a7, a8, g⟩ := id hF
  have cD : (ab_rd m 4 8).toInt = nF := iv_toI g2 (by omega)
  have cM : (ab_rd m 8 4).toInt = nF := iv_toI g3 (by omega)
  have e24 : (24 : Int32).toInt = 24 := rfl
  by_cases hx : 0 ≤ x.toInt ∧ x.toInt < nF
  · have x1 : ¬ ab_b (0 ≤ x.toInt ∧ x.toInt < (ab_rd m 4 8).toInt) = 0 := ab_b_n.mpr (by rw [cD]; exact hx)
    have x2 : ¬ ab_b (0 ≤ x.toInt ∧ x.toInt < (ab_rd m 8 4).toInt) = 0 := ab_b_n.mpr (by rw [cM]; exact hx)
    obtain ⟨f, hf, rfl⟩ := iv_ix hx (by omega)
    have hif := ab_in (n := f) (N := 24) (by omega) (by decide)
    have hcf := ab_cl (n := f) (by omega)
    by_cases hy : 1 ≤ y.toInt ∧ y.toInt ≤ 24
    · have y1 : ¬ ab_b ((1 : Int32).toInt ≤ y.toInt ∧ y.toInt ≤ (24 : Int32).toInt) = 0 := ab_b_n.mpr (by rw [e24, ab_t1]; exact hy)
      have y2 : ¬ y < 1 := by rw [ab_ltI, ab_t1]; omega
      have y3 : y ≤ 24 := by rw [ab_leI, e24]; omega
      by_cases hs : ab_rd m 58 f = 0
      · obtain ⟨k, hk, rfl⟩ := iv_ix (x := y) (n := 25) (by omega) (by decide)
        have hcl : ab_C Z 1 19 [.inl (.ref 7)] m none (ab_wr (lp_f m 46 0 16 (fun _ _ => 0)) 7 2 0) := ab_Kv hZ (tk_MarkSearch_clear_0_0 ⟨(by decide : 0 < 1), ct_J_fill_pb hZ⟩ ⟨rfl, rfl⟩) trivial (by decide) (Nat.le_of_ble_eq_true rfl)
        have hT := cl_D_questions hZ (k := k) hD hf (by omega) nF 0 (ab_wr (lp_f m 46 0 16 (fun _ _ => 0)) 7 2 0) (by omega) ((iv_sk.lp m _ _ _ (by decide) (by decide)).trans (iv_sk.s _ _ _ (by decide) (by decide))) (ab_rd_s _ _ _ _) (fun q hq => by
          rw [ab_rd_n _ _ _ _ (by decide), lp_f_rd, if_pos (by omega)]
          rfl)
        have hK1 := ab_Ki (As := [.inl (.ref 0), .inl (.int (nI f)), .inl (.int (nI k))]) hZ (tk_D_questions_0_3 ⟨(by decide : 0 < 40), ct_Finds_has hZ _ m⟩ x1 ⟨(by decide : 0 < 40), ct_D_isWithin hZ (nI k) 1 24 m⟩ y1 ⟨(by decide : 0 < 40), ct_Finds_isKept hZ (by omega) m⟩ (ab_b_n.mpr (by rw [a6]; exact hs)) ⟨(by decide : 1 < 40), hcl⟩ hT) (fun r m1 h => by obtain ⟨v, M1, rfl, -⟩ := h; trivial) (by decide) (Nat.le_of_ble_eq_true rfl)
        obtain ⟨r, m1, hC1, v, M1, hr, hM1, hv, em1⟩ := hK1
        rw [hr] at hC1
        -- the reference
        have sc1 : iv_sc m m1 := by
          rw [em1]
          exact hM1.sc.trans (iv_sc.d _ _)
        have sc2 : iv_sc m (iv_m0 m1) := sc1.trans (iv_sc.m0 _)
        obtain ⟨hK2, -, -, hF2, -⟩ := hD.sc sc2
        obtain ⟨r3, m3, hC3, hr3, hP3⟩ := ct_M_kins hZ hK2 hF2 hf
        rw [hr3] at hC3
        have ef : ab_rd (iv_m0 m1) 55 = ab_rd m 55 := sc2.1 _ (by decide) (by decide) (by decide)
        have ek : kn_of (iv_m0 m1) f = kn_of m f := by
          funext g
          unfold kn_of
          rw [show ab_rd (iv_m0 m1) 58 = ab_rd m 58 from sc2.1 _ (by decide) (by decide) (by decide), show ab_rd (iv_m0 m1) 48 = ab_rd m 48 from sc2.1 _ (by decide) (by decide) (by decide), show ab_rd (iv_m0 m1) 53 = ab_rd m 53 from sc2.1 _ (by decide) (by decide) (by decide)]
        have hal := ct_M_alikes hZ hP3 g1 (by omega) 65535
        have hiff : ∀ s, s < 65536 → ((((cn_of (kn_of (iv_m0 m1) f) nF : Nat) : Int) - k ≤ (pp_bs (ms_un (fun j => qs_p (iv_m0 m1) f j nF) s 16) 32 : Nat)) ↔ cn_of (fun g => kn_of (iv_m0 m1) f g ∧ (ab_rd (iv_m0 m1) 55 f ^^^ ab_rd (iv_m0 m1) 55 g) &&& nI s = 0) nF ≤ k) := fun s hs => qs_iff hF2 hf hs
        have e5 : (65535 : Int32) = nI 65535 := rfl
        rw [e5] at hal
        have hcc := cn_le (fun g => kn_of (iv_m0 m1) f g ∧ (ab_rd (iv_m0 m1) 55 f ^^^ ab_rd (iv_m0 m1) 55 g) &&& nI 65535 = 0) nF
        have x2' : ¬ ab_b (0 ≤ (nI f).toInt ∧ (nI f).toInt < (ab_rd (iv_m0 m1) 8 4).toInt) = 0 := by
          rw [show ab_rd (iv_m0 m1) 8 4 = ab_rd m 8 4 from sc2.2.2.2 _ (by decide)]
          exact x2
        have hs' : ab_rd (iv_m0 m1) 58 (nI f).toNatClampNeg = 0 := by
          rw [hcf, show ab_rd (iv_m0 m1) 58 = ab_rd m 58 from sc2.1 _ (by decide) (by decide) (by decide)]
          exact hs
        have eqd : qs_d (iv_m0 m1) f = qs_d m f := by
          funext g
          unfold qs_d
          rw [ef]
        have eqp : ∀ j i, qs_p (iv_m0 m1) f j i = qs_p m f j i := by
          intro j i
          induction i with
          | zero => rfl
          | succ i ih =>
            show (if kn_of (iv_m0 m1) f i ∧ (qs_d (iv_m0 m1) f i).testBit j = true then qs_p (iv_m0 m1) f j i ||| 2 ^ i else qs_p (iv_m0 m1) f j i) = (if kn_of m f i ∧ (qs_d m f i).testBit j = true then qs_p m f j i ||| 2 ^ i else qs_p m f j i)
            have e : (kn_of (iv_m0 m1) f i ∧ (qs_d (iv_m0 m1) f i).testBit j = true) ↔ (kn_of m f i ∧ (qs_d m f i).testBit j = true) := by rw [show kn_of (iv_m0 m1) f i = kn_of m f i from congrFun ek i, eqd]
            rw [ih]
            by_cases q : kn_of m f i ∧ (qs_d m f i).testBit j = true
            · rw [if_pos q, if_pos (e.mpr q)]
            · rw [if_neg q, if_neg (fun z => q (e.mp z))]
        have ecn : cn_of (kn_of (iv_m0 m1) f) nF = cn_of (kn_of m f) nF := cn_cong (fun g _ => by rw [show kn_of (iv_m0 m1) f g = kn_of m f g from congrFun ek g])
        have eqpf : (fun j => qs_p (iv_m0 m1) f j nF) = fun j => qs_p m f j nF := by
          funext j
          exact eqp j nF
        by_cases q : cn_of (fun g => kn_of (iv_m0 m1) f g ∧ (ab_rd (iv_m0 m1) 55 f ^^^ ab_rd (iv_m0 m1) 55 g) &&& nI 65535 = 0) nF ≤ k
        · have lp := cl_M_questions hZ hP3 g1 (show f < 24 by omega) (show k ≤ 24 by omega) hiff 65536 0 17 (-1) (by omega) (Or.inl ⟨rfl, rfl, fun q hq => by omega⟩)
          have hK4 := ab_Ki (As := [.inl (.ref 8), .inl (.int (nI f)), .inl (.int (nI k))]) hZ (tk_M_questions_0_4 ⟨(by decide : 0 < 40), ct_M_isFind hZ _ _⟩ x2' y2 y3 hif hs' ⟨(by decide : 2 < 40), hC3⟩ ⟨(by decide : 0 < 40), hal⟩ (nI_le q (by omega)) lp) (fun r m1 h => by obtain ⟨⟨v, rfl, -⟩, -⟩ := h; trivial) (by decide) (Nat.le_of_ble_eq_true rfl)
          obtain ⟨r4, m4, hC4, ⟨u, hr4, hu⟩, hm4⟩ := hK4
          rw [hr4, hm4] at hC4
          have euv : v = u := ms_B_one hv hu (fun n _ => by rw [ecn, eqpf])
          have hne : ¬ u = -1 := fun z => by
            rcases hu with ⟨-, h2⟩ | ⟨n, h1, h2, -⟩
            · exact h2 65535 (by decide) ((hiff 65535 (by decide)).mpr q)
            · rw [z, ab_eqI, nI_toInt (by omega), ab_m1] at h1
              omega
          rw [← euv] at hC4 hne
          rw [if_neg hne] at em1
          refine ⟨v, m1, m3, hC1, hC4, nK, nP, nF, nL, nO, h.sc (sc2.trans hP3.1.sc) ?_⟩
          rw [hP3.1.rd (p := 0) (by decide) (by decide), hP3.1.rm (by decide), em1]
          rfl
        · have hv1 : v = -1 := by
            rcases hv with ⟨h1, -⟩ | ⟨n, h1, h2, h3, -⟩
            · exact h1
            · exfalso
              have h4 : ((cn_of (kn_of (iv_m0 m1) f) nF : Nat) : Int) - k ≤ (pp_bs (ms_un (fun j => qs_p (iv_m0 m1) f j nF) n 16) 32 : Nat) := by rw [ecn, eqpf]; exact h3
              have h5 := (hiff n h2).mp h4
              refine q (Nat.le_trans (cn_sub (fun g hg hh => ⟨hh.1, ?_⟩)) h5)
              obtain ⟨qf, w1, w2⟩ := (hF2.2.2.2.2.2.2.2.2.2.2.2 f hf).2.2.1
              obtain ⟨qg, w3, w4⟩ := (hF2.2.2.2.2.2.2.2.2.2.2.2 g hg).2.2.1
              have hh2 := hh.2
              rw [w2, w4] at hh2 ⊢
              rw [qs_and (by omega) (by omega) (by decide)] at hh2
              rw [qs_and (by omega) (by omega) h2]
              exact fun j hj _ => hh2 j hj ((by decide : ∀ j, j < 16 → (65535 : Nat).testBit j = true) j hj)
          subst hv1
          rw [if_pos rfl] at em1
          refine ⟨-1, m1, _, hC1, ab_Kc hZ (tk_M_questions_0_3 ⟨(by decide : 0 < 40), ct_M_isFind hZ _ _⟩ x2' y2 y3 hif hs' ⟨(by decide : 2 < 40), hC3⟩ ⟨(by decide : 0 < 40), hal⟩ (nI_ge (by omega) (by omega)) ⟨(by decide : 0 < 40), ct_M_refuse hZ 7 _⟩ ⟨rfl, rfl⟩) trivial (by decide) (Nat.le_of_ble_eq_true rfl), nK, nP, nF, nL, nO, h.sc ((sc2.trans hP3.1.sc).trans (iv_sc.m _ 7 (by decide))) ?_⟩
          show ab_rd m3 0 11 = 7
          rw [hP3.1.rd (p := 0) (by decide) (by decide), em1]
          rfl
      · exact ⟨-1, _, _, ab_Kc hZ (tk_D_questions_0_2 ⟨(by decide : 0 < 40), ct_Finds_has hZ _ m⟩ x1 ⟨(by decide : 0 < 40), ct_D_isWithin hZ y 1 24 m⟩ y1 ⟨(by decide : 0 < 40), ct_Finds_isKept hZ (by omega) m⟩ (ab_b_0.mpr (by rw [a6]; exact hs)) ⟨by decide, ct_D_refuse hZ 5 _⟩ ⟨rfl, rfl⟩) trivial (by decide) (Nat.le_of_ble_eq_true rfl), ab_Kc hZ (tk_M_questions_0_2 ⟨(by decide : 0 < 40), ct_M_isFind hZ _ _⟩ x2 y2 y3 hif (by rw [hcf]; exact hs) ⟨by decide, ct_M_refuse hZ 5 _⟩ ⟨rfl, rfl⟩) trivial (by decide) (Nat.le_of_ble_eq_true rfl), iv_refused hI 5⟩
    · refine ⟨-1, _, _, ab_Kc hZ (tk_D_questions_0_1 ⟨(by decide : 0 < 40), ct_Finds_has hZ _ m⟩ x1 ⟨(by decide : 0 < 40), ct_D_isWithin hZ y 1 24 m⟩ (ab_b_0.mpr (by rw [e24, ab_t1]; exact hy)) ⟨by decide, ct_D_refuse hZ 2 _⟩ ⟨rfl, rfl⟩) trivial (by decide) (Nat.le_of_ble_eq_true rfl), (?_ : ab_C Z 40 130 [.inl (.ref 8), .inl (.int (nI f)), .inl (.int y)] (ab_wr m 0 11 2) (some (-1)) (ab_wr (iv_m0 (ab_wr m 0 11 2)) 8 0 2)), iv_refused hI 2⟩
      refine ab_Kc hZ ?_ trivial (by decide) (Nat.le_of_ble_eq_true rfl)
      by_cases z : y < 1
      · exact tk_M_questions_0_5 ⟨(by decide : 0 < 40), ct_M_isFind hZ _ _⟩ x2 z ⟨by decide, ct_M_refuse hZ 2 _⟩ ⟨rfl, rfl⟩
      · refine tk_M_questions_0_1 ⟨(by decide : 0 < 40), ct_M_isFind hZ _ _⟩ x2 z ?_ ⟨by decide, ct_M_refuse hZ 2 _⟩ ⟨rfl, rfl⟩
        rw [ab_ltI, ab_t1] at z
        rw [ab_leI, e24]
        omega
  · exact ⟨-1, _, _, ab_Kc hZ (tk_D_questions_0_0 ⟨by decide, ct_Finds_has hZ x m⟩ (ab_b_0.mpr (by rw [cD]; exact hx)) ⟨by decide, ct_D_refuse hZ 1 _⟩ ⟨rfl, rfl⟩) trivial (by decide) (Nat.le_of_ble_eq_true rfl), ab_Kc hZ (tk_M_questions_0_0 ⟨by decide, ct_M_isFind hZ x _⟩ (ab_b_0.mpr (show ¬ (0 ≤ x.toInt ∧ x.toInt < (ab_rd m 8 4).toInt) by rw [cM]; exact hx)) ⟨by decide, ct_M_refuse hZ 1 _⟩ ⟨rfl, rfl⟩) trivial (by decide) (Nat.le_of_ble_eq_true rfl), iv_refused hI 1⟩
