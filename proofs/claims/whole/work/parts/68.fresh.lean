/-! ===== the class finds BEST anew ===== -/
theorem iv_cost_m1 (m : ab_M) (nP l f : Nat) : -1 ≤ iv_cost m nP l f := by
  unfold iv_cost ct_sum
  by_cases c : iv_on (kd_st (ab_rd m 48) (ab_rd m 61 l).toNatClampNeg (ab_rd m 53 f).toNatClampNeg) < 0 ∨ ct_col (fun a b => ¬ ab_rd m 50 (12 * a + b) = 0) (ab_rd m 62 l) (ab_rd m 54 f) < 0 ∨ ds_far (iv_w m nP) (ab_rd m 64 l).toNatClampNeg (ab_rd m 56 f).toNatClampNeg < 0 ∨ (ab_rd m 57 f).toInt - (ab_rd m 65 l).toInt < ds_far (iv_w m nP) (ab_rd m 64 l).toNatClampNeg (ab_rd m 56 f).toNatClampNeg
  · rw [if_pos c]
    omega
  · rw [if_neg c]
    have := ab_bc_le (ab_rd m 63 l &&& (ab_rd m 55 f ^^^ -1))
    omega
theorem iv_cost_le {m : ab_M} {nK nP nF nL l f : Nat} (hF : iv_F m nK nP nF) (hL : iv_L m nK nP nL) (hl : l < nL) (hf : f < nF) : iv_cost m nP l f ≤ 20000 := by
  have h1 := (hF.2.2.2.2.2.2.2.2.2.2.2 f hf).2.2.2.2.1
  have h2 := (hL.2.2.2.2.2.2.2.2.2.2.2.2 l hl).2.2.2.2
  have h3 := ab_bc_le (ab_rd m 63 l &&& (ab_rd m 55 f ^^^ -1))
  have h4 := iv_on_le (up := ab_rd m 48) (a := (ab_rd m 61 l).toNatClampNeg) (b := (ab_rd m 53 f).toNatClampNeg)
  have h5 := cc_le (fun a b => ¬ ab_rd m 50 (12 * a + b) = 0) (ab_rd m 62 l) (ab_rd m 54 f)
  unfold iv_cost ct_sum
  by_cases c : iv_on (kd_st (ab_rd m 48) (ab_rd m 61 l).toNatClampNeg (ab_rd m 53 f).toNatClampNeg) < 0 ∨ ct_col (fun a b => ¬ ab_rd m 50 (12 * a + b) = 0) (ab_rd m 62 l) (ab_rd m 54 f) < 0 ∨ ds_far (iv_w m nP) (ab_rd m 64 l).toNatClampNeg (ab_rd m 56 f).toNatClampNeg < 0 ∨ (ab_rd m 57 f).toInt - (ab_rd m 65 l).toInt < ds_far (iv_w m nP) (ab_rd m 64 l).toNatClampNeg (ab_rd m 56 f).toNatClampNeg
  · rw [if_pos c]
    omega
  · rw [if_neg c]
    omega
theorem iv_pr_le {m : ab_M} {nK nP nF nL l s : Nat} (hF : iv_F m nK nP nF) (hL : iv_L m nK nP nL) (hg : 0 ≤ (ab_rd m 8 6).toInt ∧ (ab_rd m 8 6).toInt ≤ 100) (hl : l < nL) : 0 ≤ iv_pr m nP nF l s ∧ iv_pr m nP nF l s ≤ 1000000 := by
  unfold iv_pr
  by_cases q : s < nF
  · rw [if_pos q]
    by_cases z : ab_rd m 58 s = 0 ∧ 0 ≤ iv_cost m nP l s
    · rw [if_pos z]
      have := iv_cost_le hF hL hl q
      omega
    · rw [if_neg z]
      omega
  · rw [if_neg q]
    omega
def fb_L : List Nat := [0, 6, 17, 18, 34, 35, 36, 37, 38, 39, 40, 41, 42, 43, 44, 45]
/-- nothing but the class's matcher and memo has changed -/
def fb_R (m M : ab_M) : Prop := fr_M fb_L m M ∧ ∀ j, j ≠ 14 → ab_rd M 0 j = ab_rd m 0 j
theorem fb_R.refl (m : ab_M) : fb_R m m := ⟨fr_M.refl _ m, fun _ _ => rfl⟩
theorem fb_R.trans {m m1 m2 : ab_M} (h : fb_R m m1) (g : fb_R m1 m2) : fb_R m m2 := ⟨h.1.trans g.1, fun j hj => (g.2 j hj).trans (h.2 j hj)⟩
theorem fb_R.D {m M : ab_M} {nK nP nF nL : Nat} (g : fb_R m M) (h : iv_D m nK nP nF nL) (hP1 : iv_P M nP) : iv_D M nK nP nF nL := by
  obtain ⟨hK, hN, hP, hF, hL⟩ := h
  have q : ∀ p, p ∉ fb_L → M.1 p = m.1 p := g.1.1
  refine ⟨?_, ?_, hP1, ?_, ?_⟩
  · exact hK.cong (congrFun (q _ (by decide)) _) (congrFun (q _ (by decide)) _) (q _ (by decide)) (q _ (by decide)) (q _ (by decide)) (q _ (by decide)) (g.1.2 _)
  · exact hN.cong (q _ (by decide)) (q _ (by decide))
  · exact hF.cong (congrFun (q _ (by decide)) _) (congrFun (q _ (by decide)) _) (q _ (by decide)) (q _ (by decide)) (q _ (by decide)) (q _ (by decide)) (q _ (by decide)) (q _ (by decide)) (q _ (by decide)) (q _ (by decide)) (q _ (by decide)) (q _ (by decide)) (q _ (by decide)) (q _ (by decide)) (q _ (by decide)) (q _ (by decide)) (q _ (by decide)) (q _ (by decide))
  · exact hL.cong (congrFun (q _ (by decide)) _) (congrFun (q _ (by decide)) _) (q _ (by decide)) (q _ (by decide)) (q _ (by decide)) (q _ (by decide)) (q _ (by decide)) (q _ (by decide)) (q _ (by decide)) (q _ (by decide)) (q _ (by decide)) (q _ (by decide)) (q _ (by decide)) (q _ (by decide)) (q _ (by decide)) (q _ (by decide))
theorem fb_R.cost {m M : ab_M} (g : fb_R m M) (nP l f : Nat) : iv_cost M nP l f = iv_cost m nP l f := by
  have q : ∀ p, p ∉ fb_L → M.1 p = m.1 p := g.1.1
  exact iv_cost_cong nP l f (q _ (by decide)) (q _ (by decide)) (q _ (by decide)) (q _ (by decide)) (q _ (by decide)) (q _ (by decide)) (q _ (by decide)) (q _ (by decide)) (q _ (by decide)) (q _ (by decide)) (q _ (by decide)) (q _ (by decide)) (q _ (by decide)) (q _ (by decide))
theorem fb_R.pr {m M : ab_M} (g : fb_R m M) (nP nF l s : Nat) : iv_pr M nP nF l s = iv_pr m nP nF l s := by
  unfold iv_pr
  rw [g.cost, show ab_rd M 58 = ab_rd m 58 from g.1.rd (by decide), show ab_rd M 8 = ab_rd m 8 from g.1.rd (by decide)]
theorem fb_R.all {m M : ab_M} {nK nP nF nL nO : Nat} (g : fb_R m M) (h : iv_all m nK nP nF nL nO) (hP1 : iv_P M nP) (hB1 : iv_B M nP nF nL) : iv_all M nK nP nF nL nO := by
  obtain ⟨k1, k2, k3, k4, k5⟩ := g.D h.D hP1
  obtain ⟨-, -, -, -, -, hC, hS, -⟩ := h
  have q : ∀ p, p ∉ fb_L → M.1 p = m.1 p := g.1.1
  refine ⟨k1, k2, k3, k4, k5, hC.cong (q _ (by decide)) (q _ (by decide)) ?_, ?_, hB1⟩
  · exact q _ (by decide)
  · have e1 : ab_rd M 8 = ab_rd m 8 := q _ (by decide)
    have e7 : ab_rd M 11 = ab_rd m 11 := q _ (by decide)
    have e8 : ab_rd M 81 = ab_rd m 81 := q _ (by decide)
    unfold iv_S
    rw [e1, e7, e8, g.2 11 (by decide), g.2 13 (by decide), g.2 12 (by decide), g.2 10 (by decide)]
    exact hS
theorem ct_Matcher_setLoss {Z : ab_Z} (hZ : ab_okZ Z) {m : ab_M} {l F : Nat} {x y : Int32} (hl : l < 24) (hF : F ≤ 24) (hb : ab_rd m 6 13 = nI F) (hx : ab_zk x) : ab_C Z 0 25 [.inl (.ref 6), .inl (.int (nI l)), .inl (.int x), .inl (.int y)] m none (ab_wr (ab_wr m 35 l x) 34 (l * 25 + F) y) := by
  have il := ab_in (n := l) (N := 24) hl (by decide)
  refine ab_Kv hZ (tk_Matcher_setLoss_0_0 ⟨il, hx⟩ il ⟨il, (by rw [hb]; exact ab_in (by omega) (by decide))⟩ ⟨rfl, ?_⟩) trivial (by decide) (Nat.le_of_ble_eq_true rfl)
  rw [ab_cl (by omega), hb, ab_cl (by omega)]
theorem ct_Matcher_setPrice {Z : ab_Z} (hZ : ab_okZ Z) {m : ab_M} {l f : Nat} {x : Int32} (hl : l < 24) (hf : f < 24) : ab_C Z 0 26 [.inl (.ref 6), .inl (.int (nI l)), .inl (.int (nI f)), .inl (.int x)] m none (ab_wr m 34 (l * 25 + f) (if x = -1 then 1000000 else x)) := by
  have il := ab_in (n := l) (N := 24) hl (by decide)
  have if0 := ab_in (n := f) (N := 25) (by omega) (by decide)
  refine ab_Kv hZ ?_ trivial (by decide) (Nat.le_of_ble_eq_true rfl)
  by_cases q : x = -1
  · refine tk_Matcher_setPrice_0_0 il q ⟨il, if0⟩ ⟨rfl, ?_⟩
    rw [if_pos q, ab_cl (by omega), ab_cl (by omega)]
  · refine tk_Matcher_setPrice_0_1 il q ⟨il, if0⟩ ⟨rfl, ?_⟩
    rw [if_neg q, ab_cl (by omega), ab_cl (by omega)]
/-- while the prices are asked for -/
def fs_I (m : ab_M) (nP nF nL : Nat) (M : ab_M) (A : Nat → Prop) (B : Nat → Nat → Prop) : Prop := fr_M [6, 17, 18, 34, 35] m M ∧ ab_rd M 6 12 = nI nL ∧ ab_rd M 6 13 = nI nF ∧ iv_P M nP ∧ (∀ l, l < nL → A l → ab_rd M 35 l = ab_b (ab_rd m 67 l = 0)) ∧ ∀ l s, l < nL → s ≤ nF → B l s → ab_rd m 67 l = 0 → hW M l s = iv_pr m nP nF l s
theorem fs_I.fb {m M : ab_M} {nP nF nL : Nat} {A : Nat → Prop} {B : Nat → Nat → Prop} (h : fs_I m nP nF nL M A B) : fb_R m M := ⟨h.1.mono (by decide), fun j _ => h.1.rdi (by decide) j⟩
theorem ct_D_freshenBest {Z : ab_Z} (hZ : ab_okZ Z) {m : ab_M} {nK nP nF nL nO : Nat} (h : iv_all m nK nP nF nL nO) : ab_K Z 6 87 [.inl (.ref 0)] m (fun r m9 => r = none ∧ fb_R m m9 ∧ iv_all m9 nK nP nF nL nO ∧ ab_rd m9 0 14 = 0) := by
  have hD := h.D
  obtain ⟨hK, hN, hP, hF, hL⟩ := id hD
  obtain ⟨f1, f2, f3, a1, a2, a3, a4, a5, a6, a7, a8, ff⟩ := id hF
  obtain ⟨l1, l2, l3, b1, b2, b3, b4, b5, b6, b7, b8, b9, ll⟩ := id hL
  obtain ⟨s1, s2, s3, -⟩ := h.2.2.2.2.2.2.1
  refine ab_Ki hZ ?_ (fun r m1 h => by rw [h.1]; trivial) (by decide) (Nat.le_of_ble_eq_true rfl)
  by_cases old : ab_rd m 0 14 = 0
  · exact tk_D_freshenBest_0_0 old ⟨rfl, fb_R.refl m, h, old⟩
  -- the finds of one loss
  have l75 : ∀ (k j i : Nat) (M : ab_M) (P : Option Int32 → ab_M → Prop), j + k = nF → i < nL → fs_I m nP nF nL M (fun l => l ≤ i) (fun l s => l < i ∨ (l = i ∧ (s < j ∨ s = nF))) → (∀ M', fs_I m nP nF nL M' (fun l => l < i + 1) (fun l _ => l < i + 1) → ab_T Z 87 6 (31, [(0, .inl (.ref 0)), (1, .inl (.int (nI (i + 1))))], [], M') P) → ab_T Z 87 6 (75, [(0, .inl (.ref 0)), (1, .inl (.int (nI i))), (2, .inl (.int (ab_b (ab_rd m 67 i = 0)))), (3, .inl (.int (nI j)))], [], M) P := by
    intro k
    induction k with
    | zero =>
      intro j i M P hj hi hI fin
      have hj : j = nF := by omega
      subst hj
      have ec : ab_rd M 4 8 = nI j := by rw [hI.1.rdi (by decide)]; exact f2
      refine tk_D_freshenBest_75_6 (by rw [ec]; exact Int32.le_refl _) ?_
      rw [nI_1]
      obtain ⟨i1, i2, i3, i4, i5, i6⟩ := hI
      exact fin M ⟨i1, i2, i3, i4, fun l hl hA => i5 l hl (by show l ≤ i; have : l < i + 1 := hA; omega), fun l s hl hs hB => i6 l s hl hs (by
        have : l < i + 1 := hB
        show l < i ∨ (l = i ∧ (s < j ∨ s = j))
        omega)⟩
    | succ k ih =>
      intro j i M P hj hi hI fin
      have fb := hI.fb
      obtain ⟨i1, i2, i3, i4, i5, i6⟩ := id hI
      have ec : ab_rd M 4 8 = nI nF := by rw [i1.rdi (by decide)]; exact f2
      have hlt : ¬ ab_rd M 4 8 ≤ nI j := by rw [ec]; exact nI_ge (by omega) (by omega)
      -- what is written
      have put : ∀ (M2 : ab_M) (x : Int32), iv_ch M M2 → iv_P M2 nP → (ab_rd m 67 i = 0 → x.toInt = iv_pr m nP nF i j) → ab_T Z 87 6 (75, [(0, .inl (.ref 0)), (1, .inl (.int (nI i))), (2, .inl (.int (ab_b (ab_rd m 67 i = 0)))), (3, .inl (.int (nI (j + 1))))], [], ab_wr M2 34 (i * 25 + j) x) P := by
        intro M2 x hch hP2 hx
        have e0 : ab_rd M2 6 = ab_rd M 6 := hch.rd (by decide) (by decide)
        refine ih (j + 1) i _ P (by omega) hi ⟨?_, ?_, ?_, ?_, fun l hl hA => ?_, fun l s hl hs hB ho => ?_⟩ fin
        · have : fr_M [6, 17, 18, 34, 35] M M2 := ⟨fun p hp => hch.1 p (fun e => hp (by rw [e]; decide)) (fun e => hp (by rw [e]; decide)), hch.2⟩
          exact (i1.trans this).wr (by decide) _ _
        · rw [ab_rd_n _ _ _ _ (by decide), e0]
          exact i2
        · rw [ab_rd_n _ _ _ _ (by decide), e0]
          exact i3
        · exact hP2.cong rfl rfl rfl rfl rfl rfl
        · rw [ab_rd_n _ _ _ _ (by decide), hch.rd (p := 35) (by decide) (by decide)]
          exact i5 l hl hA
        · show (ab_rd _ 34 (l * 25 + s)).toInt = _
          rw [ab_rd_p, hch.rd (p := 34) (by decide) (by decide)]
          by_cases e : l = i ∧ s = j
          · rw [if_pos (by omega), e.1, e.2]
            exact hx (by rw [← e.1]; exact ho)
          · rw [if_neg (by omega)]
            refine i6 l s hl hs ?_ ho
            have hB : l < i ∨ (l = i ∧ (s < j + 1 ∨ s = nF)) := hB
            show l < i ∨ (l = i ∧ (s < j ∨ s = nF))
            omega
      by_cases o : ab_rd m 67 i = 0
      · have o1 : ¬ ab_b (ab_rd m 67 i = 0) = 0 := ab_b_n.mpr o
        have hk := ct_Finds_isKept hZ (f := j) (by omega) M
        have es : ab_rd M 24 j = ab_rd m 58 j := by rw [i1.rdi (by decide), a6]
        rw [es] at hk
        by_cases q : ab_rd m 58 j = 0
        · obtain ⟨dK, dN, dP, dF, dL⟩ := fb.D hD i4
          obtain ⟨r, M2, hC, ⟨v, hr, hv⟩, hch, hP2⟩ := ct_D_pairCost hZ dK dN dP dF dL hi (show j < nF by omega)
          rw [hr] at hC
          rw [fb.cost] at hv
          refine tk_D_freshenBest_75_0 hlt o1 ⟨(by decide : 0 < 6), hk⟩ (ab_b_n.mpr q) (by decide) ⟨(by decide : 4 < 6), hC⟩ ⟨(by decide : 0 < 6), ct_Matcher_setPrice hZ (by omega) (by omega)⟩ ?_
          rw [nI_1]
          refine put M2 _ hch hP2 (fun _ => ?_)
          have hm := iv_cost_m1 m nP i j
          unfold iv_pr
          rw [if_pos (show j < nF by omega)]
          by_cases z : v = -1
          · rw [if_pos z]
            rw [dk_m1] at z
            rw [if_neg (fun y => by omega)]
            rfl
          · rw [if_neg z]
            rw [dk_m1] at z
            rw [if_pos ⟨q, by omega⟩]
            exact hv
        · refine tk_D_freshenBest_75_3 hlt o1 ⟨(by decide : 0 < 6), hk⟩ (ab_b_0.mpr q) rfl ⟨(by decide : 0 < 6), ct_Matcher_setPrice hZ (by omega) (by omega)⟩ ?_
          rw [nI_1]
          refine put M _ (iv_ch.refl M) i4 (fun _ => ?_)
          unfold iv_pr
          rw [if_pos rfl, if_pos (by omega), if_neg (fun y => q y.1)]
          rfl
      · refine tk_D_freshenBest_75_5 hlt (ab_b_0.mpr o) rfl ⟨(by decide : 0 < 6), ct_Matcher_setPrice hZ (by omega) (by omega)⟩ ?_
        rw [nI_1]
        exact put M _ (iv_ch.refl M) i4 (fun z => absurd z o)
  have l31 : ∀ (k i : Nat) (M : ab_M), i + k = nL → fs_I m nP nF nL M (fun l => l < i) (fun l _ => l < i) → ab_T Z 87 6 (31, [(0, .inl (.ref 0)), (1, .inl (.int (nI i)))], [], M) (fun r m9 => r = none ∧ fb_R m m9 ∧ iv_all m9 nK nP nF nL nO ∧ ab_rd m9 0 14 = 0) := by
    intro k
    induction k with
    | zero =>
      intro i M hi hI
      have hi : i = nL := by omega
      subst hi
      have fb := hI.fb
      obtain ⟨i1, i2, i3, i4, i5, i6⟩ := id hI
      have ec : ab_rd M 5 7 = nI i := by rw [i1.rdi (by decide)]; exact l2
      have op : ∀ l, l < i → (¬ ab_rd M 35 l = 0 ↔ ab_rd m 67 l = 0) := fun l hl => by
        rw [i5 l hl hl]
        exact ab_b_n
      obtain ⟨r, M1, hC, hr, g1, g2, v, c, g3, g4, g5⟩ := ct_Matcher_findBest hZ (m := M) (n := i) (F := nF) (w := iv_pr m nP nF) l1 f1 i2 i3 (fun l s hl hs => ⟨i6 l s hl.1 hs hl.1 ((op l hl.1).mp hl.2), iv_pr_le hF hL s3 hl.1⟩) (fun l hl => by
        unfold iv_pr
        rw [if_neg (Nat.lt_irrefl _)]
        exact s3.2)
      rw [hr] at hC
      have fb1 : fb_R M M1 := ⟨g1.mono (by decide), fun j _ => g1.rdi (by decide) j⟩
      have fb2 : fb_R M1 (ab_wr M1 0 14 0) := ⟨(fr_M.refl _ M1).wr (by decide) _ _, fun j hj => ab_rd_d _ _ _ hj⟩
      have fb3 : fb_R m (ab_wr M1 0 14 0) := (fb.trans fb1).trans fb2
      have hP3 : iv_P (ab_wr M1 0 14 0) nP := i4.cong (congrFun (g1.1 _ (by decide)) _) (congrFun (g1.1 _ (by decide)) _) (g1.1 _ (by decide)) (g1.1 _ (by decide)) (g1.1 _ (by decide)) (g1.1 _ (by decide))
      refine tk_D_freshenBest_31_2 (by rw [ec]; exact Int32.le_refl _) ⟨(by decide : 4 < 6), hC⟩ (Or.inl rfl) ⟨rfl, fb3, fb3.all h hP3 ⟨Or.inl (ab_rd_s _ _ _ _), fun _ => ?_⟩, ab_rd_s _ _ _ _⟩
      have eH : ab_rd (ab_wr M1 0 14 0) 67 = ab_rd m 67 := fb3.1.rd (by decide)
      have eP : iv_pr (ab_wr M1 0 14 0) nP nF = iv_pr m nP nF := by
        funext l s
        exact fb3.pr nP nF l s
      rw [eH, eP]
      refine ⟨?_, ?_, fun l hl => ?_, fun l hl ho s hs => ?_, v, c, sg_best_cong op (fun l hl ho s hs => rfl) g3, ?_, fun l hl => ?_⟩
      · rw [ab_rd_n _ _ _ _ (by decide), g2 _ (by decide)]
        exact i2
      · rw [ab_rd_n _ _ _ _ (by decide), g2 _ (by decide)]
        exact i3
      · rw [ab_rd_n _ _ _ _ (by decide), g1.rdi (by decide)]
        exact i5 l hl hl
      · rw [ab_rd_n _ _ _ _ (by decide), g1.rdi (by decide)]
        exact i6 l s hl hs hl ho
      · rw [ab_rd_n _ _ _ _ (by decide)]
        exact g4
      · rw [ab_rd_n _ _ _ _ (by decide), g5 l hl]
        by_cases z : ab_rd m 67 l = 0 ∧ v l < nF
        · rw [if_pos z, if_pos ⟨(op l hl).mpr z.1, z.2⟩]
        · rw [if_neg z, if_neg (fun y => z ⟨(op l hl).mp y.1, y.2⟩)]
    | succ k ih =>
      intro i M hi hI
      obtain ⟨i1, i2, i3, i4, i5, i6⟩ := id hI
      have ec : ab_rd M 5 7 = nI nL := by rw [i1.rdi (by decide)]; exact l2
      have hlt : ¬ ab_rd M 5 7 ≤ nI i := by rw [ec]; exact nI_ge (by omega) (by omega)
      have ii := ab_in (n := i) (N := 24) (by omega) (by decide)
      have ci := ab_cl (n := i) (by omega)
      have eh : ab_rd M 33 i = ab_rd m 67 i := by rw [i1.rdi (by decide), b7]
      have eg : ab_rd M 0 13 = ab_rd m 8 6 := by rw [i1.rdi (by decide)]; exact s2
      have go : ∀ x : Int32, x = ab_b (ab_rd m 67 i = 0) → ab_T Z 87 6 (75, [(0, .inl (.ref 0)), (1, .inl (.int (nI i))), (2, .inl (.int x)), (3, .inl (.int 0))], [], ab_wr (ab_wr M 35 i x) 34 (i * 25 + nF) (ab_rd M 0 13)) (fun r m9 => r = none ∧ fb_R m m9 ∧ iv_all m9 nK nP nF nL nO ∧ ab_rd m9 0 14 = 0) := by
        intro x hx
        rw [hx]
        refine l75 nF 0 i _ _ (by omega) (by omega) ⟨(i1.wr (by decide) _ _).wr (by decide) _ _, ?_, ?_, i4.cong rfl rfl rfl rfl rfl rfl, fun l hl hA => ?_, fun l s hl hs hB ho => ?_⟩ (fun M' hM' => ih (i + 1) M' (by omega) hM')
        · rw [ab_rd_n _ _ _ _ (by decide), ab_rd_n _ _ _ _ (by decide)]
          exact i2
        · rw [ab_rd_n _ _ _ _ (by decide), ab_rd_n _ _ _ _ (by decide)]
          exact i3
        · rw [ab_rd_n _ _ _ _ (by decide), ab_rd_p]
          by_cases e : l = i
          · rw [if_pos e, e]
          · rw [if_neg e]
            have hA : l ≤ i := hA
            exact i5 l hl (by show l < i; omega)
        · show (ab_rd _ 34 (l * 25 + s)).toInt = _
          rw [ab_rd_p, ab_rd_n _ _ _ _ (by decide)]
          have hB : l < i ∨ (l = i ∧ (s < 0 ∨ s = nF)) := hB
          by_cases e : l = i ∧ s = nF
          · rw [if_pos (by omega), e.2, eg]
            unfold iv_pr
            rw [if_neg (Nat.lt_irrefl _)]
          · rw [if_neg (by omega)]
            exact i6 l s hl hs (by show l < i; omega) ho
      by_cases o : ab_rd m 67 i = 0
      · exact tk_D_freshenBest_31_0 hlt ii (by rw [ci, eh]; exact o) ⟨(by decide : 0 < 6), ct_Matcher_setLoss hZ (by omega) f1 i3 (Or.inr rfl)⟩ (go 1 (ab_b_t o).symm)
      · exact tk_D_freshenBest_31_1 hlt ii (by rw [ci, eh]; exact o) ⟨(by decide : 0 < 6), ct_Matcher_setLoss hZ (by omega) f1 i3 (Or.inl rfl)⟩ (go 0 (ab_b_f o).symm)
  have hbg : ab_C Z 0 24 [.inl (.ref 6), .inl (.int (ab_rd m 5 7)), .inl (.int (ab_rd m 4 8))] m none (ab_wr (ab_wr m 6 12 (ab_rd m 5 7)) 6 13 (ab_rd m 4 8)) := ab_Kv hZ (tk_Matcher_begin_0_0 ⟨rfl, rfl⟩) trivial (by decide) (Nat.le_of_ble_eq_true rfl)
  refine tk_D_freshenBest_0_1 old ⟨(by decide : 0 < 6), hbg⟩ (l31 nL 0 _ (by omega) ⟨((fr_M.refl _ m).wr (by decide) _ _).wr (by decide) _ _, ?_, ?_, hP.cong rfl rfl rfl rfl rfl rfl, fun l hl hA => ?_, fun l s hl hs hB => ?_⟩)
  · rw [ab_rd_d _ _ _ (by decide), ab_rd_s]
    exact l2
  · rw [ab_rd_s]
    exact f2
  · have hA : l < 0 := hA
    omega
  · have hB : l < 0 := hB
    omega
