/-! ===== bag ===== -/
/-- of one bag from now on -/
def bg_g (le ot : Int32) (_ : Nat) (o : Int32) : Int32 := if o = ot then le else o
theorem ct_Finds_joinBags {Z : ab_Z} (hZ : ab_okZ Z) {a b n : Nat} {m : ab_M} (ha : a < 24) (hb : b < 24) (hn : n ≤ 24) (h : ab_rd m 4 8 = nI n) : ab_C Z 1 7 [.inl (.ref 4), .inl (.int (nI a)), .inl (.int (nI b))] m none (lp_f m 26 0 n (bg_g (ab_min (ab_rd m 26 a) (ab_rd m 26 b)) (ab_max (ab_rd m 26 a) (ab_rd m 26 b)))) := by
  have hia := ab_in (N := 24) ha (by decide)
  have hib := ab_in (N := 24) hb (by decide)
  have hca := ab_cl (n := a) (by omega)
  have hcb := ab_cl (n := b) (by omega)
  have lp : ∀ (le ot x1 x2 : Int32) (j i : Nat), i + j = n → ab_T Z 7 1 (36, [(0, .inl (.ref 4)), (1, .inl (.int x1)), (2, .inl (.int x2)), (3, .inl (.int le)), (4, .inl (.int ot)), (5, .inl (.int (nI i)))], [], lp_f m 26 0 i (bg_g le ot)) (fun r m9 => r = none ∧ m9 = lp_f m 26 0 n (bg_g le ot)) := by
    intro le ot x1 x2 j
    induction j with
    | zero =>
      intro i hi
      have hi : i = n := by omega
      subst hi
      refine tk_Finds_joinBags_36_2 ?_ ⟨rfl, rfl⟩
      rw [lp_f_rn m 0 i _ (by decide), h]
      exact nI_le (Nat.le_refl _) (by omega)
    | succ j ih =>
      intro i hi
      have hrd : ab_rd (lp_f m 26 0 i (bg_g le ot)) 26 (nI i).toNatClampNeg = ab_rd m 26 i := by
        rw [ab_cl (by omega), lp_f_rd, if_neg (by omega)]
      have hc : ¬ ab_rd (lp_f m 26 0 i (bg_g le ot)) 4 8 ≤ nI i := by
        rw [lp_f_rn m 0 i _ (by decide), h]
        exact nI_ge (by omega) (by omega)
      have hin := ab_in (n := i) (N := 24) (by omega) (by decide)
      have hih := ih (i + 1) (by omega)
      by_cases e : ab_rd m 26 i = ot
      · refine tk_Finds_joinBags_36_0 hc hin (by rw [hrd]; exact e) hin ?_
        have := lp_f_s m 26 0 i (bg_g le ot) (v := le) (by rw [Nat.zero_add]; unfold bg_g; rw [if_pos e])
        rw [Nat.zero_add] at this
        rw [ab_cl (by omega), this, nI_1]
        exact hih
      · refine tk_Finds_joinBags_36_1 hc hin (by rw [hrd]; exact e) ?_
        rw [lp_f_k m 26 0 i (bg_g le ot) (by rw [Nat.zero_add]; unfold bg_g; rw [if_neg e]), nI_1]
        exact hih
  refine ab_Kv hZ (tk_Finds_joinBags_0_0 hia hib ⟨(by decide : 0 < 1), ct_J_min hZ _ _ m⟩ hia hib ⟨(by decide : 0 < 1), ct_J_max hZ _ _ m⟩ ?_) trivial (by decide) (Nat.le_of_ble_eq_true rfl)
  rw [hca, hcb]
  have := lp (ab_min (ab_rd m 26 a) (ab_rd m 26 b)) (ab_max (ab_rd m 26 a) (ab_rd m 26 b)) (nI a) (nI b) n 0 (by omega)
  rw [lp_f_0] at this
  exact this
theorem cl_M_bag {Z : ab_Z} (hZ : ab_okZ Z) {n : Nat} {m : ab_M} (hn : n ≤ 24) (h : ab_rd m 8 4 = nI n) (le ot x1 x2 : Int32) : ∀ (j i : Nat), i + j = n → ab_T Z 133 40 (113, [(0, .inl (.ref 8)), (1, .inl (.int x1)), (2, .inl (.int x2)), (3, .inl (.int le)), (4, .inl (.int ot)), (5, .inl (.int (nI i)))], [], lp_f m 60 0 i (bg_g le ot)) (fun r m9 => r = some 1 ∧ m9 = lp_f m 60 0 n (bg_g le ot)) := by
  intro j
  induction j with
  | zero =>
    intro i hi
    have hi : i = n := by omega
    subst hi
    refine tk_M_bag_113_2 ?_ ⟨rfl, rfl⟩
    rw [lp_f_rn m 0 i _ (by decide), h]
    exact nI_le (Nat.le_refl _) (by omega)
  | succ j ih =>
    intro i hi
    have hrd : ab_rd (lp_f m 60 0 i (bg_g le ot)) 60 (nI i).toNatClampNeg = ab_rd m 60 i := by
      rw [ab_cl (by omega), lp_f_rd, if_neg (by omega)]
    have hc : ¬ ab_rd (lp_f m 60 0 i (bg_g le ot)) 8 4 ≤ nI i := by
      rw [lp_f_rn m 0 i _ (by decide), h]
      exact nI_ge (by omega) (by omega)
    have hin := ab_in (n := i) (N := 24) (by omega) (by decide)
    have hih := ih (i + 1) (by omega)
    by_cases e : ab_rd m 60 i = ot
    · refine tk_M_bag_113_0 hc hin (by rw [hrd]; exact e) hin ?_
      have := lp_f_s m 60 0 i (bg_g le ot) (v := le) (by rw [Nat.zero_add]; unfold bg_g; rw [if_pos e])
      rw [Nat.zero_add] at this
      rw [ab_cl (by omega), this, nI_1]
      exact hih
    · refine tk_M_bag_113_1 hc hin (by rw [hrd]; exact e) ?_
      rw [lp_f_k m 60 0 i (bg_g le ot) (by rw [Nat.zero_add]; unfold bg_g; rw [if_neg e]), nI_1]
      exact hih
/-- the finds behind a joining -/
theorem iv_bag {m : ab_M} {nK nP n : Nat} (hF : iv_F m nK nP n) {a b : Nat} (ha : a < n) (hb : b < n) (hab : ¬ ab_rd m 60 a = ab_rd m 60 b) (sa : ab_rd m 58 a = 0) (sb : ab_rd m 58 b = 0) {m1 : ab_M} (e1 : m1.1 26 = (lp_f m 26 0 n (bg_g (ab_min (ab_rd m 60 a) (ab_rd m 60 b)) (ab_max (ab_rd m 60 a) (ab_rd m 60 b)))).1 26) (e2 : m1.1 60 = (lp_f m 60 0 n (bg_g (ab_min (ab_rd m 60 a) (ab_rd m 60 b)) (ab_max (ab_rd m 60 a) (ab_rd m 60 b)))).1 60) (hr : ∀ p, p ≠ 26 → p ≠ 60 → p ≠ 0 → p ≠ 8 → m1.1 p = m.1 p) (hc : ab_rd m1 8 4 = ab_rd m 8 4) : iv_F m1 nK nP n := by
  obtain ⟨g1, g2, g3, a1, a2, a3, a4, a5, a6, a7, a8, g⟩ := hF
  have q : ∀ p, p ≠ 26 → p ≠ 60 → p ≠ 0 → p ≠ 8 → ab_rd m1 p = ab_rd m p := fun p h1 h2 h3 h4 => hr p h1 h2 h3 h4
  obtain ⟨-, -, -, -, -, -, p, hp, p1, p2, p3⟩ := g a ha
  obtain ⟨-, -, -, -, -, -, r, hrr, r1, r2, r3⟩ := g b hb
  have hpr : p ≠ r := fun e => hab (by rw [p1, r1, e])
  have hmin : ab_min (ab_rd m 60 a) (ab_rd m 60 b) = nI (min p r) := by
    rw [ab_eqI, ab_min_I, p1, r1, nI_toInt (by omega), nI_toInt (by omega), nI_toInt (by omega)]
    omega
  have hmax : ab_max (ab_rd m 60 a) (ab_rd m 60 b) = nI (max p r) := by
    rw [ab_eqI, ab_max_I, p1, r1, nI_toInt (by omega), nI_toInt (by omega), nI_toInt (by omega)]
    omega
  rw [hmin, hmax] at e1 e2
  have c8 : ∀ f, ab_rd m1 26 f = if f < n then bg_g (nI (min p r)) (nI (max p r)) f (ab_rd m 26 f) else ab_rd m 26 f := by
    intro f
    rw [iv_rdc e1, lp_f_rd]
    by_cases y : f < n
    · rw [if_pos y, if_pos (by omega)]
    · rw [if_neg y, if_neg (by omega)]
  have d8 : ∀ f, ab_rd m1 60 f = if f < n then bg_g (nI (min p r)) (nI (max p r)) f (ab_rd m 60 f) else ab_rd m 60 f := by
    intro f
    rw [iv_rdc e2, lp_f_rd]
    by_cases y : f < n
    · rw [if_pos y, if_pos (by omega)]
    · rw [if_neg y, if_neg (by omega)]
  have hst : ∀ f, f = p ∨ f = r → ab_rd m 58 f = 0 := by
    intro f hf
    rcases hf with rfl | rfl
    · rw [← p3]; exact sa
    · rw [← r3]; exact sb
  have hself : ∀ f, f = p ∨ f = r → ab_rd m 60 f = nI f := by
    intro f hf
    rcases hf with rfl | rfl
    · exact p2
    · exact r2
  refine ⟨g1, (congrFun (q _ (by decide) (by decide) (by decide) (by decide)) _).trans g2, hc.trans g3, ?_, ?_, ?_, ?_, ?_, ?_, ?_, fun f => by rw [c8, d8, a8 f], fun f hf => ?_⟩
  · rw [q _ (by decide) (by decide) (by decide) (by decide), q _ (by decide) (by decide) (by decide) (by decide)]; exact a1
  · rw [q _ (by decide) (by decide) (by decide) (by decide), q _ (by decide) (by decide) (by decide) (by decide)]; exact a2
  · rw [q _ (by decide) (by decide) (by decide) (by decide), q _ (by decide) (by decide) (by decide) (by decide)]; exact a3
  · rw [q _ (by decide) (by decide) (by decide) (by decide), q _ (by decide) (by decide) (by decide) (by decide)]; exact a4
  · rw [q _ (by decide) (by decide) (by decide) (by decide), q _ (by decide) (by decide) (by decide) (by decide)]; exact a5
  · rw [q _ (by decide) (by decide) (by decide) (by decide), q _ (by decide) (by decide) (by decide) (by decide)]; exact a6
  · rw [q _ (by decide) (by decide) (by decide) (by decide), q _ (by decide) (by decide) (by decide) (by decide)]; exact a7
  · obtain ⟨t1, t2, t3, t4, t5, t6, u, hu, u1, u2, u3⟩ := g f hf
    rw [q 53 (by decide) (by decide) (by decide) (by decide), q 54 (by decide) (by decide) (by decide) (by decide), q 55 (by decide) (by decide) (by decide) (by decide), q 56 (by decide) (by decide) (by decide) (by decide), q 57 (by decide) (by decide) (by decide) (by decide), q 58 (by decide) (by decide) (by decide) (by decide)]
    refine ⟨t1, t2, t3, t4, t5, t6, ?_⟩
    have hlow : min p r = p ∨ min p r = r := by omega
    have hhigh : max p r = p ∨ max p r = r := by omega
    by_cases e : u = max p r
    · refine ⟨min p r, by omega, ?_, ?_, ?_⟩
      · rw [d8, if_pos hf, u1]
        unfold bg_g
        rw [if_pos (by rw [e])]
      · rw [d8, if_pos (by omega), hself _ hlow]
        unfold bg_g
        rw [if_neg]
        rw [nI_eq (by omega) (by omega)]
        omega
      · rw [u3, hst u (by rw [e]; exact hhigh), hst _ hlow]
    · refine ⟨u, hu, ?_, ?_, u3⟩
      · rw [d8, if_pos hf, u1]
        unfold bg_g
        rw [if_neg]
        rw [nI_eq (by omega) (by omega)]
        exact e
      · rw [d8, if_pos (by omega), u2]
        unfold bg_g
        rw [if_neg]
        rw [nI_eq (by omega) (by omega)]
        exact e
theorem op_bag {Z : ab_Z} (hZ : ab_okZ Z) (x y : Int32) {m : ab_M} (hI : iv_A m) : iv_Op Z 72 133 [.inl (.int x), .inl (.int y)] m := by
  have hI' := hI
  obtain ⟨nK, nP, nF, nL, nO, hK, hN, hP, hF, hL, hC, ⟨s1, s2, s3, s4, s5, s6, s7, s8, s9⟩, hB⟩ := hI'
  obtain ⟨g1, g2, g3, a1, a2, a3, a4, a5, a6, a7, a8, g⟩ := id hF
  have cD : (ab_rd m 4 8).toInt = nF := iv_toI g2 (by omega)
  have cM : (ab_rd m 8 4).toInt = nF := iv_toI g3 (by omega)
  have hasD : ∀ z : Int32, (0 ≤ z.toInt ∧ z.toInt < nF) → ¬ ab_b (0 ≤ z.toInt ∧ z.toInt < (ab_rd m 4 8).toInt) = 0 := fun z h => ab_b_n.mpr (by rw [cD]; exact h)
  have hasM : ∀ z : Int32, (0 ≤ z.toInt ∧ z.toInt < nF) → ¬ ab_b (0 ≤ z.toInt ∧ z.toInt < (ab_rd m 8 4).toInt) = 0 := fun z h => ab_b_n.mpr (by rw [cM]; exact h)
  have notD : ∀ z : Int32, ¬ (0 ≤ z.toInt ∧ z.toInt < nF) → ab_b (0 ≤ z.toInt ∧ z.toInt < (ab_rd m 4 8).toInt) = 0 := fun z h => ab_b_0.mpr (by rw [cD]; exact h)
  have notM : ∀ z : Int32, ¬ (0 ≤ z.toInt ∧ z.toInt < nF) → ab_b (0 ≤ z.toInt ∧ z.toInt < (ab_rd m 8 4).toInt) = 0 := fun z h => ab_b_0.mpr (by rw [cM]; exact h)
  by_cases hx : 0 ≤ x.toInt ∧ x.toInt < nF
  · by_cases hy : 0 ≤ y.toInt ∧ y.toInt < nF
    · have hx0 := hx
      have hy0 := hy
      obtain ⟨a, ha, rfl⟩ := iv_ix hx (by omega)
      obtain ⟨b, hb, rfl⟩ := iv_ix hy (by omega)
      have hia := ab_in (n := a) (N := 24) (by omega) (by decide)
      have hib := ab_in (n := b) (N := 24) (by omega) (by decide)
      have hca := ab_cl (n := a) (by omega)
      have hcb := ab_cl (n := b) (by omega)
      by_cases hab : ab_rd m 60 a = ab_rd m 60 b
      · exact ⟨0, _, _, ab_Kc hZ (tk_D_bag_0_1 ⟨by decide, ct_Finds_has hZ _ m⟩ (hasD _ hx0) ⟨by decide, ct_Finds_has hZ _ m⟩ (hasD _ hy0) hia hib (by rw [hca, hcb, a8, a8]; exact hab) ⟨by decide, ct_D_deny hZ 4 _⟩ ⟨rfl, rfl⟩) (Or.inl rfl) (by decide) (Nat.le_of_ble_eq_true rfl), ab_Kc hZ (tk_M_bag_0_1 ⟨by decide, ct_M_isFind hZ _ _⟩ (hasM _ hx0) ⟨by decide, ct_M_isFind hZ _ _⟩ (hasM _ hy0) hia hib (by rw [hca, hcb]; exact hab) ⟨by decide, ct_M_no hZ 4 _⟩ ⟨rfl, rfl⟩) (Or.inl rfl) (by decide) (Nat.le_of_ble_eq_true rfl), iv_refused hI 4⟩
      · have habD : ¬ ab_rd m 26 (nI a).toNatClampNeg = ab_rd m 26 (nI b).toNatClampNeg := by rw [hca, hcb, a8, a8]; exact hab
        have hkD := fun f hf => ct_Finds_isKept hZ (f := f) hf m
        by_cases sa : ab_rd m 58 a = 0
        · by_cases sb : ab_rd m 58 b = 0
          · have hj := ct_Finds_joinBags hZ (a := a) (b := b) (m := m) (by omega) (by omega) g1 g2
            rw [a8 a, a8 b] at hj
            have hD : ab_C Z 40 72 [.inl (.ref 0), .inl (.int (nI a)), .inl (.int (nI b))] m (some 1) (ab_wr (lp_f m 26 0 nF (bg_g (ab_min (ab_rd m 60 a) (ab_rd m 60 b)) (ab_max (ab_rd m 60 a) (ab_rd m 60 b)))) 0 11 0) := ab_Kc hZ (tk_D_bag_0_3 ⟨by decide, ct_Finds_has hZ _ m⟩ (hasD _ hx0) ⟨by decide, ct_Finds_has hZ _ m⟩ (hasD _ hy0) hia hib habD ⟨by decide, hkD a (by omega)⟩ (ab_b_n.mpr ((a6 a).trans sa)) ⟨by decide, hkD b (by omega)⟩ (ab_b_n.mpr ((a6 b).trans sb)) ⟨by decide, hj⟩ ⟨by decide, ct_D_grant hZ _⟩ ⟨rfl, rfl⟩) (Or.inr rfl) (by decide) (Nat.le_of_ble_eq_true rfl)
            have hM : ab_C Z 40 133 [.inl (.ref 8), .inl (.int (nI a)), .inl (.int (nI b))] (ab_wr (lp_f m 26 0 nF (bg_g (ab_min (ab_rd m 60 a) (ab_rd m 60 b)) (ab_max (ab_rd m 60 a) (ab_rd m 60 b)))) 0 11 0) (some 1) (lp_f (iv_m0 (ab_wr (lp_f m 26 0 nF (bg_g (ab_min (ab_rd m 60 a) (ab_rd m 60 b)) (ab_max (ab_rd m 60 a) (ab_rd m 60 b)))) 0 11 0)) 60 0 nF (bg_g (ab_min (ab_rd m 60 a) (ab_rd m 60 b)) (ab_max (ab_rd m 60 a) (ab_rd m 60 b)))) := by
              refine ab_Kc hZ (tk_M_bag_0_3 ⟨by decide, ct_M_isFind hZ _ _⟩ (hasM _ hx0) ⟨by decide, ct_M_isFind hZ _ _⟩ (hasM _ hy0) hia hib (by rw [hca, hcb]; exact hab) hia (by rw [hca]; exact sa) hib (by rw [hcb]; exact sb) hia hib ⟨by decide, ct_J_min hZ _ _ _⟩ hia hib ⟨by decide, ct_J_max hZ _ _ _⟩ ?_) (Or.inr rfl) (by decide) (Nat.le_of_ble_eq_true rfl)
              rw [hca, hcb]
              have := cl_M_bag hZ g1 (m := iv_m0 (ab_wr (lp_f m 26 0 nF (bg_g (ab_min (ab_rd m 60 a) (ab_rd m 60 b)) (ab_max (ab_rd m 60 a) (ab_rd m 60 b)))) 0 11 0)) g3 (ab_min (ab_rd m 60 a) (ab_rd m 60 b)) (ab_max (ab_rd m 60 a) (ab_rd m 60 b)) (nI a) (nI b) nF 0 (by omega)
              rw [lp_f_0] at this
              exact this
            refine ⟨1, _, _, hD, hM, nK, nP, nF, nL, nO, hK.cong rfl rfl rfl rfl rfl rfl rfl, hN.cong rfl rfl, hP.cong rfl rfl rfl rfl rfl rfl, iv_bag hF ha hb hab sa sb rfl rfl (fun p h1 h2 h3 h4 => ?_) rfl, hL.cong rfl rfl rfl rfl rfl rfl rfl rfl rfl rfl rfl rfl rfl rfl rfl rfl, hC.cong rfl rfl rfl, ⟨rfl, s2, s3, s4, s5, s6, s7, s8, s9⟩, hB.cong rfl rfl rfl rfl rfl rfl rfl rfl rfl rfl (fun l f _ _ => iv_cost_cong nP l f rfl rfl rfl rfl rfl rfl rfl rfl rfl rfl rfl rfl rfl rfl)⟩
            rw [lp_f_n _ _ _ _ h2, ab_wr_n _ _ _ h4, ab_wr_n _ _ _ h4, ab_wr_n _ _ _ h3, lp_f_n _ _ _ _ h1]
          · exact ⟨0, _, _, ab_Kc hZ (tk_D_bag_0_2 ⟨by decide, ct_Finds_has hZ _ m⟩ (hasD _ hx0) ⟨by decide, ct_Finds_has hZ _ m⟩ (hasD _ hy0) hia hib habD ⟨by decide, hkD a (by omega)⟩ (ab_b_n.mpr ((a6 a).trans sa)) ⟨by decide, hkD b (by omega)⟩ (ab_b_0.mpr (fun q => sb ((a6 b).symm.trans q))) ⟨by decide, ct_D_deny hZ 5 _⟩ ⟨rfl, rfl⟩) (Or.inl rfl) (by decide) (Nat.le_of_ble_eq_true rfl), ab_Kc hZ (tk_M_bag_0_2 ⟨by decide, ct_M_isFind hZ _ _⟩ (hasM _ hx0) ⟨by decide, ct_M_isFind hZ _ _⟩ (hasM _ hy0) hia hib (by rw [hca, hcb]; exact hab) hia (by rw [hca]; exact sa) hib (by rw [hcb]; exact sb) ⟨by decide, ct_M_no hZ 5 _⟩ ⟨rfl, rfl⟩) (Or.inl rfl) (by decide) (Nat.le_of_ble_eq_true rfl), iv_refused hI 5⟩
        · exact ⟨0, _, _, ab_Kc hZ (tk_D_bag_0_4 ⟨by decide, ct_Finds_has hZ _ m⟩ (hasD _ hx0) ⟨by decide, ct_Finds_has hZ _ m⟩ (hasD _ hy0) hia hib habD ⟨by decide, hkD a (by omega)⟩ (ab_b_0.mpr (fun q => sa ((a6 a).symm.trans q))) ⟨by decide, ct_D_deny hZ 5 _⟩ ⟨rfl, rfl⟩) (Or.inl rfl) (by decide) (Nat.le_of_ble_eq_true rfl), ab_Kc hZ (tk_M_bag_0_4 ⟨by decide, ct_M_isFind hZ _ _⟩ (hasM _ hx0) ⟨by decide, ct_M_isFind hZ _ _⟩ (hasM _ hy0) hia hib (by rw [hca, hcb]; exact hab) hia (by rw [hca]; exact sa) ⟨by decide, ct_M_no hZ 5 _⟩ ⟨rfl, rfl⟩) (Or.inl rfl) (by decide) (Nat.le_of_ble_eq_true rfl), iv_refused hI 5⟩
    · exact ⟨0, _, _, ab_Kc hZ (tk_D_bag_0_0 ⟨by decide, ct_Finds_has hZ x m⟩ (hasD x hx) ⟨by decide, ct_Finds_has hZ y m⟩ (notD y hy) ⟨by decide, ct_D_deny hZ 1 _⟩ ⟨rfl, rfl⟩) (Or.inl rfl) (by decide) (Nat.le_of_ble_eq_true rfl), ab_Kc hZ (tk_M_bag_0_0 ⟨by decide, ct_M_isFind hZ x _⟩ (hasM x hx) ⟨by decide, ct_M_isFind hZ y _⟩ (notM y hy) ⟨by decide, ct_M_no hZ 1 _⟩ ⟨rfl, rfl⟩) (Or.inl rfl) (by decide) (Nat.le_of_ble_eq_true rfl), iv_refused hI 1⟩
  · exact ⟨0, _, _, ab_Kc hZ (tk_D_bag_0_5 ⟨by decide, ct_Finds_has hZ x m⟩ (notD x hx) ⟨by decide, ct_D_deny hZ 1 _⟩ ⟨rfl, rfl⟩) (Or.inl rfl) (by decide) (Nat.le_of_ble_eq_true rfl), ab_Kc hZ (tk_M_bag_0_5 ⟨by decide, ct_M_isFind hZ x _⟩ (notM x hx) ⟨by decide, ct_M_no hZ 1 _⟩ ⟨rfl, rfl⟩) (Or.inl rfl) (by decide) (Nat.le_of_ble_eq_true rfl), iv_refused hI 1⟩
