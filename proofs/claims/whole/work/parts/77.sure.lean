/-! ===== sure ===== -/
theorem op_sure {Z : ab_Z} (hZ : ab_okZ Z) (x y : Int32) {m : ab_M} (hI : iv_A m) : iv_Op Z 67 125 [.inl (.int x), .inl (.int y)] m := by
  have hI' := hI
  obtain ⟨nK, nP, nF, nL, nO, h⟩ := hI'
  obtain ⟨hK, hN, hP, hF, hL⟩ := h.D
  obtain ⟨l1, l2, l3, b1, b2, b3, b4, b5, b6, b7, b8, b9, ll⟩ := id hL
  have hf24 : nF ≤ 24 := hF.1
  have cLD : (ab_rd m 5 7).toInt = nL := iv_toI l2 (by omega)
  have cLM : (ab_rd m 8 5).toInt = nL := iv_toI l3 (by omega)
  have e1000 : (1000 : Int32).toInt = 1000 := rfl
  by_cases hx : 0 ≤ x.toInt ∧ x.toInt < nL
  · have x1 : ¬ ab_b (0 ≤ x.toInt ∧ x.toInt < (ab_rd m 5 7).toInt) = 0 := ab_b_n.mpr (by rw [cLD]; exact hx)
    have x2 : ¬ ab_b (0 ≤ x.toInt ∧ x.toInt < (ab_rd m 8 5).toInt) = 0 := ab_b_n.mpr (by rw [cLM]; exact hx)
    obtain ⟨l, hl, rfl⟩ := iv_ix hx (by omega)
    have il := ab_in (n := l) (N := 24) (by omega) (by decide)
    have cl := ab_cl (n := l) (by omega)
    by_cases hy : 0 ≤ y.toInt ∧ y.toInt ≤ 1000
    · have y1 : ¬ ab_b ((0 : Int32).toInt ≤ y.toInt ∧ y.toInt ≤ (1000 : Int32).toInt) = 0 := ab_b_n.mpr (by rw [e1000, ab_t0]; exact hy)
      have y2 : ¬ y < 0 := by rw [ab_ltI, ab_t0]; omega
      have y3 : y ≤ 1000 := by rw [ab_leI, e1000]; omega
      by_cases q : ab_rd m 67 l = 0
      · obtain ⟨r, m1, hC1, hr1, fb, h1, old⟩ := ct_D_freshenBest hZ h
        rw [hr1] at hC1
        obtain ⟨g1, g2, g3, g4, v, c, g5, g6, g7⟩ := h1.2.2.2.2.2.2.2.2 old
        have hg1 := h1.2.2.2.2.2.2.1.2.2.1
        have eH : ab_rd m1 67 = ab_rd m 67 := fb.1.rd (by decide)
        have eb := g7 l hl
        rw [eH] at eb
        have q' : ab_rd m 33 (nI l).toNatClampNeg = 0 := by rw [cl, b7]; exact q
        have eM : ab_rd m1 8 = ab_rd m 8 := fb.1.rd (by decide)
        by_cases z : v l < nF
        · rw [if_pos ⟨q, z⟩] at eb
          have hF1 := h1.2.2.2.1
          have hL1 := h1.2.2.2.2.1
          have op1 : ∀ k, k < nL → (¬ ab_rd m1 35 k = 0 ↔ ab_rd m1 67 k = 0) := fun k hk => by
            rw [g3 k hk]
            exact ab_b_n
          obtain ⟨r4, m4, hC4, ⟨c4, hr4, hm4⟩, fr4, ep4⟩ := ct_Matcher_leastCostWithout hZ (m := m1) (n := nL) (F := nF) (l0 := l) (f0 := v l) (w := iv_pr m1 nP nF) l1 hf24 g1 g2 hl z (fun k s hk hs => ⟨g4 k hk.1 ((op1 k hk.1).mp hk.2) s hs, iv_pr_le hF1 hL1 hg1 hk.1⟩) (fun k hk => by
            unfold iv_pr
            rw [if_neg (Nat.lt_irrefl _)]
            exact hg1.2)
          rw [hr4] at hC4
          have sk4 : iv_sk m1 m4 := by
            refine ⟨fun p a b => ?_, fr4.2, fun j _ => by rw [fr4.1 8 (by decide)]⟩
            by_cases e : p = 34
            · rw [e]
              exact ep4
            · refine fr4.1 p (fun y => ?_)
              simp only [List.mem_cons, List.not_mem_nil, or_false] at y
              rcases y with y | y | y | y | y | y | y
              · exact e y
              all_goals exact b (by rw [y]; decide)
          have sc2 : iv_sc m1 (iv_m0 (ab_wr m4 0 11 0)) := (sk4.sc.trans (iv_sc.d m4 0)).trans (iv_sc.m0 _)
          have hD2 := h1.D.sc sc2
          have hg2 : 0 ≤ (ab_rd (iv_m0 (ab_wr m4 0 11 0)) 8 6).toInt ∧ (ab_rd (iv_m0 (ab_wr m4 0 11 0)) 8 6).toInt ≤ 100 := by
            rw [show ab_rd (iv_m0 (ab_wr m4 0 11 0)) 8 6 = ab_rd m1 8 6 from sc2.2.2.2 _ (by decide)]
            exact hg1
          obtain ⟨r5, m5, hC5, ⟨a, hr5, ha⟩, sk5, bst⟩ := ct_M_matches hZ hD2 hg2 (sc2.best g5)
          rw [hr5] at hC5
          have sc5 : iv_sc m1 m5 := sc2.trans sk5.sc
          have hD5 := h1.D.sc sc5
          have hg5 : 0 ≤ (ab_rd m5 8 6).toInt ∧ (ab_rd m5 8 6).toInt ≤ 100 := by
            rw [show ab_rd m5 8 6 = ab_rd m1 8 6 from sc5.2.2.2 _ (by decide)]
            exact hg1
          obtain ⟨r6, m6, hC6, hr6, hR6, eb6⟩ := ct_M_gather hZ hD5 hg5
          rw [hr6] at hC6
          have o2 : gw_o (iv_m0 (ab_wr m4 0 11 0)) l := by
            show ab_rd _ 67 l = 0
            rw [sc2.o, eH]
            exact q
          have o5 : gw_o m5 l := by
            show ab_rd m5 67 l = 0
            rw [sc5.o, eH]
            exact q
          have e72 := bst l hl o2
          rw [if_pos z] at e72
          have hv5 := sc5.best g5
          have hP5 := gw_P hD5.2.2.2.1 hD5.2.2.2.2 hg5
          have k5 : gw_k m5 (v l) := by
            by_cases kk : gw_k m5 (v l)
            · exact kk
            · have w1 := (hP5 l hl o5).1 _ z kk
              have w2 := (hv5.1.1 l hl o5).2
              omega
          have c0 : 0 ≤ c ∧ c ≤ 2400 := by
            have n1 := mx_none hP5
            have n2 := hv5.2.2.1 _ n1.1
            have n3 := n1.2
            have n4 : 0 ≤ sg_cost nL (gw_o m5) (iv_pr m5 nP nF) v := by
              have := sm_le (f := fun _ => 0) (g := fun k => if gw_o m5 k then iv_pr m5 nP nF k (v k) else 0) (n := nL) (fun k hk => by
                show (0 : Int) ≤ if gw_o m5 k then iv_pr m5 nP nF k (v k) else 0
                by_cases o : gw_o m5 k
                · rw [if_pos o]
                  exact (iv_pr_le hD5.2.2.2.1 hD5.2.2.2.2 hg5 hk).1
                · rw [if_neg o]
                  exact Int.le_refl _)
              have h0 : sg_sum (fun _ => 0) nL = 0 := sm_0 (fun _ _ => rfl)
              show 0 ≤ sg_sum (fun k => if gw_o m5 k then iv_pr m5 nP nF k (v k) else 0) nL
              omega
            rw [hv5.2.1] at n4
            omega
          -- the least cost without the pair is one and the same
          have hPc := mx_cut hP5 hl o5 z k5
          have opE : ∀ k, k < nL → (¬ ab_rd m1 35 k = 0 ↔ gw_o m5 k) := fun k hk => by
            rw [op1 k hk]
            show _ ↔ ab_rd m5 67 k = 0
            rw [sc5.o]
          have inE : ∀ u, in_ok nL nF (fun k => ¬ ab_rd m1 35 k = 0) u ↔ in_ok nL nF (gw_o m5) u := fun u => by
            constructor
            · intro hh
              exact ⟨fun k hk o => hh.1 k hk ((opE k hk).mpr o), fun k k' hk hk' o o' => hh.2 k k' hk hk' ((opE k hk).mpr o) ((opE k' hk').mpr o')⟩
            · intro hh
              exact ⟨fun k hk o => hh.1 k hk ((opE k hk).mp o), fun k k' hk hk' o o' => hh.2 k k' hk hk' ((opE k hk).mp o) ((opE k' hk').mp o')⟩
          have coE : ∀ u, sg_cost nL (fun k => ¬ ab_rd m1 35 k = 0) (fun k s => if k = l ∧ s = v l then 1000000 else iv_pr m1 nP nF k s) u = sg_cost nL (gw_o m5) (fun k s => if k = l ∧ s = v l then 1000000 else iv_pr m5 nP nF k s) u := fun u => sg_sum_cong (fun k hk => by
            rw [sc5.pr]
            by_cases o : gw_o m5 k
            · rw [if_pos o, if_pos ((opE k hk).mpr o)]
            · rw [if_neg o, if_neg (fun w => o ((opE k hk).mp w))])
          have hcE : ∀ c', hg_min (cn_of (gw_o m5) nL) (cn_of (gw_k m5) nF + cn_of (gw_o m5) nL) (fun i j => if i = cn_of (gw_o m5) l ∧ j = cn_of (gw_k m5) (v l) then 10000000 else gw m5 nP nF nL i j) c' → c' = c4.toInt := fun c' hc' => by
            obtain ⟨⟨u, u1, u2⟩, u3⟩ := hm4
            have nn := mx_none hPc
            have w1 := u3 _ ((inE _).mpr nn.1.in)
            rw [coE] at w1
            have w2 := nn.2
            rw [coE] at u2
            have u4 := (inE u).mp u1
            have sm := sg_small (F := nF) (c := 1000000) (fun k s hk o hs => (hPc k hk o).2.2.2.2.2 s hs) u4 (by omega)
            refine mx_min hPc l1 hc' ⟨u, ⟨fun k hk o => ⟨u4.1 k hk o, sm k hk o⟩, u4.2⟩, u2⟩ (fun t ht => ?_)
            rw [← coE]
            exact u3 t ((inE t).mpr ht.in)
          have hT := cl_M_sure hZ (a := a) (y := y) hD5 hg5 hR6 hl o5 z k5 (by rw [eb6]; exact e72) hcE (by omega) hy
          have hK6 := ab_Ki (As := [.inl (.ref 8), .inl (.int (nI l)), .inl (.int y)]) hZ (tk_M_sure_0_4 (m := ab_wr m4 0 11 0) ⟨(by decide : 0 < 40), ct_M_isLoss hZ _ _⟩ (by
            rw [show ab_rd (iv_m0 (ab_wr m4 0 11 0)) 8 5 = ab_rd m1 8 5 from sc2.2.2.2 _ (by decide), show ab_rd m1 8 5 = ab_rd m 8 5 from congrFun eM _]
            exact x2) y2 y3 il (by rw [cl]; exact o2) ⟨(by decide : 3 < 40), hC5⟩ il (by rw [cl, e72]; exact nI_pos' (by omega)) ⟨(by decide : 2 < 40), hC6⟩ hT) (fun r m1 h => by rw [h.1]; trivial) (by decide) (Nat.le_of_ble_eq_true rfl)
          obtain ⟨r7, m7, hC7, hr7, sk7⟩ := hK6
          rw [hr7] at hC7
          have sk7' : iv_sk (iv_m0 (ab_wr m4 0 11 0)) m7 := sk5.trans sk7
          have fin : iv_A m7 := by
            refine ⟨nK, nP, nF, nL, nO, h1.sc (sc2.trans sk7'.sc) ?_⟩
            rw [sk7'.rd (p := 0) (by decide) (by decide), sk7'.rm (by decide)]
            rfl
          have e14 : ab_rd m4 6 14 = ab_rd m1 6 14 := fr4.rdi (by decide) _
          have g6' : (ab_rd m1 6 14).toInt = c := g6
          have es : (ab_rd m4 6 14 + y).toInt = a.toInt + y.toInt := by
            rw [e14, ab_addI (by omega) (by omega), g6', ha]
          have hC4' : ab_C Z 4 28 [.inl (.ref 6), .inl (.int (nI l)), .inl (.int (ab_rd m1 36 (nI l).toNatClampNeg))] m1 (some c4) m4 := by
            rw [cl, eb]
            exact hC4
          have nb : ¬ ab_rd m1 36 (nI l).toNatClampNeg = -1 := by
            rw [cl, eb]
            exact nI_m1 (by omega)
          by_cases w : c4 ≤ ab_rd m4 6 14 + y
          · have w' : ab_b (a.toInt + y.toInt < c4.toInt) = 0 := ab_b_f (by
              rw [ab_leI, es] at w
              omega)
            rw [w'] at hC7
            exact ⟨0, _, m7, ab_Kc hZ (tk_D_sure_0_5 ⟨(by decide : 0 < 40), ct_Losses_has hZ _ m⟩ x1 ⟨(by decide : 0 < 40), ct_D_isWithin hZ y 0 1000 m⟩ y1 il q' ⟨(by decide : 6 < 40), hC1⟩ il nb ⟨(by decide : 4 < 40), hC4'⟩ w ⟨(by decide : 0 < 40), ct_D_answer hZ 0 _⟩ ⟨rfl, rfl⟩) trivial (by decide) (Nat.le_of_ble_eq_true rfl), hC7, fin⟩
          · have w' : ab_b (a.toInt + y.toInt < c4.toInt) = 1 := ab_b_t (by
              rw [ab_leI, es] at w
              omega)
            rw [w'] at hC7
            exact ⟨1, _, m7, ab_Kc hZ (tk_D_sure_0_4 ⟨(by decide : 0 < 40), ct_Losses_has hZ _ m⟩ x1 ⟨(by decide : 0 < 40), ct_D_isWithin hZ y 0 1000 m⟩ y1 il q' ⟨(by decide : 6 < 40), hC1⟩ il nb ⟨(by decide : 4 < 40), hC4'⟩ w ⟨(by decide : 0 < 40), ct_D_answer hZ 1 _⟩ ⟨rfl, rfl⟩) trivial (by decide) (Nat.le_of_ble_eq_true rfl), hC7, fin⟩
        · rw [if_neg (fun w => z w.2)] at eb
          have sc2 : iv_sc m1 (iv_m0 (ab_wr m1 0 11 7)) := (iv_sc.d m1 7).trans (iv_sc.m0 _)
          obtain ⟨r3, m3, hC3, ⟨a, hr3, ha⟩, sk3, bst⟩ := ct_M_matches hZ (h1.D.sc sc2) (show 0 ≤ (ab_rd (iv_m0 (ab_wr m1 0 11 7)) 8 6).toInt ∧ (ab_rd (iv_m0 (ab_wr m1 0 11 7)) 8 6).toInt ≤ 100 from hg1) (sc2.best g5)
          rw [hr3] at hC3
          have o2 : gw_o (iv_m0 (ab_wr m1 0 11 7)) l := by
            show ab_rd _ 67 l = 0
            rw [sc2.o, eH]
            exact q
          have e72 := bst l hl o2
          rw [if_neg z] at e72
          refine ⟨-1, _, _, ab_Kc hZ (tk_D_sure_0_3 ⟨(by decide : 0 < 40), ct_Losses_has hZ _ m⟩ x1 ⟨(by decide : 0 < 40), ct_D_isWithin hZ y 0 1000 m⟩ y1 il q' ⟨(by decide : 6 < 40), hC1⟩ il (by rw [cl, eb]) ⟨(by decide : 0 < 40), ct_D_refuse hZ 7 _⟩ ⟨rfl, rfl⟩) trivial (by decide) (Nat.le_of_ble_eq_true rfl), ab_Kc hZ (tk_M_sure_0_3 ⟨(by decide : 0 < 40), ct_M_isLoss hZ _ _⟩ (by
            rw [show ab_rd (iv_m0 (ab_wr m1 0 11 7)) 8 5 = ab_rd m1 8 5 from sc2.2.2.2 _ (by decide), show ab_rd m1 8 5 = ab_rd m 8 5 from congrFun eM _]
            exact x2) y2 y3 il (by rw [cl]; exact o2) ⟨(by decide : 3 < 40), hC3⟩ il (by rw [cl, e72]; decide) ⟨(by decide : 0 < 40), ct_M_refuse hZ 7 _⟩ ⟨rfl, rfl⟩) trivial (by decide) (Nat.le_of_ble_eq_true rfl), nK, nP, nF, nL, nO, h1.sc ((sc2.trans sk3.sc).trans (iv_sc.m _ 7 (by decide))) ?_⟩
          show ab_rd m3 0 11 = 7
          rw [sk3.rd (p := 0) (by decide) (by decide)]
          rfl
      · exact ⟨-1, _, _, ab_Kc hZ (tk_D_sure_0_2 ⟨(by decide : 0 < 40), ct_Losses_has hZ _ m⟩ x1 ⟨(by decide : 0 < 40), ct_D_isWithin hZ y 0 1000 m⟩ y1 il (by rw [cl, b7]; exact q) ⟨(by decide : 0 < 40), ct_D_refuse hZ 5 _⟩ ⟨rfl, rfl⟩) trivial (by decide) (Nat.le_of_ble_eq_true rfl), ab_Kc hZ (tk_M_sure_0_2 ⟨(by decide : 0 < 40), ct_M_isLoss hZ _ _⟩ x2 y2 y3 il (by rw [cl]; exact q) ⟨(by decide : 0 < 40), ct_M_refuse hZ 5 _⟩ ⟨rfl, rfl⟩) trivial (by decide) (Nat.le_of_ble_eq_true rfl), iv_refused hI 5⟩
    · refine ⟨-1, _, _, ab_Kc hZ (tk_D_sure_0_1 ⟨(by decide : 0 < 40), ct_Losses_has hZ _ m⟩ x1 ⟨(by decide : 0 < 40), ct_D_isWithin hZ y 0 1000 m⟩ (ab_b_0.mpr (by rw [e1000, ab_t0]; exact hy)) ⟨(by decide : 0 < 40), ct_D_refuse hZ 2 _⟩ ⟨rfl, rfl⟩) trivial (by decide) (Nat.le_of_ble_eq_true rfl), (?_ : ab_C Z 40 125 [.inl (.ref 8), .inl (.int (nI l)), .inl (.int y)] (ab_wr m 0 11 2) (some (-1)) (ab_wr (iv_m0 (ab_wr m 0 11 2)) 8 0 2)), iv_refused hI 2⟩
      refine ab_Kc hZ ?_ trivial (by decide) (Nat.le_of_ble_eq_true rfl)
      by_cases z : y < 0
      · exact tk_M_sure_0_5 ⟨(by decide : 0 < 40), ct_M_isLoss hZ _ _⟩ x2 z ⟨(by decide : 0 < 40), ct_M_refuse hZ 2 _⟩ ⟨rfl, rfl⟩
      · refine tk_M_sure_0_1 ⟨(by decide : 0 < 40), ct_M_isLoss hZ _ _⟩ x2 z ?_ ⟨(by decide : 0 < 40), ct_M_refuse hZ 2 _⟩ ⟨rfl, rfl⟩
        rw [ab_ltI, ab_t0] at z
        rw [ab_leI, e1000]
        omega
  · exact ⟨-1, _, _, ab_Kc hZ (tk_D_sure_0_0 ⟨(by decide : 0 < 40), ct_Losses_has hZ x m⟩ (ab_b_0.mpr (by rw [cLD]; exact hx)) ⟨(by decide : 0 < 40), ct_D_refuse hZ 1 _⟩ ⟨rfl, rfl⟩) trivial (by decide) (Nat.le_of_ble_eq_true rfl), ab_Kc hZ (tk_M_sure_0_0 ⟨(by decide : 0 < 40), ct_M_isLoss hZ x _⟩ (ab_b_0.mpr (show ¬ (0 ≤ x.toInt ∧ x.toInt < (ab_rd m 8 5).toInt) by rw [cLM]; exact hx)) ⟨(by decide : 0 < 40), ct_M_refuse hZ 1 _⟩ ⟨rfl, rfl⟩) trivial (by decide) (Nat.le_of_ble_eq_true rfl), iv_refused hI 1⟩
