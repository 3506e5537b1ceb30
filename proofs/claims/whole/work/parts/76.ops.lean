/-! ===== match, matched, sure ===== -/
theorem iv_sc.pr {m m2 : ab_M} (g : iv_sc m m2) (nP nF : Nat) : iv_pr m2 nP nF = iv_pr m nP nF := by
  funext l s
  unfold iv_pr
  rw [g.cost, show ab_rd m2 58 = ab_rd m 58 from g.1 _ (by decide) (by decide) (by decide), show ab_rd m2 8 6 = ab_rd m 8 6 from g.2.2.2 _ (by decide)]
theorem iv_sc.o {m m2 : ab_M} (g : iv_sc m m2) : ab_rd m2 67 = ab_rd m 67 := g.1 _ (by decide) (by decide) (by decide)
theorem iv_sc.best {m m2 : ab_M} (g : iv_sc m m2) {nP nF nL : Nat} {v : Nat → Nat} {c : Int} (h : sg_best nL nF (fun l => ab_rd m 67 l = 0) (iv_pr m nP nF) v c) : sg_best nL nF (gw_o m2) (iv_pr m2 nP nF) v c := sg_best_cong (fun l _ => by show ab_rd m 67 l = 0 ↔ ab_rd m2 67 l = 0; rw [g.o]) (fun l _ _ s _ => by rw [g.pr]) h
theorem op_match {Z : ab_Z} (hZ : ab_okZ Z) {m : ab_M} (hI : iv_A m) : iv_Op Z 65 123 [] m := by
  obtain ⟨nK, nP, nF, nL, nO, h⟩ := hI
  obtain ⟨r, m1, hC1, hr1, fb, h1, old⟩ := ct_D_freshenBest hZ h
  rw [hr1] at hC1
  obtain ⟨g1, g2, g3, g4, v, c, g5, g6, g7⟩ := h1.2.2.2.2.2.2.2.2 old
  have sc2 : iv_sc m1 (iv_m0 (ab_wr m1 0 11 0)) := (iv_sc.d m1 0).trans (iv_sc.m0 _)
  have hD2 := h1.D.sc sc2
  have hg2 : 0 ≤ (ab_rd (iv_m0 (ab_wr m1 0 11 0)) 8 6).toInt ∧ (ab_rd (iv_m0 (ab_wr m1 0 11 0)) 8 6).toInt ≤ 100 := h1.2.2.2.2.2.2.1.2.2.1
  obtain ⟨r3, m3, hC3, hr3, ⟨sk3, G3, pr3⟩, -⟩ := ct_M_gather hZ hD2 hg2
  rw [hr3] at hC3
  have hb := sc2.best g5
  have hP' := gw_P hD2.2.2.2.1 hD2.2.2.2.2 hg2
  have hf24 : nF ≤ 24 := hD2.2.2.2.1.1
  have hl24 : nL ≤ 24 := hD2.2.2.2.2.1
  have hnf := cn_le (gw_k (iv_m0 (ab_wr m1 0 11 0))) nF
  have hnl := cn_le (gw_o (iv_m0 (ab_wr m1 0 11 0))) nL
  obtain ⟨r4, m4, hC4, ⟨a, hr4, ha⟩, fr4⟩ := ct_M_solve hZ (m := m3) (n := cn_of (gw_o (iv_m0 (ab_wr m1 0 11 0))) nL) (C := cn_of (gw_k (iv_m0 (ab_wr m1 0 11 0))) nF + cn_of (gw_o (iv_m0 (ab_wr m1 0 11 0))) nL) (w := gw (iv_m0 (ab_wr m1 0 11 0)) nP nF nL) (by omega) (by omega) (by omega) G3.2.2.1 (by rw [G3.1, G3.2.2.1, nI_add]) (fun i j hi hj => ⟨pr3 i j hi hj, mx_bd hP' hi hj⟩)
  rw [hr4] at hC4
  have ea := mx_min hP' hl24 ha ⟨v, hb.1, hb.2.1⟩ hb.2.2.1
  have eq : a = ab_rd m1 6 14 := by rw [ab_eqI, ea, g6]
  rw [eq] at hC4
  have sk4 := sk3.trans (fr4.sk (by decide))
  refine ⟨ab_rd m1 6 14, _, m4, ab_Kc hZ (tk_D_match_0_0 ⟨(by decide : 6 < 40), hC1⟩ ⟨(by decide : 0 < 40), ct_D_answer hZ _ _⟩ ⟨rfl, rfl⟩) trivial (by decide) (Nat.le_of_ble_eq_true rfl), ab_Kc hZ (tk_M_match_0_0 ⟨(by decide : 2 < 40), hC3⟩ ⟨(by decide : 1 < 40), hC4⟩ ⟨rfl, rfl⟩) trivial (by decide) (Nat.le_of_ble_eq_true rfl), nK, nP, nF, nL, nO, h1.sc (sc2.trans sk4.sc) ?_⟩
  rw [sk4.rd (p := 0) (by decide) (by decide), sk4.rm (by decide)]
  rfl
theorem op_matched {Z : ab_Z} (hZ : ab_okZ Z) (x : Int32) {m : ab_M} (hI : iv_A m) : iv_Op Z 66 124 [.inl (.int x)] m := by
  have hI' := hI
  obtain ⟨nK, nP, nF, nL, nO, h⟩ := hI'
  obtain ⟨hK, hN, hP, hF, hL⟩ := h.D
  obtain ⟨l1, l2, l3, b1, b2, b3, b4, b5, b6, b7, b8, b9, ll⟩ := id hL
  have hf24 : nF ≤ 24 := hF.1
  have cLD : (ab_rd m 5 7).toInt = nL := iv_toI l2 (by omega)
  have cLM : (ab_rd m 8 5).toInt = nL := iv_toI l3 (by omega)
  by_cases hx : 0 ≤ x.toInt ∧ x.toInt < nL
  · have x1 : ¬ ab_b (0 ≤ x.toInt ∧ x.toInt < (ab_rd m 5 7).toInt) = 0 := ab_b_n.mpr (by rw [cLD]; exact hx)
    have x2 : ¬ ab_b (0 ≤ x.toInt ∧ x.toInt < (ab_rd m 8 5).toInt) = 0 := ab_b_n.mpr (by rw [cLM]; exact hx)
    obtain ⟨l, hl, rfl⟩ := iv_ix hx (by omega)
    have il := ab_in (n := l) (N := 24) (by omega) (by decide)
    have cl := ab_cl (n := l) (by omega)
    by_cases q : ab_rd m 67 l = 0
    · obtain ⟨r, m1, hC1, hr1, fb, h1, old⟩ := ct_D_freshenBest hZ h
      rw [hr1] at hC1
      obtain ⟨g1, g2, g3, g4, v, c, g5, g6, g7⟩ := h1.2.2.2.2.2.2.2.2 old
      have eH : ab_rd m1 67 = ab_rd m 67 := fb.1.rd (by decide)
      have eb := g7 l hl
      rw [eH] at eb
      have q' : ab_rd m 33 (nI l).toNatClampNeg = 0 := by rw [cl, b7]; exact q
      have eM : ab_rd m1 8 = ab_rd m 8 := fb.1.rd (by decide)
      have x3 : ∀ s, ¬ ab_b (0 ≤ (nI l).toInt ∧ (nI l).toInt < (ab_rd (iv_m0 (ab_wr m1 0 11 s)) 8 5).toInt) = 0 := fun s => by
        show ¬ ab_b (0 ≤ (nI l).toInt ∧ (nI l).toInt < (ab_rd m1 8 5).toInt) = 0
        rw [show ab_rd m1 8 5 = ab_rd m 8 5 from congrFun eM _]
        exact x2
      have q2 : ∀ s, ab_rd (iv_m0 (ab_wr m1 0 11 s)) 67 (nI l).toNatClampNeg = 0 := fun s => by
        show ab_rd m1 67 (nI l).toNatClampNeg = 0
        rw [cl, eH]
        exact q
      have sc2 : ∀ s, iv_sc m1 (iv_m0 (ab_wr m1 0 11 s)) := fun s => (iv_sc.d m1 s).trans (iv_sc.m0 _)
      have mt := fun s => ct_M_matches hZ (h1.D.sc (sc2 s)) (show 0 ≤ (ab_rd (iv_m0 (ab_wr m1 0 11 s)) 8 6).toInt ∧ (ab_rd (iv_m0 (ab_wr m1 0 11 s)) 8 6).toInt ≤ 100 from h1.2.2.2.2.2.2.1.2.2.1) ((sc2 s).best g5)
      have ol : ∀ s, gw_o (iv_m0 (ab_wr m1 0 11 s)) l := fun s => by
        show ab_rd m1 67 l = 0
        rw [eH]
        exact q
      by_cases z : v l < nF
      · rw [if_pos ⟨q, z⟩] at eb
        obtain ⟨r3, m3, hC3, ⟨a, hr3, ha⟩, sk3, bst⟩ := mt 0
        rw [hr3] at hC3
        have e72 := bst l hl (ol 0)
        rw [if_pos z] at e72
        refine ⟨nI (v l), _, m3, ab_Kc hZ (tk_D_matched_0_3 ⟨(by decide : 0 < 40), ct_Losses_has hZ _ m⟩ x1 il q' ⟨(by decide : 6 < 40), hC1⟩ il (by rw [cl, eb]; exact nI_m1 (by omega)) ⟨(by decide : 0 < 40), (by rw [cl, eb]; exact ct_D_answer hZ _ _)⟩ ⟨rfl, rfl⟩) trivial (by decide) (Nat.le_of_ble_eq_true rfl), ab_Kc hZ (tk_M_matched_0_3 ⟨(by decide : 0 < 40), ct_M_isLoss hZ _ _⟩ (x3 0) il (q2 0) ⟨(by decide : 3 < 40), hC3⟩ il (by rw [cl, e72]; exact nI_pos' (by omega)) il ⟨by rw [cl, e72], rfl⟩) trivial (by decide) (Nat.le_of_ble_eq_true rfl), nK, nP, nF, nL, nO, h1.sc ((sc2 0).trans sk3.sc) ?_⟩
        rw [sk3.rd (p := 0) (by decide) (by decide), sk3.rm (by decide)]
        rfl
      · rw [if_neg (fun y => z y.2)] at eb
        obtain ⟨r3, m3, hC3, ⟨a, hr3, ha⟩, sk3, bst⟩ := mt 7
        rw [hr3] at hC3
        have e72 := bst l hl (ol 7)
        rw [if_neg z] at e72
        refine ⟨-1, _, _, ab_Kc hZ (tk_D_matched_0_2 ⟨(by decide : 0 < 40), ct_Losses_has hZ _ m⟩ x1 il q' ⟨(by decide : 6 < 40), hC1⟩ il (by rw [cl, eb]) ⟨(by decide : 0 < 40), ct_D_refuse hZ 7 _⟩ ⟨rfl, rfl⟩) trivial (by decide) (Nat.le_of_ble_eq_true rfl), ab_Kc hZ (tk_M_matched_0_2 ⟨(by decide : 0 < 40), ct_M_isLoss hZ _ _⟩ (x3 7) il (q2 7) ⟨(by decide : 3 < 40), hC3⟩ il (by rw [cl, e72]; decide) ⟨(by decide : 0 < 40), ct_M_refuse hZ 7 _⟩ ⟨rfl, rfl⟩) trivial (by decide) (Nat.le_of_ble_eq_true rfl), nK, nP, nF, nL, nO, h1.sc (((sc2 7).trans sk3.sc).trans (iv_sc.m _ 7 (by decide))) ?_⟩
        show ab_rd m3 0 11 = 7
        rw [sk3.rd (p := 0) (by decide) (by decide)]
        rfl
    · exact ⟨-1, _, _, ab_Kc hZ (tk_D_matched_0_1 ⟨(by decide : 0 < 40), ct_Losses_has hZ _ m⟩ x1 il (by rw [cl, b7]; exact q) ⟨(by decide : 0 < 40), ct_D_refuse hZ 5 _⟩ ⟨rfl, rfl⟩) trivial (by decide) (Nat.le_of_ble_eq_true rfl), ab_Kc hZ (tk_M_matched_0_1 ⟨(by decide : 0 < 40), ct_M_isLoss hZ _ _⟩ x2 il (by rw [cl]; exact q) ⟨(by decide : 0 < 40), ct_M_refuse hZ 5 _⟩ ⟨rfl, rfl⟩) trivial (by decide) (Nat.le_of_ble_eq_true rfl), iv_refused hI 5⟩
  · exact ⟨-1, _, _, ab_Kc hZ (tk_D_matched_0_0 ⟨(by decide : 0 < 40), ct_Losses_has hZ x m⟩ (ab_b_0.mpr (by rw [cLD]; exact hx)) ⟨(by decide : 0 < 40), ct_D_refuse hZ 1 _⟩ ⟨rfl, rfl⟩) trivial (by decide) (Nat.le_of_ble_eq_true rfl), ab_Kc hZ (tk_M_matched_0_0 ⟨(by decide : 0 < 40), ct_M_isLoss hZ x _⟩ (ab_b_0.mpr (show ¬ (0 ≤ x.toInt ∧ x.toInt < (ab_rd m 8 5).toInt) by rw [cLM]; exact hx)) ⟨(by decide : 0 < 40), ct_M_refuse hZ 1 _⟩ ⟨rfl, rfl⟩) trivial (by decide) (Nat.le_of_ble_eq_true rfl), iv_refused hI 1⟩
/-- a sum of costs below the bar -/
theorem sg_small {n F : Nat} {op : Nat → Prop} [DecidablePred op] {w : Nat → Nat → Int} {x : Nat → Nat} (hb : ∀ l s, l < n → op l → s ≤ F → 0 ≤ w l s) (hx : in_ok n F op x) {c : Int} (hs : sg_cost n op w x < c) : ∀ l, l < n → op l → w l (x l) < c := by
  intro l hl ho
  have h := hg_small (n := n) (C := 1) (pw := fun l _ => if op l then w l (x l) else 0) (x := fun _ => 0) (c := c) (fun i j hi _ => by
    show (0 : Int) ≤ if op i then w i (x i) else 0
    by_cases q : op i
    · rw [if_pos q]
      exact hb i _ hi q (hx.1 i hi q)
    · rw [if_neg q]
      exact Int.le_refl _) (fun _ _ => by decide) hs l hl
  have h : (if op l then w l (x l) else 0) < c := h
  rw [if_pos ho] at h
  exact h
/-- without a pair -/
theorem mx_cut {nL nF : Nat} {op kp : Nat → Prop} [DecidablePred op] [DecidablePred kp] {w pw : Nat → Nat → Int} (h : mx_P nL nF op kp w pw) {l0 f0 : Nat} (hl0 : l0 < nL) (ho0 : op l0) (hf0 : f0 < nF) (hk0 : kp f0) : mx_P nL nF op kp (fun l s => if l = l0 ∧ s = f0 then 1000000 else w l s) (fun i j => if i = cn_of op l0 ∧ j = cn_of kp f0 then 10000000 else pw i j) := by
  intro l hl ho
  obtain ⟨h1, h2, h3, h4, h5, h6⟩ := h l hl ho
  have hlt := cn_lt hf0 hk0
  refine ⟨fun s hs hk => ?_, fun s hs hk => ?_, ?_, ?_, fun i hi hne => ?_, fun s hs => ?_⟩
  · show 1000000 ≤ if l = l0 ∧ s = f0 then 1000000 else w l s
    by_cases q : l = l0 ∧ s = f0
    · rw [if_pos q]
      exact Int.le_refl _
    · rw [if_neg q]
      exact h1 s hs hk
  · show (if cn_of op l = cn_of op l0 ∧ cn_of kp s = cn_of kp f0 then 10000000 else pw (cn_of op l) (cn_of kp s)) = if (if l = l0 ∧ s = f0 then 1000000 else w l s) < 1000000 then (if l = l0 ∧ s = f0 then 1000000 else w l s) else 10000000
    by_cases q : l = l0 ∧ s = f0
    · rw [if_pos (show cn_of op l = cn_of op l0 ∧ cn_of kp s = cn_of kp f0 by rw [q.1, q.2]; exact ⟨rfl, rfl⟩)]
      have e : (if l = l0 ∧ s = f0 then (1000000 : Int) else w l s) = 1000000 := if_pos q
      rw [e, if_neg (by decide)]
    · rw [if_neg (fun y => q ⟨cn_one ho ho0 y.1, cn_one hk hk0 y.2⟩)]
      have e : (if l = l0 ∧ s = f0 then (1000000 : Int) else w l s) = w l s := if_neg q
      rw [e]
      exact h2 s hs hk
  · show (if cn_of op l = cn_of op l0 ∧ cn_of kp nF + cn_of op l = cn_of kp f0 then 10000000 else pw (cn_of op l) (cn_of kp nF + cn_of op l)) = if l = l0 ∧ nF = f0 then 1000000 else w l nF
    rw [if_neg (by omega), if_neg (by omega)]
    exact h3
  · show 0 ≤ (if l = l0 ∧ nF = f0 then (1000000 : Int) else w l nF) ∧ (if l = l0 ∧ nF = f0 then (1000000 : Int) else w l nF) ≤ 100
    rw [if_neg (by omega)]
    exact h4
  · show (if cn_of op l = cn_of op l0 ∧ cn_of kp nF + i = cn_of kp f0 then 10000000 else pw (cn_of op l) (cn_of kp nF + i)) = 10000000
    rw [if_neg (by omega)]
    exact h5 i hi hne
  · show 0 ≤ if l = l0 ∧ s = f0 then (1000000 : Int) else w l s
    by_cases q : l = l0 ∧ s = f0
    · rw [if_pos q]
      decide
    · rw [if_neg q]
      exact h6 s hs
/-- the reference bars a pair, and solves again -/
theorem cl_M_sure {Z : ab_Z} (hZ : ab_okZ Z) {m M : ab_M} {nK nP nF nL l f0 : Nat} {a y : Int32} (hD : iv_D m nK nP nF nL) (hg : 0 ≤ (ab_rd m 8 6).toInt ∧ (ab_rd m 8 6).toInt ≤ 100) (hR : gw_R m nP nF nL M) (hl : l < nL) (ho : gw_o m l) (hf : f0 < nF) (hk : gw_k m f0) (hb : ab_rd M 72 l = nI f0) {c : Int} (hc : ∀ c', hg_min (cn_of (gw_o m) nL) (cn_of (gw_k m) nF + cn_of (gw_o m) nL) (fun i j => if i = cn_of (gw_o m) l ∧ j = cn_of (gw_k m) f0 then 10000000 else gw m nP nF nL i j) c' → c' = c) (ha : 0 ≤ a.toInt ∧ a.toInt ≤ 2400) (hy : 0 ≤ y.toInt ∧ y.toInt ≤ 1000) : ab_T Z 125 40 (84, [(0, .inl (.ref 8)), (1, .inl (.int (nI l))), (2, .inl (.int y)), (3, .inl (.int a)), (4, .inl (.int 0))], [], M) (fun r m9 => r = some (ab_b (a.toInt + y.toInt < c)) ∧ iv_sk m m9) := by
  obtain ⟨hK, hN, hP, hF, hL⟩ := id hD
  have hf24 : nF ≤ 24 := hF.1
  have hl24 : nL ≤ 24 := hL.1
  have hnf := cn_le (gw_k m) nF
  have hnl := cn_le (gw_o m) nL
  have hP' := mx_cut (gw_P hF hL hg) hl ho hf hk
  obtain ⟨sk, G, pr⟩ := hR
  have cl := ab_cl (n := l) (by omega)
  have il := ab_in (n := l) (N := 24) (by omega) (by decide)
  have l96 : ∀ (k j i l' : Nat) (N : ab_M) (P : Option Int32 → ab_M → Prop), j + k = cn_of (gw_k m) nF → i < cn_of (gw_o m) nL → l' < nL → gw_o m l' → cn_of (gw_o m) l' = i → fr_M [73] M N → (∀ i' j', i' < cn_of (gw_o m) nL → j' < cn_of (gw_k m) nF + cn_of (gw_o m) nL → (ab_rd N 73 (48 * i' + j')).toInt = if (i' < i ∨ (i' = i ∧ j' < j)) ∧ i' = cn_of (gw_o m) l ∧ j' = cn_of (gw_k m) f0 then 10000000 else gw m nP nF nL i' j') → (∀ N', fr_M [73] M N' → (∀ i' j', i' < cn_of (gw_o m) nL → j' < cn_of (gw_k m) nF + cn_of (gw_o m) nL → (ab_rd N' 73 (48 * i' + j')).toInt = if i' < i + 1 ∧ i' = cn_of (gw_o m) l ∧ j' = cn_of (gw_k m) f0 then 10000000 else gw m nP nF nL i' j') → ab_T Z 125 40 (84, [(0, .inl (.ref 8)), (1, .inl (.int (nI l))), (2, .inl (.int y)), (3, .inl (.int a)), (4, .inl (.int (nI (i + 1))))], [], N') P) → ab_T Z 125 40 (96, [(0, .inl (.ref 8)), (1, .inl (.int (nI l))), (2, .inl (.int y)), (3, .inl (.int a)), (4, .inl (.int (nI i))), (5, .inl (.int (nI j)))], [], N) P := by
    intro k
    induction k with
    | zero =>
      intro j i l' N P hj hi hl' ho' hli hN hin fin
      have GN := G.fr hN (by decide)
      refine tk_M_sure_96_3 (by rw [GN.1]; exact nI_le (by omega) (by omega)) ?_
      rw [nI_1]
      have hlt := cn_lt hf hk
      refine fin N hN (fun i' j' z1 z2 => ?_)
      rw [hin i' j' z1 z2]
      by_cases q : i' < i + 1 ∧ i' = cn_of (gw_o m) l ∧ j' = cn_of (gw_k m) f0
      · rw [if_pos q, if_pos (by omega)]
      · rw [if_neg q, if_neg (by omega)]
    | succ k ih =>
      intro j i l' N P hj hi hl' ho' hli hN hin fin
      have GN := G.fr hN (by decide)
      have hlt : ¬ ab_rd N 8 34 ≤ nI j := by rw [GN.1]; exact nI_ge (by omega) (by omega)
      have ii := ab_in (n := i) (N := 24) (by omega) (by decide)
      have ij := ab_in (n := j) (N := 24) (by omega) (by decide)
      have eL : ab_rd N 70 (nI i).toNatClampNeg = nI l' := by rw [ab_cl (by omega), ← hli]; exact GN.2.2.2 l' hl' ho'
      obtain ⟨f, d1, d2, d3, d4⟩ := mx_row (op := gw_k m) (show j < cn_of (gw_k m) nF by omega)
      have eF : ab_rd N 71 (nI j).toNatClampNeg = nI f := by rw [ab_cl (by omega), ← d3]; exact GN.2.1 f d1 d2
      have eb : ab_rd N 72 (nI l).toNatClampNeg = nI f0 := by rw [cl, hN.rdi (by decide)]; exact hb
      by_cases q1 : l' = l
      · by_cases q2 : f = f0
        · refine tk_M_sure_96_0 hlt ii (by rw [eL, q1]) ij il (by rw [eF, eb, q2]) (by rw [nI_48a]; exact ab_in (by omega) (by decide)) ?_
          rw [nI_1, nI_48a, ab_cl (by omega)]
          refine ih (j + 1) i l' _ P (by omega) hi hl' ho' hli (hN.wr (by decide) _ _) (fun i' j' z1 z2 => ?_) fin
          have ei : i = cn_of (gw_o m) l := by rw [← q1]; exact hli.symm
          have ej : j = cn_of (gw_k m) f0 := by rw [← q2]; exact d3.symm
          rw [ab_rd_p]
          by_cases e : i' = i ∧ j' = j
          · rw [if_pos (by omega), if_pos (by omega)]
            rfl
          · rw [if_neg (by omega), hin i' j' z1 z2, if_neg (by omega), if_neg (by omega)]
        · refine tk_M_sure_96_1 hlt ii (by rw [eL, q1]) ij il (by rw [eF, eb]; exact fun z => q2 ((nI_eq (by omega) (by omega)).mp z)) ?_
          rw [nI_1]
          refine ih (j + 1) i l' N P (by omega) hi hl' ho' hli hN (fun i' j' z1 z2 => ?_) fin
          have ej : j ≠ cn_of (gw_k m) f0 := fun z => q2 (cn_one d2 hk (by rw [d3, z]))
          rw [hin i' j' z1 z2]
          by_cases q : (i' < i ∨ (i' = i ∧ j' < j)) ∧ i' = cn_of (gw_o m) l ∧ j' = cn_of (gw_k m) f0
          · rw [if_pos q, if_pos (by omega)]
          · rw [if_neg q, if_neg (by omega)]
      · refine tk_M_sure_96_2 hlt ii (by rw [eL]; exact fun z => q1 ((nI_eq (by omega) (by omega)).mp z)) ?_
        rw [nI_1]
        refine ih (j + 1) i l' N P (by omega) hi hl' ho' hli hN (fun i' j' z1 z2 => ?_) fin
        have ei : i ≠ cn_of (gw_o m) l := fun z => q1 (cn_one ho' ho (by rw [hli, z]))
        rw [hin i' j' z1 z2]
        by_cases q : (i' < i ∨ (i' = i ∧ j' < j)) ∧ i' = cn_of (gw_o m) l ∧ j' = cn_of (gw_k m) f0
        · rw [if_pos q, if_pos (by omega)]
        · rw [if_neg q, if_neg (by omega)]
  have l84 : ∀ (k i : Nat) (N : ab_M), i + k = cn_of (gw_o m) nL → fr_M [73] M N → (∀ i' j', i' < cn_of (gw_o m) nL → j' < cn_of (gw_k m) nF + cn_of (gw_o m) nL → (ab_rd N 73 (48 * i' + j')).toInt = if i' < i ∧ i' = cn_of (gw_o m) l ∧ j' = cn_of (gw_k m) f0 then 10000000 else gw m nP nF nL i' j') → ab_T Z 125 40 (84, [(0, .inl (.ref 8)), (1, .inl (.int (nI l))), (2, .inl (.int y)), (3, .inl (.int a)), (4, .inl (.int (nI i)))], [], N) (fun r m9 => r = some (ab_b (a.toInt + y.toInt < c)) ∧ iv_sk m m9) := by
    intro k
    induction k with
    | zero =>
      intro i N hi hN hin
      have GN := G.fr hN (by decide)
      obtain ⟨r4, M4, hC4, ⟨c', hr4, hc'⟩, fr4⟩ := ct_M_solve hZ (m := N) (n := cn_of (gw_o m) nL) (C := cn_of (gw_k m) nF + cn_of (gw_o m) nL) (w := fun i j => if i = cn_of (gw_o m) l ∧ j = cn_of (gw_k m) f0 then 10000000 else gw m nP nF nL i j) (by omega) (by omega) (by omega) GN.2.2.1 (by rw [GN.1, GN.2.2.1, nI_add]) (fun i' j' z1 z2 => ⟨by
        rw [hin i' j' z1 z2]
        show (if i' < i ∧ i' = cn_of (gw_o m) l ∧ j' = cn_of (gw_k m) f0 then 10000000 else gw m nP nF nL i' j') = if i' = cn_of (gw_o m) l ∧ j' = cn_of (gw_k m) f0 then 10000000 else gw m nP nF nL i' j'
        by_cases q : i' = cn_of (gw_o m) l ∧ j' = cn_of (gw_k m) f0
        · rw [if_pos q, if_pos (by omega)]
        · rw [if_neg q, if_neg (fun z => q z.2)], mx_bd hP' z1 z2⟩)
      rw [hr4] at hC4
      have ec := hc _ hc'
      have es : (a + y).toInt = a.toInt + y.toInt := ab_addI (by omega) (by omega)
      have sk4 : iv_sk m M4 := (sk.trans (hN.sk (by decide))).trans (fr4.sk (by decide))
      have hle : ab_rd N 8 33 ≤ nI i := by rw [GN.2.2.1]; exact nI_le (by omega) (by omega)
      by_cases q : c' ≤ a + y
      · refine tk_M_sure_84_2 hle ⟨(by decide : 1 < 40), hC4⟩ q ⟨congrArg some (ab_b_f ?_).symm, sk4⟩
        rw [ab_leI, es, ec] at q
        omega
      · refine tk_M_sure_84_1 hle ⟨(by decide : 1 < 40), hC4⟩ q ⟨congrArg some (ab_b_t ?_).symm, sk4⟩
        rw [ab_leI, es, ec] at q
        omega
    | succ k ih =>
      intro i N hi hN hin
      have GN := G.fr hN (by decide)
      obtain ⟨l', e1, e2, e3, e4⟩ := mx_row (op := gw_o m) (show i < cn_of (gw_o m) nL by omega)
      refine tk_M_sure_84_0 (by rw [GN.2.2.1]; exact nI_ge (by omega) (by omega)) (l96 (cn_of (gw_k m) nF) 0 i l' N _ (by omega) (by omega) e1 e2 e3 hN (fun i' j' z1 z2 => ?_) (fun N' g1 g2 => ih (i + 1) N' (by omega) g1 g2))
      rw [hin i' j' z1 z2]
      by_cases q : i' < i ∧ i' = cn_of (gw_o m) l ∧ j' = cn_of (gw_k m) f0
      · rw [if_pos q, if_pos (by omega)]
      · rw [if_neg q, if_neg (by omega)]
  exact l84 (cn_of (gw_o m) nL) 0 M (by omega) (fr_M.refl _ M) (fun i' j' z1 z2 => by rw [if_neg (by omega)]; exact pr i' j' z1 z2)
