/-! ===== the reference gathers its prices ===== -/
abbrev gw_o (m : ab_M) (l : Nat) : Prop := ab_rd m 67 l = 0
abbrev gw_k (m : ab_M) (f : Nat) : Prop := ab_rd m 58 f = 0
noncomputable def gw (m : ab_M) (nP nF nL i j : Nat) : Int := if j < cn_of (gw_k m) nF then (if 0 ≤ iv_cost m nP (nt (gw_o m) nL i) (nt (gw_k m) nF j) then iv_cost m nP (nt (gw_o m) nL i) (nt (gw_k m) nF j) else 10000000) else if j = cn_of (gw_k m) nF + i then (ab_rd m 8 6).toInt else 10000000
theorem gw_P {m : ab_M} {nK nP nF nL : Nat} (hF : iv_F m nK nP nF) (hL : iv_L m nK nP nL) (hg : 0 ≤ (ab_rd m 8 6).toInt ∧ (ab_rd m 8 6).toInt ≤ 100) : mx_P nL nF (gw_o m) (gw_k m) (iv_pr m nP nF) (gw m nP nF nL) := by
  intro l hl ho
  refine ⟨fun s hs hk => ?_, fun s hs hk => ?_, ?_, ?_, fun i hi hne => ?_, fun s _ => (iv_pr_le hF hL hg hl).1⟩
  · unfold iv_pr
    rw [if_pos hs, if_neg (fun z => hk z.1)]
    exact Int.le_refl _
  · unfold gw iv_pr
    rw [if_pos (cn_lt hs hk), nt_cn hl ho, nt_cn hs hk, if_pos hs]
    have := iv_cost_le hF hL hl hs
    by_cases z : 0 ≤ iv_cost m nP l s
    · have e : (if ab_rd m 58 s = 0 ∧ 0 ≤ iv_cost m nP l s then iv_cost m nP l s else 1000000) = iv_cost m nP l s := if_pos ⟨hk, z⟩
      rw [e, if_pos z, if_pos (by omega)]
    · have e : (if ab_rd m 58 s = 0 ∧ 0 ≤ iv_cost m nP l s then iv_cost m nP l s else 1000000) = 1000000 := if_neg (fun y => z y.2)
      rw [e, if_neg z, if_neg (by decide)]
  · unfold gw iv_pr
    rw [if_neg (by omega), if_pos rfl, if_neg (Nat.lt_irrefl _)]
  · unfold iv_pr
    rw [if_neg (Nat.lt_irrefl _)]
    exact hg
  · unfold gw
    rw [if_neg (by omega), if_neg (by omega)]
theorem nI_48a (i j : Nat) : 48 * nI i + nI j = nI (48 * i + j) := by rw [show (48 : Int32) = nI 48 from rfl, pk_mul, nI_add]
/-- what gather leaves -/
def gw_G (m : ab_M) (nF nL : Nat) (M : ab_M) (a b : Nat) : Prop := ab_rd M 8 34 = nI (cn_of (gw_k m) a) ∧ (∀ f, f < a → gw_k m f → ab_rd M 71 (cn_of (gw_k m) f) = nI f) ∧ ab_rd M 8 33 = nI (cn_of (gw_o m) b) ∧ ∀ l, l < b → gw_o m l → ab_rd M 70 (cn_of (gw_o m) l) = nI l
def gw_R (m : ab_M) (nP nF nL : Nat) (m9 : ab_M) : Prop := iv_sk m m9 ∧ gw_G m nF nL m9 nF nL ∧ ∀ i j, i < cn_of (gw_o m) nL → j < cn_of (gw_k m) nF + cn_of (gw_o m) nL → (ab_rd m9 73 (48 * i + j)).toInt = gw m nP nF nL i j
theorem ct_M_gather {Z : ab_Z} (hZ : ab_okZ Z) {m : ab_M} {nK nP nF nL : Nat} (hD : iv_D m nK nP nF nL) (hg : 0 ≤ (ab_rd m 8 6).toInt ∧ (ab_rd m 8 6).toInt ≤ 100) : ab_K Z 2 118 [.inl (.ref 8)] m (fun r m9 => r = none ∧ gw_R m nP nF nL m9 ∧ ab_rd m9 72 = ab_rd m 72) := by
  obtain ⟨hK, hN, hP, hF, hL⟩ := id hD
  obtain ⟨f1, f2, f3, -⟩ := id hF
  obtain ⟨l1, l2, l3, -⟩ := id hL
  obtain ⟨m3, hC3, hM3, hco⟩ := ct_M_measured hZ hD
  have sk3 := hM3.sk
  have hnf := cn_le (gw_k m) nF
  have hnl := cn_le (gw_o m) nL
  -- the prices
  have l122 : ∀ (k j i : Nat) (M : ab_M) (P : Option Int32 → ab_M → Prop), j + k = cn_of (gw_k m) nF + cn_of (gw_o m) nL → i < cn_of (gw_o m) nL → iv_sk m3 M → (ab_rd M 52 = ab_rd m3 52 ∧ ab_rd M 72 = ab_rd m 72) → gw_G m nF nL M nF nL → (∀ i' j', i' < cn_of (gw_o m) nL → j' < cn_of (gw_k m) nF + cn_of (gw_o m) nL → (i' < i ∨ (i' = i ∧ j' < j)) → (ab_rd M 73 (48 * i' + j')).toInt = gw m nP nF nL i' j') → (∀ M', iv_sk m3 M' → (ab_rd M' 52 = ab_rd m3 52 ∧ ab_rd M' 72 = ab_rd m 72) → gw_G m nF nL M' nF nL → (∀ i' j', i' < cn_of (gw_o m) nL → j' < cn_of (gw_k m) nF + cn_of (gw_o m) nL → i' < i + 1 → (ab_rd M' 73 (48 * i' + j')).toInt = gw m nP nF nL i' j') → ab_T Z 118 2 (112, [(0, .inl (.ref 8)), (1, .inl (.int (nI (i + 1))))], [], M') P) → ab_T Z 118 2 (122, [(0, .inl (.ref 8)), (1, .inl (.int (nI i))), (2, .inl (.int (nI j)))], [], M) P := by
    intro k
    induction k with
    | zero =>
      intro j i M P hj hi h1 h2 h3 h4 fin
      have ec : ab_rd M 8 34 + ab_rd M 8 33 = nI j := by rw [h3.1, h3.2.2.1, nI_add, ← hj, Nat.add_zero]
      refine tk_M_gather_122_6 ⟨(by decide : 0 < 2), ct_M_columns hZ M⟩ (by rw [ec]; exact Int32.le_refl _) ?_
      rw [nI_1]
      exact fin M h1 h2 h3 (fun i' j' a b c => h4 i' j' a b (by omega))
    | succ k ih =>
      intro j i M P hj hi h1 h2 h3 h4 fin
      have hcol := ct_M_columns hZ M
      have ec : ab_rd M 8 34 + ab_rd M 8 33 = nI (cn_of (gw_k m) nF + cn_of (gw_o m) nL) := by rw [h3.1, h3.2.2.1, nI_add]
      have hlt : ¬ ab_rd M 8 34 + ab_rd M 8 33 ≤ nI j := by rw [ec]; exact nI_ge (by omega) (by omega)
      have ix : vp_in (48 * nI i + nI j) 1152 := by rw [nI_48a]; exact ab_in (by omega) (by decide)
      have cx : (48 * nI i + nI j).toNatClampNeg = 48 * i + j := by rw [nI_48a]; exact ab_cl (by omega)
      have put : ∀ x : Int32, x.toInt = gw m nP nF nL i j → ab_T Z 118 2 (122, [(0, .inl (.ref 8)), (1, .inl (.int (nI i))), (2, .inl (.int (nI (j + 1))))], [], ab_wr M 73 (48 * i + j) x) P := fun x hx => by
        refine ih (j + 1) i _ P (by omega) hi (h1.trans (iv_sk.s M _ _ (by decide) (by decide))) ?_ ?_ (fun i' j' a b c => ?_) fin
        · exact ⟨(show ab_rd (ab_wr M 73 (48 * i + j) x) 52 = ab_rd M 52 from ab_wr_n _ _ _ (by decide)).trans h2.1, (show ab_rd (ab_wr M 73 (48 * i + j) x) 72 = ab_rd M 72 from ab_wr_n _ _ _ (by decide)).trans h2.2⟩
        · obtain ⟨a1, a2, a3, a4⟩ := h3
          exact ⟨a1, a2, a3, a4⟩
        · rw [ab_rd_p]
          by_cases e : i' = i ∧ j' = j
          · rw [if_pos (by omega), e.1, e.2]
            exact hx
          · rw [if_neg (by omega)]
            exact h4 i' j' a b (by omega)
      by_cases q : j < cn_of (gw_k m) nF
      · obtain ⟨l, e1, e2, e3, e4⟩ := mx_row hi
        obtain ⟨f, d1, d2, d3, d4⟩ := mx_row q
        have eL : ab_rd M 70 (nI i).toNatClampNeg = nI l := by rw [ab_cl (by omega), ← e3]; exact h3.2.2.2 l e1 e2
        have eF : ab_rd M 71 (nI j).toNatClampNeg = nI f := by rw [ab_cl (by omega), ← d3]; exact h3.2.1 f d1 d2
        obtain ⟨v, hv, ev⟩ := hco M h1 h2.1 l f e1 d1
        have hv' : ab_C Z 1 114 [.inl (.ref 8), .inl (.int (ab_rd M 70 (nI i).toNatClampNeg)), .inl (.int (ab_rd M 71 (nI j).toNatClampNeg))] M (some v) M := by
          rw [eL, eF]
          exact hv
        have hfm : ¬ ab_rd M 8 34 ≤ nI j := by rw [h3.1]; exact nI_ge q (by omega)
        have egw : gw m nP nF nL i j = if 0 ≤ iv_cost m nP l f then iv_cost m nP l f else 10000000 := by
          unfold gw
          rw [if_pos q, e4, d4]
        by_cases z : 0 ≤ v
        · refine tk_M_gather_122_1 ⟨(by decide : 0 < 2), hcol⟩ hlt hfm (ab_in (by omega) (by decide)) (ab_in (by omega) (by decide)) ⟨(by decide : 1 < 2), hv'⟩ z ix ?_
          rw [cx, nI_1]
          rw [ab_leI, ab_t0, ev] at z
          exact put v (by rw [egw, if_pos z, ev])
        · refine tk_M_gather_122_0 ⟨(by decide : 0 < 2), hcol⟩ hlt hfm (ab_in (by omega) (by decide)) (ab_in (by omega) (by decide)) ⟨(by decide : 1 < 2), hv'⟩ z ix ?_
          rw [cx, nI_1]
          rw [ab_leI, ab_t0, ev] at z
          exact put _ (by rw [egw, if_neg z]; rfl)
      · have hfm : ab_rd M 8 34 ≤ nI j := by rw [h3.1]; exact nI_le (by omega) (by omega)
        have esub : nI j - ab_rd M 8 34 = nI (j - cn_of (gw_k m) nF) := by rw [h3.1, pk_sub (by omega)]
        have eg : ab_rd M 8 6 = ab_rd m 8 6 := by rw [h1.rm (by decide), sk3.rm (by decide)]
        by_cases z : j = cn_of (gw_k m) nF + i
        · refine tk_M_gather_122_3 ⟨(by decide : 0 < 2), hcol⟩ hlt hfm (by rw [esub, z, Nat.add_sub_cancel_left]) (by rw [eg, ab_leI, ab_t0]; exact hg.1) ix ?_
          rw [cx, nI_1, eg]
          refine put _ ?_
          unfold gw
          rw [if_neg q, if_pos z]
        · refine tk_M_gather_122_4 ⟨(by decide : 0 < 2), hcol⟩ hlt hfm (by rw [esub]; exact fun y => z (by have := (nI_eq (by omega) (by omega)).mp y; omega)) (by decide) ix ?_
          rw [cx, nI_1]
          refine put _ ?_
          unfold gw
          rw [if_neg q, if_neg z]
          rfl
  have l112 : ∀ (k i : Nat) (M : ab_M), i + k = cn_of (gw_o m) nL → iv_sk m3 M → (ab_rd M 52 = ab_rd m3 52 ∧ ab_rd M 72 = ab_rd m 72) → gw_G m nF nL M nF nL → (∀ i' j', i' < cn_of (gw_o m) nL → j' < cn_of (gw_k m) nF + cn_of (gw_o m) nL → i' < i → (ab_rd M 73 (48 * i' + j')).toInt = gw m nP nF nL i' j') → ab_T Z 118 2 (112, [(0, .inl (.ref 8)), (1, .inl (.int (nI i)))], [], M) (fun r m9 => r = none ∧ gw_R m nP nF nL m9 ∧ ab_rd m9 72 = ab_rd m 72) := by
    intro k
    induction k with
    | zero =>
      intro i M hi h1 h2 h3 h4
      refine tk_M_gather_112_1 (by rw [h3.2.2.1, ← hi]; exact Int32.le_refl _) ⟨rfl, ⟨sk3.trans h1, h3, fun i' j' a b => h4 i' j' a b (by omega)⟩, h2.2⟩
    | succ k ih =>
      intro i M hi h1 h2 h3 h4
      exact tk_M_gather_112_0 (by rw [h3.2.2.1]; exact nI_ge (by omega) (by omega)) (l122 (cn_of (gw_k m) nF + cn_of (gw_o m) nL) 0 i M _ (by omega) (by omega) h1 h2 h3 (fun i' j' a b c => h4 i' j' a b (by omega)) (fun M' g1 g2 g3 g4 => ih (i + 1) M' (by omega) g1 g2 g3 g4))
  -- the losses
  have l64 : ∀ (k i : Nat) (M : ab_M), i + k = nL → iv_sk m3 M → (ab_rd M 52 = ab_rd m3 52 ∧ ab_rd M 72 = ab_rd m 72) → gw_G m nF nL M nF i → ab_T Z 118 2 (64, [(0, .inl (.ref 8)), (1, .inl (.int (nI i)))], [], M) (fun r m9 => r = none ∧ gw_R m nP nF nL m9 ∧ ab_rd m9 72 = ab_rd m 72) := by
    intro k
    induction k with
    | zero =>
      intro i M hi h1 h2 h3
      have hi : i = nL := by omega
      subst hi
      have ec : ab_rd M 8 5 = nI i := by rw [h1.rm (by decide), sk3.rm (by decide)]; exact l3
      exact tk_M_gather_64_2 (by rw [ec]; exact Int32.le_refl _) (l112 (cn_of (gw_o m) i) 0 M (by omega) h1 h2 h3 (fun i' j' _ _ c => by omega))
    | succ k ih =>
      intro i M hi h1 h2 h3
      have ec : ab_rd M 8 5 = nI nL := by rw [h1.rm (by decide), sk3.rm (by decide)]; exact l3
      have hlt : ¬ ab_rd M 8 5 ≤ nI i := by rw [ec]; exact nI_ge (by omega) (by omega)
      have ii := ab_in (n := i) (N := 24) (by omega) (by decide)
      have ci := ab_cl (n := i) (by omega)
      have eh : ab_rd M 67 i = ab_rd m 67 i := by rw [h1.rd (p := 67) (by decide) (by decide), sk3.rd (p := 67) (by decide) (by decide)]
      obtain ⟨a1, a2, a3, a4⟩ := h3
      have hle := cn_le (gw_o m) i
      by_cases q : gw_o m i
      · refine tk_M_gather_64_1 hlt ii (by rw [ci, eh]; exact q) (by rw [a3]; exact ab_in (by omega) (by decide)) ?_
        rw [a3, ab_cl (by omega), nI_1, nI_1]
        refine ih (i + 1) _ (by omega) ((h1.trans (iv_sk.s M _ _ (by decide) (by decide))).trans (iv_sk.m _ _ (by decide))) ?_ ⟨a1, a2, ?_, fun l hl ho => ?_⟩
        · refine ⟨Eq.trans ?_ h2.1, Eq.trans ?_ h2.2⟩
          · exact (ab_wr_n _ _ _ (by decide)).trans (ab_wr_n _ _ _ (by decide))
          · exact (ab_wr_n _ _ _ (by decide)).trans (ab_wr_n _ _ _ (by decide))
        · rw [cn_s, if_pos q]
          rfl
        · show ab_rd (ab_wr M 70 (cn_of (gw_o m) i) (nI i)) 70 (cn_of (gw_o m) l) = nI l
          rw [ab_rd_p]
          by_cases e : l = i
          · rw [if_pos (by rw [e]), e]
          · have : cn_of (gw_o m) l < cn_of (gw_o m) i := cn_lt (by omega) ho
            rw [if_neg (by omega)]
            exact a4 l (by omega) ho
      · refine tk_M_gather_64_0 hlt ii (by rw [ci, eh]; exact q) ?_
        rw [nI_1]
        refine ih (i + 1) M (by omega) h1 h2 ⟨a1, a2, ?_, fun l hl ho => ?_⟩
        · rw [cn_s, if_neg q]
          exact a3
        · have : l ≠ i := fun e => q (by rw [← e]; exact ho)
          exact a4 l (by omega) ho
  -- the finds
  have l16 : ∀ (k i : Nat) (M : ab_M), i + k = nF → iv_sk m3 M → (ab_rd M 52 = ab_rd m3 52 ∧ ab_rd M 72 = ab_rd m 72) → gw_G m nF nL M i 0 → ab_T Z 118 2 (16, [(0, .inl (.ref 8)), (1, .inl (.int (nI i)))], [], M) (fun r m9 => r = none ∧ gw_R m nP nF nL m9 ∧ ab_rd m9 72 = ab_rd m 72) := by
    intro k
    induction k with
    | zero =>
      intro i M hi h1 h2 h3
      have hi : i = nF := by omega
      subst hi
      have ec : ab_rd M 8 4 = nI i := by rw [h1.rm (by decide), sk3.rm (by decide)]; exact f3
      exact tk_M_gather_16_2 (by rw [ec]; exact Int32.le_refl _) (l64 nL 0 M (by omega) h1 h2 h3)
    | succ k ih =>
      intro i M hi h1 h2 h3
      have ec : ab_rd M 8 4 = nI nF := by rw [h1.rm (by decide), sk3.rm (by decide)]; exact f3
      have hlt : ¬ ab_rd M 8 4 ≤ nI i := by rw [ec]; exact nI_ge (by omega) (by omega)
      have ii := ab_in (n := i) (N := 24) (by omega) (by decide)
      have ci := ab_cl (n := i) (by omega)
      have eh : ab_rd M 58 i = ab_rd m 58 i := by rw [h1.rd (p := 58) (by decide) (by decide), sk3.rd (p := 58) (by decide) (by decide)]
      obtain ⟨a1, a2, a3, a4⟩ := h3
      have hle := cn_le (gw_k m) i
      by_cases q : gw_k m i
      · refine tk_M_gather_16_1 hlt ii (by rw [ci, eh]; exact q) (by rw [a1]; exact ab_in (by omega) (by decide)) ?_
        rw [a1, ab_cl (by omega), nI_1, nI_1]
        refine ih (i + 1) _ (by omega) ((h1.trans (iv_sk.s M _ _ (by decide) (by decide))).trans (iv_sk.m _ _ (by decide))) ?_ ⟨?_, fun f hf ho => ?_, a3, a4⟩
        · refine ⟨Eq.trans ?_ h2.1, Eq.trans ?_ h2.2⟩
          · exact (ab_wr_n _ _ _ (by decide)).trans (ab_wr_n _ _ _ (by decide))
          · exact (ab_wr_n _ _ _ (by decide)).trans (ab_wr_n _ _ _ (by decide))
        · rw [cn_s, if_pos q]
          rfl
        · show ab_rd (ab_wr M 71 (cn_of (gw_k m) i) (nI i)) 71 (cn_of (gw_k m) f) = nI f
          rw [ab_rd_p]
          by_cases e : f = i
          · rw [if_pos (by rw [e]), e]
          · have : cn_of (gw_k m) f < cn_of (gw_k m) i := cn_lt (by omega) ho
            rw [if_neg (by omega)]
            exact a2 f (by omega) ho
      · refine tk_M_gather_16_0 hlt ii (by rw [ci, eh]; exact q) ?_
        rw [nI_1]
        refine ih (i + 1) M (by omega) h1 h2 ⟨?_, fun f hf ho => ?_, a3, a4⟩
        · rw [cn_s, if_neg q]
          exact a1
        · have : f ≠ i := fun e => q (by rw [← e]; exact ho)
          exact a2 f (by omega) ho
  refine ab_Ki hZ (tk_M_gather_0_0 ⟨(by decide : 1 < 2), hC3⟩ (l16 nF 0 _ (by omega) ((iv_sk.m m3 0 (by decide)).trans (iv_sk.m _ 0 (by decide))) ?_ ⟨rfl, fun f hf => by omega, rfl, fun l hl => by omega⟩)) (fun r m1 h => by rw [h.1]; trivial) (by decide) (Nat.le_of_ble_eq_true rfl)
  refine ⟨(ab_wr_n _ _ _ (by decide)).trans (ab_wr_n _ _ _ (by decide)), Eq.trans ?_ (hM3.rd (p := 72) (by decide))⟩
  exact (ab_wr_n _ _ _ (by decide)).trans (ab_wr_n _ _ _ (by decide))
