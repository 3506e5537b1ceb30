/-! ===== the class's search: what it keeps ===== -/
def dk_I (w : Nat → Nat → Nat → Prop) (n s : Nat) (F : Nat → Int) (B j : Nat) : Prop :=
  B < 2 ^ 20 ∧ (∀ u, B.testBit u = true → u < n) ∧ cn_of (fun u => B.testBit u = true) n = j ∧
  (∀ p, p < 20 → F p = -1 ∨ (p < n ∧ F p ≤ 1000 * (j : Int) ∧ ∃ d : Nat, F p = d ∧ ds_go w s p d)) ∧ F s = 0 ∧
  (∀ u, B.testBit u = true → 0 ≤ F u ∧ ∀ d : Nat, ds_go w s u d → F u ≤ d) ∧
  ∀ u c e, B.testBit u = true → w u c e → 0 ≤ F c ∧ F c ≤ F u + (e : Int)
theorem dk_out {w : Nat → Nat → Nat → Prop} {n s : Nat} {F : Nat → Int} {B j : Nat} (h : dk_I w n s F B j) (hs : s < n) (hw : ∀ u c e, w u c e → c < n ∧ e ≤ 1000) {t : Nat} (hb : ¬ B.testBit t = true) {d : Nat} (hd : ds_go w s t d) : ∃ v, v < n ∧ ¬ B.testBit v = true ∧ 0 ≤ F v ∧ F v ≤ d := by
  obtain ⟨b1, b2, b3, b4, b5, b6, b7⟩ := h
  obtain ⟨k, hk⟩ := hd
  obtain ⟨v, v0, v1, v2, v3⟩ := ds_exit (S := fun u => B.testBit u = true) (F := F) (N := n) hb (fun u c e he => (hw u c e he).1) b7 k s d 0 hk hs (by omega) (by omega)
  exact ⟨v, v0, v1, v2, by omega⟩
theorem dk_step {w : Nat → Nat → Nat → Prop} {n s : Nat} {F G : Nat → Int} {B j t : Nat} (h : dk_I w n s F B j) (hn : n ≤ 20) (hs : s < n) (hw : ∀ u c e, w u c e → c < n ∧ e ≤ 1000) (ht : t < n) (hb : ¬ B.testBit t = true) (h0 : 0 ≤ F t) (hm : ∀ p, p < n → 0 ≤ F p → ¬ B.testBit p = true → F t ≤ F p)
    (g1 : ∀ p, p < 20 → (∀ e, ¬ w t p e) → G p = F p) (g2 : ∀ p e, w t p e → G p = if F p = -1 ∨ F t + (e : Int) < F p then F t + (e : Int) else F p) (gt : ∀ e, ¬ w t t e) : dk_I w n s G (B ||| 2 ^ t) (j + 1) := by
  have mt : ∀ d : Nat, ds_go w s t d → F t ≤ d := fun d hd => by
    obtain ⟨v, v0, v1, v2, v3⟩ := dk_out h hs hw hb hd
    have := hm v v0 v2 v1
    omega
  obtain ⟨b1, b2, b3, b4, b5, b6, b7⟩ := h
  have Gt : G t = F t := g1 t (by omega) gt
  have dec : ∀ p, p < 20 → G p = F p ∨ ∃ e, w t p e ∧ G p = F t + (e : Int) ∧ (F p = -1 ∨ F t + (e : Int) < F p) := by
    intro p hp
    by_cases q : ∃ e, w t p e
    · obtain ⟨e, he⟩ := q
      have z1 := g2 p e he
      by_cases z : F p = -1 ∨ F t + (e : Int) < F p
      · rw [if_pos z] at z1
        exact Or.inr ⟨e, he, z1, z⟩
      · rw [if_neg z] at z1
        exact Or.inl z1
    · exact Or.inl (g1 p hp (fun e he => q ⟨e, he⟩))
  obtain ⟨q1, dt, q2, q3⟩ : F t ≤ 1000 * (j : Int) ∧ ∃ d : Nat, F t = d ∧ ds_go w s t d := by
    rcases b4 t (by omega) with q | ⟨-, q1, q2⟩
    · omega
    · exact ⟨q1, q2⟩
  have old : ∀ u, B.testBit u = true → G u = F u := by
    intro u hu
    rcases dec u (by have := b2 u hu; omega) with q | ⟨e, he, z1, z2⟩
    · exact q
    · have z3 := (b6 u hu).2 (dt + e) (ds_trans q3 (ds_edge he))
      have z4 := (b6 u hu).1
      omega
  refine ⟨bt_or_lt b1 (by omega), fun u hu => ?_, ?_, fun p hp => ?_, ?_, fun u hu => ?_, fun u c e hu he => ?_⟩
  · rcases (bt_ins B t u).mp hu with q | q
    · exact b2 u q
    · omega
  · rw [cn_ins (S := fun u => B.testBit u = true) (T := fun u => (B ||| 2 ^ t).testBit u = true) ht hb (fun k => bt_ins B t k), b3]
  · rcases dec p hp with q | ⟨e, he, z1, z2⟩
    · rw [q]
      rcases b4 p hp with z | ⟨z1, z2, z3⟩
      · exact Or.inl z
      · exact Or.inr ⟨z1, by omega, z3⟩
    · have z3 := hw t p e he
      exact Or.inr ⟨z3.1, by omega, dt + e, by omega, ds_trans q3 (ds_edge he)⟩
  · rcases dec s (by omega) with q | ⟨e, he, z1, z2⟩
    · rw [q]
      exact b5
    · omega
  · rcases (bt_ins B t u).mp hu with q | q
    · rw [old u q]
      exact b6 u q
    · rw [q, Gt]
      exact ⟨h0, mt⟩
  · have z0 := hw u c e he
    rcases (bt_ins B t u).mp hu with q | q
    · rw [old u q]
      have z1 := b7 u c e q he
      rcases dec c (by omega) with z | ⟨e', he', z2, z3⟩
      · omega
      · omega
    · subst q
      have z1 := g2 c e he
      rw [Gt]
      by_cases z : F c = -1 ∨ F u + (e : Int) < F c
      · rw [if_pos z] at z1
        omega
      · rw [if_neg z] at z1
        rcases b4 c (by omega) with y | ⟨y1, y2, d, y3, y4⟩
        · exact absurd (Or.inl y) z
        · omega
theorem dk_end {w : Nat → Nat → Nat → Prop} {n s : Nat} {F : Nat → Int} {B j : Nat} (h : dk_I w n s F B j) (hs : s < n) (hw : ∀ u c e, w u c e → c < n ∧ e ≤ 1000) (hj : j ≤ 20) (he : ∀ p, p < n → F p = -1 ∨ B.testBit p = true) : ∀ b, b < 20 → (F b = if b < n then ds_far w s b else -1) ∧ F b ≤ 20000 := by
  intro b hb
  have ho := fun (t : Nat) (hb : ¬ B.testBit t = true) (d : Nat) (hd : ds_go w s t d) => dk_out h hs hw hb hd
  obtain ⟨b1, b2, b3, b4, b5, b6, b7⟩ := h
  have hle : F b ≤ 20000 := by
    rcases b4 b hb with q | ⟨-, q, -⟩ <;> omega
  refine ⟨?_, hle⟩
  by_cases hn : b < n
  · rw [if_pos hn]
    by_cases q : B.testBit b = true
    · rcases b4 b hb with z | ⟨-, -, d, z1, z2⟩
      · have := (b6 b q).1
        omega
      · symm
        exact ds_far_eq (Or.inr ⟨d, z1, z2, fun d' hd' => by have := (b6 b q).2 d' hd'; omega⟩)
    · symm
      rcases he b hn with z | z
      · refine ds_far_eq (Or.inl ⟨z, fun d hd => ?_⟩)
        obtain ⟨v, v0, v1, v2, v3⟩ := ho b q d hd
        rcases he v v0 with y | y
        · omega
        · exact v1 y
      · exact absurd z q
  · rw [if_neg hn]
    rcases b4 b hb with z | ⟨z, -⟩
    · exact z
    · exact absurd z hn
/-- nothing but one row of the class's memo has changed -/
def dk_M (m M : ab_M) (s : Nat) : Prop := (∀ p, p ≠ 17 → M.1 p = m.1 p) ∧ (∀ p, M.2 p = m.2 p) ∧ ∀ i, ¬ (s * 20 ≤ i ∧ i < s * 20 + 20) → ab_rd M 17 i = ab_rd m 17 i
theorem dk_m1 (x : Int32) : x = -1 ↔ x.toInt = -1 := by rw [ab_eqI, ab_m1]
theorem ct_Places_measureFrom {Z : ab_Z} (hZ : ab_okZ Z) {s n : Nat} {m : ab_M} (hP : iv_P m n) (hs : s < n) : ab_K Z 2 51 [.inl (.ref 3), .inl (.int (nI s))] m (fun r m9 => r = none ∧ ∃ M, dk_M m M s ∧ m9 = ab_wr M 18 s 1 ∧ ∀ b, b < 20 → (ab_rd M 17 (s * 20 + b)).toInt = (if b < n then ds_far (iv_w m n) s b else -1) ∧ (ab_rd M 17 (s * 20 + b)).toInt ≤ 20000) := by
  obtain ⟨g1, g2, g3, g4, g5, g6, g7, g8, g9⟩ := hP
  have his := ab_in (n := s) (N := 20) (by omega) (by decide)
  have hcs := ab_cl (n := s) (by omega)
  have hw : ∀ u c e, iv_w m n u c e → c < n ∧ e ≤ 1000 := fun u c e h => ⟨h.2.1, h.2.2.2.2⟩
  have lp : ∀ (k i B : Nat) (M : ab_M), i + k = n → dk_M m M s → dk_I (iv_w m n) n s (fun p => (ab_rd M 17 (s * 20 + p)).toInt) B i → ab_T Z 51 2 (21, [(0, .inl (.ref 3)), (1, .inl (.int (nI s))), (2, .inr (17, nI s)), (3, .inl (.int (nI B))), (4, .inl (.int (nI i)))], [], M) (fun r m9 => r = none ∧ ∃ M, dk_M m M s ∧ m9 = ab_wr M 18 s 1 ∧ ∀ b, b < 20 → (ab_rd M 17 (s * 20 + b)).toInt = (if b < n then ds_far (iv_w m n) s b else -1) ∧ (ab_rd M 17 (s * 20 + b)).toInt ≤ 20000) := by
    intro k
    induction k with
    | zero =>
      intro i B M hi hM hI
      have hi : i = n := by omega
      subst hi
      have hc : ab_rd M 3 3 = nI i := by rw [← g2]; exact congrFun (hM.1 _ (by decide)) _
      refine tk_Places_measureFrom_21_2 (by rw [hc]; exact Int32.le_refl _) ⟨his, Or.inr rfl⟩ ⟨rfl, M, hM, by rw [hcs], dk_end hI hs hw g1 (fun p hp => Or.inr (cn_full hI.2.2.1 p hp))⟩
    | succ k ih =>
      intro i B M hi hM hI
      have hc : ab_rd M 3 3 = nI n := by rw [← g2]; exact congrFun (hM.1 _ (by decide)) _
      have hlt : ¬ ab_rd M 3 3 ≤ nI i := by rw [hc]; exact nI_ge (by omega) (by omega)
      have tk : ∀ j, ab_rd M 16 j = ab_rd m 16 j := fun j => congrFun (hM.1 _ (by decide)) j
      obtain ⟨r, m1, hC, ⟨v, hr, hv⟩, hm1⟩ := ct_Places_nearest hZ (s := s) (B := B) (n := n) (m := M) (by omega) hI.1 g1 hc
      rw [hr, hm1] at hC
      rcases hv with ⟨q, h⟩ | ⟨t, ht, q, h3, h4, h5⟩
      · refine tk_Places_measureFrom_21_0 hlt ⟨(by decide : 0 < 2), hC⟩ q ⟨his, Or.inr rfl⟩ ⟨rfl, M, hM, by rw [hcs], dk_end hI hs hw (by omega) (fun p hp => ?_)⟩
        rcases h p hp with z | z
        · exact Or.inl ((dk_m1 _).mp z)
        · exact Or.inr z
      · rw [q] at hC
        have hn1 : ¬ nI t = -1 := fun z => by rw [ab_eqI, nI_toInt (by omega), ab_m1] at z; omega
        have hlk := ct_Places_lookFrom hZ (s := s) (t := t) (n := n) (m := M) (by omega) ht g1 hc (by rw [tk]; exact g6 t t ht (by omega) (Or.inl rfl))
        refine tk_Places_measureFrom_21_1 hlt ⟨(by decide : 0 < 2), hC⟩ hn1 ⟨(by decide : 1 < 2), hlk⟩ ?_
        rw [bt_or (by omega), nI_1]
        have b4 := hI.2.2.2.1
        have t0 : ∀ p, p < 20 → ¬ ab_rd M 17 (s * 20 + p) = -1 → 0 ≤ (ab_rd M 17 (s * 20 + p)).toInt ∧ (ab_rd M 17 (s * 20 + p)).toInt ≤ 20000 := fun p hp z => by
          rcases b4 p hp with y | ⟨-, y, d, y1, -⟩
          · exact absurd ((dk_m1 _).mpr y) z
          · have y : (ab_rd M 17 (s * 20 + p)).toInt ≤ 1000 * (i : Int) := y
            have y1 : (ab_rd M 17 (s * 20 + p)).toInt = (d : Int) := y1
            omega
        have tt := t0 t (by omega) h3
        refine ih (i + 1) _ _ (by omega) ⟨fun p hp => (lp_f_n _ _ _ _ hp).trans (hM.1 p hp), fun p => hM.2.1 p, fun i hi => by rw [lp_f_rd, if_neg (by omega)]; exact hM.2.2 i hi⟩ ?_
        refine dk_step hI g1 hs hw ht h4 tt.1 (fun p hp z1 z2 => ?_) (fun p hp z => ?_) (fun p e he => ?_) (fun e he => ?_)
        · have z1 : 0 ≤ (ab_rd M 17 (s * 20 + p)).toInt := z1
          have := h5 p hp (fun z => by have z : (ab_rd M 17 (s * 20 + p)).toInt = -1 := (dk_m1 _).mp z; omega) z2
          exact (ab_leI _ _).mp this
        · show (ab_rd (lp_f M 17 (s * 20) n (lk_g M s t)) 17 (s * 20 + p)).toInt = (ab_rd M 17 (s * 20 + p)).toInt
          rw [lp_f_rd]
          by_cases y : p < n
          · rw [if_pos (by omega)]
            unfold lk_g
            rw [show s * 20 + p - s * 20 = p by omega, tk]
            rcases g4 t p ht y with ⟨x, -⟩ | ⟨e, e1, e2, e3, -⟩
            · rw [if_pos x]
            · exact absurd ⟨ht, y, e3, e1, e2⟩ (z e)
          · rw [if_neg (by omega)]
        · obtain ⟨-, y, e3, e1, e2⟩ := he
          show (ab_rd (lp_f M 17 (s * 20) n (lk_g M s t)) 17 (s * 20 + p)).toInt = if (ab_rd M 17 (s * 20 + p)).toInt = -1 ∨ (ab_rd M 17 (s * 20 + t)).toInt + (e : Int) < (ab_rd M 17 (s * 20 + p)).toInt then (ab_rd M 17 (s * 20 + t)).toInt + (e : Int) else (ab_rd M 17 (s * 20 + p)).toInt
          rw [lp_f_rd, if_pos (by omega)]
          unfold lk_g
          have ne1 : ¬ nI e = -1 := fun z => by rw [ab_eqI, nI_toInt (by omega), ab_m1] at z; omega
          have es : (ab_rd M 17 (s * 20 + t) + nI e).toInt = (ab_rd M 17 (s * 20 + t)).toInt + (e : Int) := by
            have := nI_toInt (n := e) (by omega)
            rw [ab_addI (by omega) (by omega), this]
          rw [show s * 20 + p - s * 20 = p by omega, tk, e3, if_neg ne1]
          by_cases x : ab_rd M 17 (s * 20 + p) = -1 ∨ ¬ ab_rd M 17 (s * 20 + p) ≤ ab_rd M 17 (s * 20 + t) + nI e
          · rw [if_pos x, es, if_pos]
            rw [dk_m1, ab_leI, es] at x
            omega
          · rw [if_neg x, if_neg]
            rw [dk_m1, ab_leI, es] at x
            omega
        · have e3 := he.2.2.1
          have e4 := he.2.2.2
          rw [g6 t t ht (by omega) (Or.inl rfl)] at e3
          have e3 := e3.symm
          rw [ab_eqI, nI_toInt (by omega), ab_m1] at e3
          omega
  refine ab_Ki hZ (tk_Places_measureFrom_0_0 his ⟨(by decide : 0 < 2), ct_J_fill_far hZ (by omega)⟩ ⟨his, his⟩ ?_) (fun r m1 h => by rw [h.1]; trivial) (by decide) (Nat.le_of_ble_eq_true rfl)
  rw [hcs]
  have rd : ∀ p, p < 20 → ab_rd (ab_wr (lp_f m 17 (s * 20) 20 (fun _ _ => -1)) 17 (s * 20 + s) 0) 17 (s * 20 + p) = if p = s then 0 else -1 := fun p hp => by
    rw [ab_rd_p, lp_f_rd, if_pos (show s * 20 ≤ s * 20 + p ∧ s * 20 + p < s * 20 + 20 by omega)]
    by_cases q : p = s
    · rw [if_pos q, if_pos (by omega)]
    · rw [if_neg q, if_neg (by omega)]
  refine lp n 0 0 _ (by omega) ⟨fun p hp => (ab_wr_n _ _ _ hp).trans (lp_f_n _ _ _ _ hp), fun p => rfl, fun i hi => by rw [ab_rd_d _ _ _ (by omega), lp_f_rd, if_neg hi]⟩ ⟨by decide, fun u hu => ?_, ?_, fun p hp => ?_, ?_, fun u hu => ?_, fun u c e hu => ?_⟩
  · rw [Nat.zero_testBit] at hu
    cases hu
  · have : ∀ n, cn_of (fun u => (0 : Nat).testBit u = true) n = 0 := by
      intro n
      induction n with
      | zero => rfl
      | succ n ih => rw [cn_s, ih, if_neg (by rw [Nat.zero_testBit]; decide)]
    exact this n
  · show (ab_rd _ 17 (s * 20 + p)).toInt = -1 ∨ (p < n ∧ (ab_rd _ 17 (s * 20 + p)).toInt ≤ 1000 * ((0 : Nat) : Int) ∧ ∃ d : Nat, (ab_rd _ 17 (s * 20 + p)).toInt = d ∧ ds_go (iv_w m n) s p d)
    rw [rd p hp]
    by_cases q : p = s
    · rw [if_pos q, q]
      exact Or.inr ⟨hs, by decide, 0, rfl, ds_nil _ _⟩
    · rw [if_neg q]
      exact Or.inl rfl
  · show (ab_rd _ 17 (s * 20 + s)).toInt = 0
    rw [rd s (by omega), if_pos rfl]
    rfl
  · rw [Nat.zero_testBit] at hu
    cases hu
  · rw [Nat.zero_testBit] at hu
    cases hu
/-- no way is longer: the class's search shows it -/
theorem ct_bound {Z : ab_Z} (hZ : ab_okZ Z) {m : ab_M} {n a b : Nat} (hP : iv_P m n) (ha : a < n) (hb : b < n) : ds_far (iv_w m n) a b ≤ 20000 := by
  obtain ⟨r, m1, -, -, M, -, -, h⟩ := ct_Places_measureFrom hZ hP ha
  have := h b (by have := hP.1; omega)
  rw [if_pos hb] at this
  omega
/-- nothing but the class's memo has changed -/
def iv_ch (m m1 : ab_M) : Prop := (∀ p, p ≠ 17 → p ≠ 18 → m1.1 p = m.1 p) ∧ ∀ p, m1.2 p = m.2 p
theorem iv_ch.refl (m : ab_M) : iv_ch m m := ⟨fun _ _ _ => rfl, fun _ => rfl⟩
theorem iv_ch.trans {m m1 m2 : ab_M} (h : iv_ch m m1) (g : iv_ch m1 m2) : iv_ch m m2 := ⟨fun p a b => (g.1 p a b).trans (h.1 p a b), fun p => (g.2 p).trans (h.2 p)⟩
theorem iv_ch.rd {m m2 : ab_M} (h : iv_ch m m2) {p : Nat} (h1 : p ≠ 17) (h2 : p ≠ 18) : ab_rd m2 p = ab_rd m p := h.1 p h1 h2
theorem ct_Places_distance {Z : ab_Z} (hZ : ab_okZ Z) {a b n : Nat} {m : ab_M} (hP : iv_P m n) (ha : a < n) (hb : b < n) : ab_K Z 3 49 [.inl (.ref 3), .inl (.int (nI a)), .inl (.int (nI b))] m (fun r m9 => (∃ v, r = some v ∧ v.toInt = ds_far (iv_w m n) a b) ∧ iv_ch m m9 ∧ iv_P m9 n) := by
  obtain ⟨g1, g2, g3, g4, g5, g6, g7, g8, g9⟩ := id hP
  have hia := ab_in (n := a) (N := 20) (by omega) (by decide)
  have hib := ab_in (n := b) (N := 20) (by omega) (by decide)
  have hca := ab_cl (n := a) (by omega)
  have hcb := ab_cl (n := b) (by omega)
  by_cases q : ab_rd m 18 a = 0
  · obtain ⟨r, m1, hC, hr, M, hM, em, hF⟩ := ct_Places_measureFrom hZ hP ha
    rw [hr] at hC
    have hch : iv_ch m m1 := ⟨fun p h1 h2 => by rw [em]; exact (ab_wr_n _ _ _ h2).trans (hM.1 p h1), fun p => by rw [em]; exact hM.2.1 p⟩
    have r3 : ∀ i, ab_rd m1 18 i = if i = a then 1 else ab_rd m 18 i := fun i => by
      rw [em, ab_rd_p]
      by_cases z : i = a
      · rw [if_pos z, if_pos z]
      · rw [if_neg z, if_neg z]
        exact congrFun (hM.1 _ (by decide)) i
    have r4 : ∀ i, ab_rd m1 17 i = ab_rd M 17 i := fun i => by
      rw [em]
      exact ab_rd_n _ _ _ _ (by decide)
    refine ab_Ki hZ (tk_Places_distance_0_0 hia (by rw [hca]; exact q) ⟨(by decide : 2 < 3), hC⟩ hia ⟨hia, hib⟩ ⟨⟨_, rfl, ?_⟩, hch, ?_⟩) (fun r m1 h => by obtain ⟨⟨v, rfl, -⟩, -⟩ := h; trivial) (by decide) (Nat.le_of_ble_eq_true rfl)
    · rw [hca, hcb, r4]
      have := (hF b (by omega)).1
      rw [if_pos hb] at this
      exact this
    · unfold iv_P
      rw [hch.rd (p := 16) (by decide) (by decide), hch.rd (p := 51) (by decide) (by decide), hch.rd (p := 3) (by decide) (by decide), hch.rd (p := 8) (by decide) (by decide), iv_w_cong (hch.1 16 (by decide) (by decide))]
      refine ⟨g1, g2, g3, g4, g5, g6, fun c hc => ?_, fun c h1 h2 => ?_, fun c hc hz d hd => ?_⟩
      · rw [r3]
        by_cases z : c = a
        · rw [if_pos z]
          exact Or.inr rfl
        · rw [if_neg z]
          exact g7 c hc
      · rw [r3, if_neg (by omega)]
        exact g8 c h1 h2
      · rw [r4]
        by_cases z : c = a
        · rw [z]
          exact (hF d hd).1
        · rw [r3, if_neg z] at hz
          rw [hM.2.2 _ (by omega)]
          exact g9 c hc hz d hd
  · refine ab_Ki hZ (tk_Places_distance_0_1 hia (by rw [hca]; exact q) hia ⟨hia, hib⟩ ⟨⟨_, rfl, ?_⟩, iv_ch.refl m, hP⟩) (fun r m1 h => by obtain ⟨⟨v, rfl, -⟩, -⟩ := h; trivial) (by decide) (Nat.le_of_ble_eq_true rfl)
    rw [hca, hcb]
    have := g9 a ha q b (by omega)
    rw [if_pos hb] at this
    exact this
