/-! ===== the class's matcher: the best seating ===== -/
theorem hu_du2 {m : ab_M} {n F : Nat} {w : Nat → Nat → Int} {Q op : Nat → Prop} {u v : Nat → Int} (hQ : ∀ l, Q l ↔ l < n ∧ op l) (h1 : hu_F F w Q u v) (h2 : hu_M F w Q u v (hS m) (hT m)) : du_ok n F op w u v (hu_s m) := by
  have h := hu_du (m := m) (n := n) (fun l hl => ((hQ l).mp hl).1) h1 h2
  obtain ⟨⟨a1, a2⟩, a3, a4, a5, a6, a7⟩ := h
  refine ⟨⟨fun l hl ho => a1 l hl ((hQ l).mpr ⟨hl, ho⟩), fun l l' hl hl' ho ho' => a2 l l' hl hl' ((hQ l).mpr ⟨hl, ho⟩) ((hQ l').mpr ⟨hl', ho'⟩)⟩, fun l hl ho => a3 l hl ((hQ l).mpr ⟨hl, ho⟩), fun l t hl ho => a4 l t hl ((hQ l).mpr ⟨hl, ho⟩), a5, fun t ht hv => ?_, a7⟩
  obtain ⟨l, z1, z2, z3⟩ := a6 t ht hv
  exact ⟨l, z1, ((hQ l).mp z2).2, z3⟩
theorem hu_s_of {m : ab_M} {l s : Nat} (h : hS m l = s) : hu_s m l = s := by
  unfold hu_s
  rw [h]
  rfl
theorem hu_s_is {m : ab_M} {n F : Nat} {w : Nat → Nat → Int} {Q : Nat → Prop} (h : st_C m n F w Q) {l : Nat} (hl : Q l) : hu_s m l ≤ F ∧ hS m l = (hu_s m l : Nat) ∧ ab_rd m 37 l = nI (hu_s m l) := by
  have hF := h.2.1
  obtain ⟨s, z1, z2, -⟩ := h.2.2.2.2.2.2.2.1.1 l hl
  rw [hu_s_of z2]
  exact ⟨z1, z2, (in_I (by omega)).mpr z2⟩
theorem bt_all : ∀ s, s < 25 → ¬ ((((-1 : Int32).toUInt32 >>> ((nI s).toUInt32 &&& Int32.toUInt32 31)).toInt32) &&& 1) = 0 := by decide +kernel
theorem ct_Matcher_settle {Z : ab_Z} (hZ : ab_okZ Z) {m : ab_M} {n F l : Nat} {w : Nat → Nat → Int} {Q op : Nat → Prop} [DecidablePred op] (hQ : ∀ l, Q l ↔ l < n ∧ op l) (h : st_C m n F w Q) (hl : Q l) : ab_K Z 3 39 [.inl (.ref 6), .inl (.int (nI l))] m (fun r m9 => r = none ∧ fr_M [37, 38, 43, 44, 45] m m9 ∧ st_C m9 n F w Q ∧ hU m9 = hU m ∧ hV m9 = hV m ∧ (∀ k, (k < l ∨ ¬ Q k) → ab_rd m9 37 k = ab_rd m 37 k) ∧ ∀ x : Nat → Nat, in_ok n F op x → sg_cost n op w x = sg_cost n op w (hu_s m) → (∀ k, k < l → op k → x k = hu_s m k) → hu_s m9 l ≤ x l) := by
  obtain ⟨h1, h2, h3, h4, h5, h6, h7, h8, h9⟩ := id h
  have hdu := hu_du2 hQ h7 h8
  have hln := ((hQ l).mp hl).1
  have hlo := ((hQ l).mp hl).2
  obtain ⟨hh, eh, e37⟩ := hu_s_is h hl
  generalize hhome : hu_s m l = home at hh eh e37
  have il := ab_in (n := l) (N := 24) (by omega) (by decide)
  have cl := ab_cl (n := l) (by omega)
  obtain ⟨t1, hC1, p1, p2, p3⟩ := ct_Matcher_leastSeat hZ (x := -1) (A := fun _ => True) h hl hh (fun s hs => ⟨fun z => absurd z (bt_all s (by omega)), fun z => absurd trivial z⟩)
  have hC1' : ab_C Z 1 40 [.inl (.ref 6), .inl (.int (nI l)), .inl (.int (ab_rd m 37 (nI l).toNatClampNeg)), .inl (.int (-1))] m (some (nI t1)) m := by
    rw [cl, e37]
    exact hC1
  refine ab_Ki hZ ?_ (fun r m1 h => by rw [h.1]; trivial) (by decide) (Nat.le_of_ble_eq_true rfl)
  by_cases q1 : t1 = home
  · refine tk_Matcher_settle_0_0 il ⟨(by decide : 1 < 3), hC1'⟩ (by rw [cl, e37, q1]) ⟨rfl, fr_M.refl _ m, h, rfl, rfl, fun _ _ => rfl, fun x hx hc _ => ?_⟩
    rw [hhome]
    have ht := (du_eq hdu hx hc).1 l hln hlo
    rcases Nat.lt_or_ge (x l) home with z | z
    · exact absurd ht (p3 (x l) (by omega) trivial)
    · exact z
  · have q1' : ¬ nI t1 = ab_rd m 37 (nI l).toNatClampNeg := by
      rw [cl, e37]
      exact fun z => q1 ((nI_eq (by omega) (by omega)).mp z)
    obtain ⟨R, len, rk, M, hC2, hI, hN⟩ := ct_Matcher_seatsThatLead hZ h hl hh
    obtain ⟨hM, kU, kV, kS, kT⟩ := h.fr hI.1 (by decide)
    have hC2' : ab_C Z 2 41 [.inl (.ref 6), .inl (.int (nI l)), .inl (.int (ab_rd m 37 (nI l).toNatClampNeg))] m (some (nI R)) M := by
      rw [cl, e37]
      exact hC2
    obtain ⟨t2, hC3, r1, r2, r3⟩ := ct_Matcher_leastSeat hZ (x := nI R) (A := fun s => R.testBit s = true) hM hl hh (fun s hs => bt_bit0 (by have := hI.2.1; omega) (by omega))
    have hC3' : ab_C Z 1 40 [.inl (.ref 6), .inl (.int (nI l)), .inl (.int (ab_rd m 37 (nI l).toNatClampNeg)), .inl (.int (nI R))] M (some (nI t2)) M := by
      rw [cl, e37]
      exact hC3
    rw [kU, kV] at r2 r3
    -- the least seat is the least
    have least : ∀ x : Nat → Nat, in_ok n F op x → sg_cost n op w x = sg_cost n op w (hu_s m) → (∀ k, k < l → op k → x k = hu_s m k) → t2 ≤ x l := by
      intro x hx hc ha
      obtain ⟨xt, xh⟩ := du_eq hdu hx hc
      rcases Nat.lt_or_ge (x l) t2 with z | z
      · exfalso
        have hRx := lead_full hdu hx xt xh hln hlo ha (R := fun s => R.testBit s = true) (by rw [hhome]; exact hI.2.2.2.2.2.1) (fun a b z1 z2 z3 z4 => by
          obtain ⟨n1, n2⟩ := hN a b z1 z3 z4
          refine ⟨fun y => n1 ⟨y.1.imp id (fun y1 => ?_), y.2⟩, fun k y1 y2 y3 y4 => n2 k y1 ((hQ k).mpr ⟨y2, y3⟩) ?_⟩
          · rcases Nat.lt_or_ge a F with y5 | y5
            · rcases h8.2 a y5 with ⟨y6, -⟩ | ⟨k, y6, y7, y8⟩
              · exact y6
              · exact absurd ⟨k, ((hQ k).mp y6).1, ((hQ k).mp y6).2, hu_s_of y8⟩ y1
            · exact absurd ⟨Or.inl (by omega), y.2⟩ n1
          · rw [(hu_s_is h ((hQ k).mpr ⟨y2, y3⟩)).2.1, y4])
        exact r3 (x l) z hRx (xt l hln hlo)
      · exact z
    have fr1 : fr_M [37, 38, 43, 44, 45] m M := hI.1.mono (by decide)
    by_cases q2 : t2 = home
    · refine tk_Matcher_settle_0_2 il ⟨(by decide : 1 < 3), hC1'⟩ q1' ⟨(by decide : 2 < 3), hC2'⟩ ⟨(by decide : 1 < 3), hC3'⟩ (by rw [cl, e37, q2]) ⟨rfl, fr1, hM, kU, kV, fun k _ => hI.1.rdi (by decide) k, fun x hx hc ha => ?_⟩
      have e : hu_s M l = home := by
        unfold hu_s
        rw [kS]
        exact hhome
      rw [e, ← q2]
      exact least x hx hc ha
    · have q2' : ¬ nI t2 = ab_rd m 37 (nI l).toNatClampNeg := by
        rw [cl, e37]
        exact fun z => q2 ((nI_eq (by omega) (by omega)).mp z)
      obtain ⟨g1, g2⟩ := r2 (by omega)
      have hlen : len ≤ F + 1 := by rw [← hI.2.2.2.2.1]; exact cn_le _ _
      obtain ⟨r, M4, hC4, hr4, f1, f2, f3, f4⟩ := ct_Matcher_moveRound hZ (m := M) (F := F) (l := l) (home := home) (start := t2) (w := w) (Q := Q) (R := fun s => R.testBit s = true) (rk := rk) h2 hM.2.2.2.1 (fun k hk => by have := (h6 k hk).1; omega) hl hM.2.2.2.2.2.2.2.1 (by rw [kS]; exact eh) hh (by omega) g1 (by rw [kU, kV]; exact g2) (fun s hs => by
        have := hI.2.2.1 s hs
        exact ⟨this.1, by omega⟩) (fun s hs hne => by
        obtain ⟨b, b1, b2, b3, b4⟩ := hI.2.2.2.2.2.2 s hs hne
        refine ⟨b, b1, b2, b3, ?_⟩
        unfold fm_Y
        rw [kU, kV, kS, kT]
        exact b4)
      rw [hr4] at hC4
      have hC4' : ab_C Z 1 43 [.inl (.ref 6), .inl (.int (nI l)), .inl (.int (nI t2)), .inl (.int (ab_rd m 37 (nI l).toNatClampNeg))] M none M4 := by
        rw [cl, e37]
        exact hC4
      have jU : hU M4 = hU M := by
        funext k
        show (ab_rd M4 39 k).toInt = _
        rw [f1.rdi (by decide)]
      have jV : hV M4 = hV M := by
        funext k
        show (ab_rd M4 40 k).toInt = _
        rw [f1.rdi (by decide)]
      have jW : hW M4 = hW M := by
        funext k s
        show (ab_rd M4 34 (k * 25 + s)).toInt = _
        rw [f1.rdi (by decide)]
      have e0 : ab_rd M4 6 = ab_rd M 6 := f1.rd (by decide)
      refine tk_Matcher_settle_0_1 il ⟨(by decide : 1 < 3), hC1'⟩ q1' ⟨(by decide : 2 < 3), hC2'⟩ ⟨(by decide : 1 < 3), hC3'⟩ q2' ⟨(by decide : 1 < 3), hC4'⟩ ⟨rfl, fr1.trans (f1.mono (by decide)), ?_, jU.trans kU, jV.trans kV, fun k hk => (f3 k hk).trans (hI.1.rdi (by decide) k), fun x hx hc ha => ?_⟩
      · obtain ⟨m1, m2, m3, m4, m5, m6, m7, m8, m9⟩ := hM
        refine ⟨m1, m2, by rw [e0]; exact m3, by rw [e0]; exact m4, by rw [jW]; exact m5, m6, by rw [jU, jV]; exact m7, by rw [jU, jV]; exact f2, fun k hk hq => (f3 k (Or.inr hq)).trans (m9 k hk hq)⟩
      · rw [hu_s_of f4]
        exact least x hx hc ha
theorem sg_ok.in {n F : Nat} {op : Nat → Prop} {w : Nat → Nat → Int} {x : Nat → Nat} (h : sg_ok n F op w x) : in_ok n F op x := ⟨fun l hl ho => (h.1 l hl ho).1, h.2⟩
theorem ct_Matcher_findBest {Z : ab_Z} (hZ : ab_okZ Z) {m : ab_M} {n F : Nat} {w : Nat → Nat → Int} (hn : n ≤ 24) (hF : F ≤ 24) (hc : ab_rd m 6 12 = nI n) (hb : ab_rd m 6 13 = nI F) (hw : ∀ l s, hu_Q m n l → s ≤ F → hW m l s = w l s ∧ 0 ≤ w l s ∧ w l s ≤ 1000000) (hg : ∀ l, hu_Q m n l → w l F ≤ 100) : ab_K Z 4 27 [.inl (.ref 6)] m (fun r m9 => r = none ∧ fr_M [6, 36, 37, 38, 39, 40, 41, 42, 43, 44, 45] m m9 ∧ (∀ j, j ≠ 14 → ab_rd m9 6 j = ab_rd m 6 j) ∧ ∃ (v : Nat → Nat) (c : Int), sg_best n F (fun l => ¬ ab_rd m 35 l = 0) w v c ∧ (ab_rd m9 6 14).toInt = c ∧ ∀ l, l < n → ab_rd m9 36 l = if ¬ ab_rd m 35 l = 0 ∧ v l < F then nI (v l) else -1) := by
  have hQ : ∀ l, hu_Q m n l ↔ l < n ∧ ¬ ab_rd m 35 l = 0 := fun l => Iff.rfl
  obtain ⟨r0, M1, hC1, hr1, f1, f2, f3, f4⟩ := ct_Matcher_seatAll hZ hn hF hc hb hw hg
  rw [hr1] at hC1
  have st1 : st_C M1 n F w (hu_Q m n) := by
    have eW : hW M1 = hW m := by
      funext k s
      show (ab_rd M1 34 (k * 25 + s)).toInt = _
      rw [f1.rdi (by decide)]
    have e0 : ab_rd M1 6 = ab_rd m 6 := f1.rd (by decide)
    exact ⟨hn, hF, by rw [e0]; exact hc, by rw [e0]; exact hb, by rw [eW]; exact hw, fun l hl => ⟨hl.1, hg l hl⟩, f2, f3, fun l hl hq => f4 l (by omega) hq⟩
  -- the last loop
  have l45 : ∀ (k i : Nat) (M N : ab_M), i + k = n → st_C M n F w (hu_Q m n) → fr_M [36] M N → (∀ l, l < i → ab_rd N 36 l = if ¬ ab_rd m 35 l = 0 ∧ hu_s M l < F then nI (hu_s M l) else -1) → ab_T Z 27 4 (45, [(0, .inl (.ref 6)), (1, .inl (.int (nI i)))], [], N) (fun r m9 => r = none ∧ fr_M [36] M m9 ∧ ∀ l, l < n → ab_rd m9 36 l = if ¬ ab_rd m 35 l = 0 ∧ hu_s M l < F then nI (hu_s M l) else -1) := by
    intro k
    induction k with
    | zero =>
      intro i M N hi hs hfr hin
      have hi : i = n := by omega
      subst hi
      have ec : ab_rd N 6 12 = nI i := by rw [hfr.rdi (by decide)]; exact hs.2.2.1
      exact tk_Matcher_findBest_45_2 (by rw [ec]; exact Int32.le_refl _) ⟨rfl, hfr, hin⟩
    | succ k ih =>
      intro i M N hi hs hfr hin
      have ec : ab_rd N 6 12 = nI n := by rw [hfr.rdi (by decide)]; exact hs.2.2.1
      have eb : ab_rd N 6 13 = nI F := by rw [hfr.rdi (by decide)]; exact hs.2.2.2.1
      have hlt : ¬ ab_rd N 6 12 ≤ nI i := by rw [ec]; exact nI_ge (by omega) (by omega)
      have ii := ab_in (n := i) (N := 24) (by omega) (by decide)
      have ci := ab_cl (n := i) (by omega)
      have e37 : ab_rd N 37 i = ab_rd M 37 i := hfr.rdi (by decide) i
      have put : ∀ (x : Int32), (x = if ¬ ab_rd m 35 i = 0 ∧ hu_s M i < F then nI (hu_s M i) else -1) → ab_T Z 27 4 (45, [(0, .inl (.ref 6)), (1, .inl (.int (nI (i + 1))))], [], ab_wr N 36 i x) (fun r m9 => r = none ∧ fr_M [36] M m9 ∧ ∀ l, l < n → ab_rd m9 36 l = if ¬ ab_rd m 35 l = 0 ∧ hu_s M l < F then nI (hu_s M l) else -1) := fun x hx => by
        refine ih (i + 1) M _ (by omega) hs (hfr.wr (by decide) _ _) (fun l hl => ?_)
        rw [ab_rd_p]
        by_cases e : l = i
        · rw [if_pos e, e]
          exact hx
        · rw [if_neg e]
          exact hin l (by omega)
      by_cases q : hu_Q m n i
      · obtain ⟨g1, g2, g3⟩ := hu_s_is hs q
        by_cases z : hu_s M i = F
        · refine tk_Matcher_findBest_45_0 hlt ii (by rw [ci, e37, g3, eb, z]) ii ?_
          rw [ci, nI_1]
          exact put (-1) (by rw [if_neg (fun y => by omega)])
        · refine tk_Matcher_findBest_45_1 hlt ii (by rw [ci, e37, g3, eb]; exact fun y => z ((nI_eq (by omega) (by omega)).mp y)) ii ii ?_
          rw [ci, nI_1, e37, g3]
          exact put _ (by rw [if_pos ⟨q.2, by omega⟩])
      · have e1 := hs.2.2.2.2.2.2.2.2 i (by omega) q
        refine tk_Matcher_findBest_45_1 hlt ii (by rw [ci, e37, e1, eb]; exact fun y => nI_m1 (by omega) y.symm) ii ii ?_
        rw [ci, nI_1, e37, e1]
        exact put (-1) (by rw [if_neg (fun y => q ⟨by omega, y.1⟩)])
  -- the loop that settles
  have l6 : ∀ (k i : Nat) (M : ab_M), i + k = n → fr_M [37, 38, 43, 44, 45] M1 M → st_C M n F w (hu_Q m n) → (∀ l, l < i → ¬ ab_rd m 35 l = 0 → ∀ x : Nat → Nat, in_ok n F (fun l => ¬ ab_rd m 35 l = 0) x → sg_cost n (fun l => ¬ ab_rd m 35 l = 0) w x = sg_cost n (fun l => ¬ ab_rd m 35 l = 0) w (hu_s M) → (∀ k, k < l → ¬ ab_rd m 35 k = 0 → x k = hu_s M k) → hu_s M l ≤ x l) → ab_T Z 27 4 (6, [(0, .inl (.ref 6)), (1, .inl (.int (nI i)))], [], M) (fun r m9 => r = none ∧ fr_M [6, 36, 37, 38, 39, 40, 41, 42, 43, 44, 45] m m9 ∧ (∀ j, j ≠ 14 → ab_rd m9 6 j = ab_rd m 6 j) ∧ ∃ (v : Nat → Nat) (c : Int), sg_best n F (fun l => ¬ ab_rd m 35 l = 0) w v c ∧ (ab_rd m9 6 14).toInt = c ∧ ∀ l, l < n → ab_rd m9 36 l = if ¬ ab_rd m 35 l = 0 ∧ v l < F then nI (v l) else -1) := by
    intro k
    induction k with
    | zero =>
      intro i M hi hfr hs hlex
      have hi : i = n := by omega
      have hdu := hu_du2 (op := fun l => ¬ ab_rd m 35 l = 0) hQ hs.2.2.2.2.2.2.1 hs.2.2.2.2.2.2.2.1
      have hprice : ∀ l, l < n → ¬ ab_rd m 35 l = 0 → hW M l (hu_s M l) = w l (hu_s M l) ∧ 0 ≤ w l (hu_s M l) ∧ w l (hu_s M l) ≤ 200 := fun l hl ho => by
        have hq : hu_Q m n l := ⟨hl, ho⟩
        obtain ⟨g1, g2, g3⟩ := hu_s_is hs hq
        have a1 := hs.2.2.2.2.1 l _ hq g1
        have a2 := hdu.2.1 l hl ho
        have a3 := hs.bU hq
        have a4 := hs.bV g1
        exact ⟨a1.1, a1.2.1, by omega⟩
      obtain ⟨c, hCc, ec⟩ := ct_Matcher_seatingCost hZ (m := M) (n := n) (F := F) (Q := fun l => ¬ ab_rd m 35 l = 0) (v := hu_s M) hn hF hs.2.2.1 (fun l hl ho => by
        obtain ⟨g1, g2, g3⟩ := hu_s_is hs (show hu_Q m n l from ⟨hl, ho⟩)
        have := hprice l hl ho
        exact ⟨g1, g3, by omega, by omega⟩) (fun l hl ho => hs.2.2.2.2.2.2.2.2 l hl (fun z => ho z.2))
      have ecw : c.toInt = sg_cost n (fun l => ¬ ab_rd m 35 l = 0) w (hu_s M) := by
        rw [ec]
        refine sg_sum_cong (fun l hl => ?_)
        by_cases o : ¬ ab_rd m 35 l = 0
        · rw [if_pos o, if_pos o, (hprice l hl o).1]
        · rw [if_neg o, if_neg o]
      refine tk_Matcher_findBest_6_2 (by rw [hs.2.2.1, hi]; exact Int32.le_refl _) ⟨(by decide : 0 < 4), hCc⟩ ?_
      have hs2 : st_C (ab_wr M 6 14 c) n F w (hu_Q m n) := by
        obtain ⟨a1, a2, a3, a4, a5, a6, a7, a8, a9⟩ := hs
        exact ⟨a1, a2, a3, a4, a5, a6, a7, a8, a9⟩
      refine (l45 n 0 _ _ (by omega) hs2 (fr_M.refl _ _) (fun l hl => by omega)).mono (fun r m9 hh => ?_)
      obtain ⟨g1, g2, g3⟩ := hh
      refine ⟨g1, ?_, fun j hj => ?_, hu_s M, c.toInt, ⟨⟨fun l hl ho => ?_, hdu.1.2⟩, ecw.symm, fun x hx => ?_, fun l hl ho x hx hcx ha => ?_⟩, ?_, g3⟩
      · exact (((f1.mono (by decide)).trans (hfr.mono (by decide))).wr (p := 6) (by decide) 14 c).trans (g2.mono (by decide))
      · rw [g2.rdi (by decide), ab_rd_d _ _ _ hj, hfr.rdi (by decide), f1.rdi (by decide)]
      · have := hprice l hl ho
        exact ⟨hdu.1.1 l hl ho, by omega⟩
      · rw [ecw]
        exact du_le hdu hx.in
      · exact hlex l (by omega) ho x hx.in (by rw [hcx, ecw]) ha
      · rw [g2.rdi (by decide), ab_rd_s]
    | succ k ih =>
      intro i M hi hfr hs hlex
      have hlt : ¬ ab_rd M 6 12 ≤ nI i := by rw [hs.2.2.1]; exact nI_ge (by omega) (by omega)
      have ii := ab_in (n := i) (N := 24) (by omega) (by decide)
      have ci := ab_cl (n := i) (by omega)
      by_cases q : hu_Q m n i
      · obtain ⟨g1, g2, g3⟩ := hu_s_is hs q
        obtain ⟨r, M2, hC2, hr2, d1, d2, d3, d4, d5, d6⟩ := ct_Matcher_settle hZ (op := fun l => ¬ ab_rd m 35 l = 0) hQ hs q
        rw [hr2] at hC2
        refine tk_Matcher_findBest_6_0 hlt ii (by rw [ci, g3]; exact nI_m1 (by omega)) ⟨(by decide : 3 < 4), hC2⟩ ?_
        rw [nI_1]
        have hdu := hu_du2 (op := fun l => ¬ ab_rd m 35 l = 0) hQ hs.2.2.2.2.2.2.1 hs.2.2.2.2.2.2.2.1
        have hdu2 := hu_du2 (op := fun l => ¬ ab_rd m 35 l = 0) hQ d2.2.2.2.2.2.2.1 d2.2.2.2.2.2.2.2.1
        have ecost : sg_cost n (fun l => ¬ ab_rd m 35 l = 0) w (hu_s M2) = sg_cost n (fun l => ¬ ab_rd m 35 l = 0) w (hu_s M) := by
          have a1 := du_le hdu hdu2.1
          have a2 := du_le hdu2 hdu.1
          omega
        have same : ∀ k, k < i → hu_s M2 k = hu_s M k := fun k hk => by
          unfold hu_s
          show ((ab_rd M2 37 k).toInt).toNat = ((ab_rd M 37 k).toInt).toNat
          rw [d5 k (Or.inl hk)]
        refine ih (i + 1) M2 (by omega) (hfr.trans d1) d2 (fun l hl ho x hx hcx ha => ?_)
        by_cases e : l = i
        · rw [e] at ha ⊢
          exact d6 x hx (by rw [hcx, ecost]) (fun k hk ok => by rw [ha k hk ok, same k hk])
        · rw [same l (by omega)]
          exact hlex l (by omega) ho x hx (by rw [hcx, ecost]) (fun k hk ok => by rw [ha k hk ok, same k (by omega)])
      · refine tk_Matcher_findBest_6_1 hlt ii (by rw [ci]; exact hs.2.2.2.2.2.2.2.2 i (by omega) q) ?_
        rw [nI_1]
        refine ih (i + 1) M (by omega) hfr hs (fun l hl ho => ?_)
        have : l ≠ i := fun e => q ⟨by omega, by rw [← e]; exact ho⟩
        exact hlex l (by omega) ho
  exact ab_Ki hZ (tk_Matcher_findBest_0_0 ⟨(by decide : 3 < 4), hC1⟩ (l6 n 0 M1 (by omega) (fr_M.refl _ _) st1 (fun l hl => by omega))) (fun r m1 h => by rw [h.1]; trivial) (by decide) (Nat.le_of_ble_eq_true rfl)
/-- the least cost of all -/
def sg_min (n F : Nat) (op : Nat → Prop) [DecidablePred op] (w : Nat → Nat → Int) (c : Int) : Prop := (∃ x, in_ok n F op x ∧ sg_cost n op w x = c) ∧ ∀ x, in_ok n F op x → c ≤ sg_cost n op w x
theorem ct_Matcher_leastCostWithout {Z : ab_Z} (hZ : ab_okZ Z) {m : ab_M} {n F l0 f0 : Nat} {w : Nat → Nat → Int} (hn : n ≤ 24) (hF : F ≤ 24) (hc : ab_rd m 6 12 = nI n) (hb : ab_rd m 6 13 = nI F) (hl0 : l0 < n) (hf0 : f0 < F) (hw : ∀ l s, hu_Q m n l → s ≤ F → hW m l s = w l s ∧ 0 ≤ w l s ∧ w l s ≤ 1000000) (hg : ∀ l, hu_Q m n l → w l F ≤ 100) : ab_K Z 4 28 [.inl (.ref 6), .inl (.int (nI l0)), .inl (.int (nI f0))] m (fun r m9 => (∃ c : Int32, r = some c ∧ sg_min n F (fun l => ¬ ab_rd m 35 l = 0) (fun l s => if l = l0 ∧ s = f0 then 1000000 else w l s) c.toInt) ∧ fr_M [34, 37, 38, 39, 40, 41, 42] m m9 ∧ ab_rd m9 34 = ab_rd m 34) := by
  have il := ab_in (n := l0) (N := 24) (by omega) (by decide)
  have if0 := ab_in (n := f0) (N := 25) (by omega) (by decide)
  have cl := ab_cl (n := l0) (by omega)
  have cf := ab_cl (n := f0) (by omega)
  have hQ : ∀ l, hu_Q m n l ↔ l < n ∧ ¬ ab_rd m 35 l = 0 := fun l => Iff.rfl
  have rW : ∀ l s, s ≤ F → hW (ab_wr m 34 (l0 * 25 + f0) 1000000) l s = if l = l0 ∧ s = f0 then 1000000 else hW m l s := fun l s hs => by
    show (ab_rd _ 34 (l * 25 + s)).toInt = _
    rw [ab_rd_p]
    by_cases e : l = l0 ∧ s = f0
    · rw [if_pos e, if_pos (by omega)]
      rfl
    · rw [if_neg e, if_neg (by omega)]
  obtain ⟨r1, M1, hC1, hr1, f1, f2, f3, f4⟩ := ct_Matcher_seatAll hZ (m := ab_wr m 34 (l0 * 25 + f0) 1000000) (n := n) (F := F) (w := fun l s => if l = l0 ∧ s = f0 then 1000000 else w l s) hn hF hc hb (fun l s hl hs => by
    have hl : hu_Q m n l := hl
    rw [rW l s hs]
    show (if l = l0 ∧ s = f0 then 1000000 else hW m l s) = (if l = l0 ∧ s = f0 then 1000000 else w l s) ∧ 0 ≤ (if l = l0 ∧ s = f0 then 1000000 else w l s) ∧ (if l = l0 ∧ s = f0 then 1000000 else w l s) ≤ 1000000
    by_cases e : l = l0 ∧ s = f0
    · rw [if_pos e, if_pos e]
      omega
    · rw [if_neg e, if_neg e]
      exact hw l s hl hs) (fun l hl => by
    have hl : hu_Q m n l := hl
    show (if l = l0 ∧ F = f0 then 1000000 else w l F) ≤ 100
    rw [if_neg (by omega)]
    exact hg l hl)
  rw [hr1] at hC1
  have f2 : hu_F F (fun l s => if l = l0 ∧ s = f0 then 1000000 else w l s) (hu_Q m n) (hU M1) (hV M1) := f2
  have f3 : hu_M F (fun l s => if l = l0 ∧ s = f0 then 1000000 else w l s) (hu_Q m n) (hU M1) (hV M1) (hS M1) (hT M1) := f3
  have hdu := hu_du2 (op := fun l => ¬ ab_rd m 35 l = 0) hQ f2 f3
  have ep : ∀ j, ab_rd (ab_wr M1 34 (l0 * 25 + f0) (ab_rd m 34 (l0 * 25 + f0))) 34 j = ab_rd m 34 j := fun j => by
    rw [ab_rd_p, f1.rdi (by decide), ab_rd_p]
    by_cases e : j = l0 * 25 + f0
    · rw [if_pos e, e]
    · rw [if_neg e, if_neg e]
  have small : ∀ l, hu_Q m n l → (fun l s => if l = l0 ∧ s = f0 then (1000000 : Int) else w l s) l (hu_s M1 l) ≤ 100 ∧ ¬ (l = l0 ∧ hu_s M1 l = f0) := fun l hl => by
    obtain ⟨s, z1, z2, z3, -⟩ := f3.1 l hl
    have hv : hV M1 s ≤ 0 := by
      by_cases e : s = F
      · rw [e, f2.2.2.2]
        exact Int.le_refl _
      · exact f2.2.2.1 s (by omega)
    have hu : hU M1 l ≤ 100 := by
      have := f2.2.1 l F hl (Nat.le_refl _)
      have h3 : (if l = l0 ∧ F = f0 then (1000000 : Int) else w l F) ≤ 100 := by
        rw [if_neg (by omega)]
        exact hg l hl
      have h4 := f2.2.2.2
      have this : hU M1 l + hV M1 F ≤ (if l = l0 ∧ F = f0 then (1000000 : Int) else w l F) := this
      omega
    rw [hu_s_of z2]
    have z3 : hU M1 l + hV M1 s = (if l = l0 ∧ s = f0 then (1000000 : Int) else w l s) := z3
    refine ⟨?_, fun e => ?_⟩
    · show (if l = l0 ∧ s = f0 then (1000000 : Int) else w l s) ≤ 100
      omega
    · rw [if_pos e] at z3
      omega
  have hwx : ∀ l, hu_Q m n l → hu_s M1 l ≤ F ∧ ab_rd M1 37 l = nI (hu_s M1 l) := fun l hl => by
    obtain ⟨s, z1, z2, -⟩ := f3.1 l hl
    rw [hu_s_of z2]
    exact ⟨z1, (in_I (by omega)).mpr z2⟩
  have eW : hW (ab_wr M1 34 (l0 * 25 + f0) (ab_rd m 34 (l0 * 25 + f0))) = hW m := by
    funext l s
    show (ab_rd _ 34 (l * 25 + s)).toInt = _
    rw [ep]
  obtain ⟨c, hCc, ec⟩ := ct_Matcher_seatingCost hZ (m := ab_wr M1 34 (l0 * 25 + f0) (ab_rd m 34 (l0 * 25 + f0))) (n := n) (F := F) (Q := fun l => ¬ ab_rd m 35 l = 0) (v := hu_s M1) hn hF (by
    rw [ab_rd_n _ _ _ _ (by decide), f1.rdi (by decide)]
    exact hc) (fun l hl ho => by
    have hq : hu_Q m n l := ⟨hl, ho⟩
    obtain ⟨g1, g2⟩ := hwx l hq
    have := hw l (hu_s M1 l) hq g1
    rw [eW]
    exact ⟨g1, by rw [ab_rd_n _ _ _ _ (by decide)]; exact g2, by omega, by omega⟩) (fun l hl ho => by
    rw [ab_rd_n _ _ _ _ (by decide)]
    exact f4 l (by omega) (fun z => ho z.2))
  have ecw : c.toInt = sg_cost n (fun l => ¬ ab_rd m 35 l = 0) (fun l s => if l = l0 ∧ s = f0 then 1000000 else w l s) (hu_s M1) := by
    rw [ec, eW]
    refine sg_sum_cong (fun l hl => ?_)
    by_cases o : ¬ ab_rd m 35 l = 0
    · have hq : hu_Q m n l := ⟨hl, o⟩
      rw [if_pos o, if_pos o, (hw l _ hq (hwx l hq).1).1]
      show w l (hu_s M1 l) = if l = l0 ∧ hu_s M1 l = f0 then 1000000 else w l (hu_s M1 l)
      rw [if_neg (small l hq).2]
    · rw [if_neg o, if_neg o]
  refine ab_Ki hZ (tk_Matcher_leastCostWithout_0_0 il ⟨il, if0⟩ il ⟨il, if0⟩ ⟨(by decide : 3 < 4), (by rw [cl, cf]; exact hC1)⟩ il ⟨il, if0⟩ ⟨(by decide : 0 < 4), (by rw [cl, cf]; exact hCc)⟩ ⟨⟨c, rfl, ⟨hu_s M1, hdu.1, ecw.symm⟩, fun x hx => by rw [ecw]; exact du_le hdu hx⟩, ?_, ?_⟩) (fun r m1 h => by obtain ⟨⟨v, rfl, -⟩, -⟩ := h; trivial) (by decide) (Nat.le_of_ble_eq_true rfl)
  · exact ((((fr_M.refl _ m).wr (p := 34) (by decide) (l0 * 25 + f0) 1000000).trans (f1.mono (by decide))).wr (by decide) _ _)
  · funext j
    exact ep j
