/-! ===== tick ===== -/
/-- the due of the bag of j -/
def tc_du (m : ab_M) (n j : Nat) : Int32 := du_of (ab_rd m 60) (ab_rd m 53) (ab_rd m 57) (ab_rd m 48) (ab_rd m 49) (ab_rd m 60 j) n
/-- which finds go at t -/
def tc_S (m : ab_M) (n : Nat) (t : Int32) (j : Nat) : Prop := ab_rd m 58 j = 0 ∧ tc_du m n j < t
def tc_dS (m : ab_M) (n : Nat) (t : Int32) : DecidablePred (tc_S m n t) := fun j => by unfold tc_S; exact inferInstance
/-- of those with a rep below i -/
def tc_R (m : ab_M) (n : Nat) (t : Int32) (i j : Nat) : Prop := tc_S m n t j ∧ (ab_rd m 60 j).toNatClampNeg < i
def tc_dR (m : ab_M) (n : Nat) (t : Int32) (i : Nat) : DecidablePred (tc_R m n t i) := fun j => by
  have := tc_dS m n t j
  unfold tc_R
  exact inferInstance
def tc_g (S : Nat → Prop) (d : DecidablePred S) (j : Nat) (o : Int32) : Int32 := if S j then 2 else o
/-- the reference's loop -/
theorem cl_M_tick {Z : ab_Z} (hZ : ab_okZ Z) {n nK : Nat} {t : Int32} {m M : ab_M} (hn : n ≤ 24) (hK : nK ≤ 40) (hc : ab_rd M 8 4 = nI n) (hok : kd_ok (ab_rd M 48) nK) (hkp : ∀ k, k < nK → ab_rd M 49 k = -1 ∨ (1 ≤ (ab_rd M 49 k).toInt ∧ (ab_rd M 49 k).toInt ≤ 1000)) (hkn : ∀ f, f < n → ∃ k, k < nK ∧ ab_rd M 53 f = nI k) (e1 : ab_rd M 60 = ab_rd m 60) (e2 : ab_rd M 53 = ab_rd m 53) (e3 : ab_rd M 57 = ab_rd m 57) (e4 : ab_rd M 48 = ab_rd m 48) (e5 : ab_rd M 49 = ab_rd m 49) (e6 : ab_rd M 58 = ab_rd m 58) : ∀ (k i : Nat), i + k = n → ab_T Z 137 40 (39, [(0, .inl (.ref 8)), (1, .inl (.int t)), (2, .inl (.int (nI (@cn_of (tc_S m n t) (tc_dS m n t) i)))), (3, .inl (.int (nI i)))], [], lp_f M 58 0 i (tc_g (tc_S m n t) (tc_dS m n t))) (fun r m9 => r = some (nI (@cn_of (tc_S m n t) (tc_dS m n t) n)) ∧ m9 = lp_f M 58 0 n (tc_g (tc_S m n t) (tc_dS m n t))) := by
  intro k
  induction k with
  | zero =>
    intro i hi
    have hi : i = n := by omega
    subst hi
    refine tk_M_tick_39_3 ?_ ⟨rfl, rfl⟩
    rw [lp_f_rn M 0 i _ (by decide), hc]
    exact nI_le (Nat.le_refl _) (by omega)
  | succ k ih =>
    intro i hi
    have hlt : ¬ ab_rd (lp_f M 58 0 i (tc_g (tc_S m n t) (tc_dS m n t))) 8 4 ≤ nI i := by
      rw [lp_f_rn M 0 i _ (by decide), hc]
      exact nI_ge (by omega) (by omega)
    have hin := ab_in (n := i) (N := 24) (by omega) (by decide)
    have hci := ab_cl (n := i) (by omega)
    have hih := ih (i + 1) (by omega)
    rw [@cn_s (tc_S m n t) (tc_dS m n t)] at hih
    have hst : ab_rd (lp_f M 58 0 i (tc_g (tc_S m n t) (tc_dS m n t))) 58 (nI i).toNatClampNeg = ab_rd m 58 i := by
      rw [hci, lp_f_rd, if_neg (by omega), e6]
    have q : ∀ p, p ≠ 58 → ab_rd (lp_f M 58 0 i (tc_g (tc_S m n t) (tc_dS m n t))) p = ab_rd M p := fun p hp => lp_f_n M 0 i _ hp
    by_cases hs : ab_rd m 58 i = 0
    · have hdu := ct_M_dueOf hZ (f := i) (n := n) (nK := nK) (m := lp_f M 58 0 i (tc_g (tc_S m n t) (tc_dS m n t))) (by omega) hn (by rw [q _ (by decide)]; exact hc) hK (by rw [q _ (by decide)]; exact hok) (by rw [q _ (by decide)]; exact hkp) (by rw [q _ (by decide)]; exact hkn)
      rw [q 60 (by decide), q 53 (by decide), q 57 (by decide), q 48 (by decide), q 49 (by decide), e1, e2, e3, e4, e5] at hdu
      by_cases hd : tc_du m n i < t
      · have hS : tc_S m n t i := ⟨hs, hd⟩
        rw [if_pos hS] at hih
        refine tk_M_tick_39_1 hlt hin (by rw [hst]; exact hs) ⟨(by decide : 2 < 40), hdu⟩ hd hin ?_
        have := lp_f_s M 58 0 i (tc_g (tc_S m n t) (tc_dS m n t)) (v := 2) (by rw [Nat.zero_add]; unfold tc_g; rw [if_pos hS])
        rw [Nat.zero_add] at this
        rw [hci, this, nI_1, nI_1]
        exact hih
      · have hS : ¬ tc_S m n t i := fun z => hd z.2
        rw [if_neg hS, Nat.add_zero] at hih
        refine tk_M_tick_39_0 hlt hin (by rw [hst]; exact hs) ⟨(by decide : 2 < 40), hdu⟩ hd ?_
        rw [lp_f_k M 58 0 i (tc_g (tc_S m n t) (tc_dS m n t)) (by rw [Nat.zero_add]; unfold tc_g; rw [if_neg hS]), nI_1]
        exact hih
    · have hS : ¬ tc_S m n t i := fun z => hs z.1
      rw [if_neg hS, Nat.add_zero] at hih
      refine tk_M_tick_39_2 hlt hin (by rw [hst]; exact hs) ?_
      rw [lp_f_k M 58 0 i (tc_g (tc_S m n t) (tc_dS m n t)) (by rw [Nat.zero_add]; unfold tc_g; rw [if_neg hS]), nI_1]
      exact hih
/-- the class's loop: up to its end -/
theorem cl_D_tick {Z : ab_Z} (hZ : ab_okZ Z) {nK nP n : Nat} {t : Int32} {m M : ab_M} (hK : iv_K m nK) (hF : iv_F m nK nP n) (eM : M = ab_wr m 0 12 t) {P : Option Int32 → ab_M → Prop} (fin : ab_T Z 75 40 (28, [(0, .inl (.ref 0)), (1, .inl (.int t)), (2, .inl (.int (nI (@cn_of (tc_S m n t) (tc_dS m n t) n)))), (3, .inl (.int (nI n)))], [], lp_f M 24 0 n (tc_g (tc_S m n t) (tc_dS m n t))) P) : ∀ (k i : Nat), i + k = n → ab_T Z 75 40 (28, [(0, .inl (.ref 0)), (1, .inl (.int t)), (2, .inl (.int (nI (@cn_of (tc_R m n t i) (tc_dR m n t i) n)))), (3, .inl (.int (nI i)))], [], lp_f M 24 0 n (tc_g (tc_R m n t i) (tc_dR m n t i))) P := by
  obtain ⟨k1, k2, k3, k4, k5, k6, k7, -⟩ := id hK
  obtain ⟨g1, g2, g3, a1, a2, a3, a4, a5, a6, a7, a8, g⟩ := id hF
  have hM : ∀ p, p ≠ 0 → ab_rd M p = ab_rd m p := fun p hp => by rw [eM]; exact ab_wr_n m _ t hp
  have hnow : ab_rd M 0 12 = t := by rw [eM]; exact ab_rd_s m _ _ t
  have hrep : ∀ j, j < n → ∃ b, b ≤ j ∧ ab_rd m 60 j = nI b ∧ (ab_rd m 60 j).toNatClampNeg = b ∧ ab_rd m 60 b = nI b ∧ ab_rd m 58 j = ab_rd m 58 b := by
    intro j hj
    obtain ⟨-, -, -, -, -, -, b, hb, u1, u2, u3⟩ := g j hj
    exact ⟨b, hb, u1, by rw [u1, ab_cl (by omega)], u2, u3⟩
  intro k
  induction k with
  | zero =>
    intro i hi
    have hi : i = n := by omega
    subst hi
    have hRS : ∀ j, j < i → (tc_R m i t i j ↔ tc_S m i t j) := by
      intro j hj
      obtain ⟨b, hb, u1, u2, -⟩ := hrep j hj
      exact ⟨fun z => z.1, fun z => ⟨z, by rw [u2]; omega⟩⟩
    rw [@cn_cong (tc_R m i t i) (tc_S m i t) (tc_dR m i t i) (tc_dS m i t) i hRS, lp_f_eq M 24 0 i (tc_g (tc_R m i t i) (tc_dR m i t i)) (tc_g (tc_S m i t) (tc_dS m i t)) (fun j _ hj => by
      unfold tc_g
      by_cases z : tc_S m i t j
      · rw [if_pos z, if_pos ((hRS j (by omega)).mpr z)]
      · rw [if_neg z, if_neg (fun y => z ((hRS j (by omega)).mp y))])]
    exact fin
  | succ k ih =>
    intro i hi
    have hih := ih (i + 1) (by omega)
    have q : ∀ p, p ≠ 24 → p ≠ 0 → ab_rd (lp_f M 24 0 n (tc_g (tc_R m n t i) (tc_dR m n t i))) p = ab_rd m p := fun p hp hd => (lp_f_n M 0 n _ hp).trans (hM p hd)
    have hlt : ¬ ab_rd (lp_f M 24 0 n (tc_g (tc_R m n t i) (tc_dR m n t i))) 4 8 ≤ nI i := by
      rw [q _ (by decide) (by decide), g2]
      exact nI_ge (by omega) (by omega)
    have hin := ab_in (n := i) (N := 24) (by omega) (by decide)
    have hci := ab_cl (n := i) (by omega)
    obtain ⟨b, hb, u1, u2, u3, u4⟩ := hrep i (by omega)
    have hstay : (∀ j, j < n → (ab_rd m 60 j).toNatClampNeg = i → ¬ tc_S m n t j) → ab_T Z 75 40 (28, [(0, .inl (.ref 0)), (1, .inl (.int t)), (2, .inl (.int (nI (@cn_of (tc_R m n t i) (tc_dR m n t i) n)))), (3, .inl (.int (nI i + 1)))], [], lp_f M 24 0 n (tc_g (tc_R m n t i) (tc_dR m n t i))) P := by
      intro hno
      have hRR : ∀ j, j < n → (tc_R m n t i j ↔ tc_R m n t (i + 1) j) := by
        intro j hj
        constructor
        · rintro ⟨z1, z2⟩
          exact ⟨z1, by omega⟩
        · rintro ⟨z1, z2⟩
          refine ⟨z1, ?_⟩
          by_cases y : (ab_rd m 60 j).toNatClampNeg = i
          · exact absurd z1 (hno j hj y)
          · omega
      rw [@cn_cong (tc_R m n t i) (tc_R m n t (i + 1)) (tc_dR m n t i) (tc_dR m n t (i + 1)) n hRR, lp_f_eq M 24 0 n (tc_g (tc_R m n t i) (tc_dR m n t i)) (tc_g (tc_R m n t (i + 1)) (tc_dR m n t (i + 1))) (fun j _ hj => by
        unfold tc_g
        by_cases z : tc_R m n t i j
        · rw [if_pos z, if_pos ((hRR j (by omega)).mp z)]
        · rw [if_neg z, if_neg (fun y => z ((hRR j (by omega)).mpr y))]), nI_1]
      exact hih
    have hbagD : ab_rd (lp_f M 24 0 n (tc_g (tc_R m n t i) (tc_dR m n t i))) 26 (nI i).toNatClampNeg = nI b := by
      rw [hci, q _ (by decide) (by decide), a8]
      exact u1
    by_cases hbi : b = i
    · subst hbi
      have hkept := ct_Finds_isKept hZ (f := b) (by omega) (lp_f M 24 0 n (tc_g (tc_R m n t b) (tc_dR m n t b)))
      have hst : ab_rd (lp_f M 24 0 n (tc_g (tc_R m n t b) (tc_dR m n t b))) 24 b = ab_rd m 58 b := by
        rw [lp_f_rd, if_pos (by omega)]
        unfold tc_g
        rw [if_neg (fun z => by have := z.2; omega), hM _ (by decide), a6]
      rw [hst] at hkept
      by_cases hs : ab_rd m 58 b = 0
      · have hdu := ct_D_bagDue hZ (b := b) (n := n) (nK := nK) (m := lp_f M 24 0 n (tc_g (tc_R m n t b) (tc_dR m n t b))) g1 (by omega) (by rw [q _ (by decide) (by decide)]; exact g2) k1 (by rw [q _ (by decide) (by decide)]; exact k2) (by rw [q _ (by decide) (by decide), funext k4]; exact k6) (fun j hj => by rw [q _ (by decide) (by decide), a1]; exact (g j hj).1) (fun j hj y => by
          rw [q _ (by decide) (by decide), a8] at y
          obtain ⟨c, hc, v1, -⟩ := hrep j (by omega)
          rw [v1, nI_eq (by omega) (by omega)] at y
          omega)
        rw [q 26 (by decide) (by decide), q 19 (by decide) (by decide), q 23 (by decide) (by decide), q 12 (by decide) (by decide), q 14 (by decide) (by decide), iv_due hK hF] at hdu
        have hnw : ab_rd (lp_f M 24 0 n (tc_g (tc_R m n t b) (tc_dR m n t b))) 0 12 = t := (lp_f_rn M 0 n _ (by decide) _).trans hnow
        have hself : tc_du m n b = du_of (ab_rd m 60) (ab_rd m 53) (ab_rd m 57) (ab_rd m 48) (ab_rd m 49) (nI b) n := by
          unfold tc_du
          rw [u3]
        have hmem : ∀ j, j < n → (ab_rd m 60 j).toNatClampNeg = b → ab_rd m 60 j = nI b := by
          intro j hj y
          obtain ⟨c, hc, v1, v2, -⟩ := hrep j hj
          rw [v1, ← v2, y]
        by_cases hd : tc_du m n b < t
        · have hdrop := ct_Finds_dropBag hZ (f := b) (n := n) (m := lp_f M 24 0 n (tc_g (tc_R m n t b) (tc_dR m n t b))) (by omega) g1 (by rw [q _ (by decide) (by decide)]; exact g2)
          rw [q 26 (by decide) (by decide)] at hdrop
          refine tk_D_tick_28_0 hlt hin (by rw [hbagD]) (by decide) ⟨by decide, hkept⟩ (ab_b_n.mpr hs) ⟨(by decide : 2 < 40), hdu⟩ (by rw [hnw, ← hself, ab_leI]; rw [ab_ltI] at hd; omega) ⟨by decide, hdrop⟩ ?_
          have hin2 : ∀ j, j < n → (ab_rd m 26 j = ab_rd m 26 b ↔ (ab_rd m 60 j).toNatClampNeg = b) := by
            intro j hj
            rw [a8, a8, u3]
            exact ⟨fun y => by rw [y, ab_cl (by omega)], fun y => hmem j hj y⟩
          have hall : ∀ j, j < n → (ab_rd m 60 j).toNatClampNeg = b → tc_S m n t j := by
            intro j hj y
            obtain ⟨c, hc, v1, v2, v3, v4⟩ := hrep j hj
            have hcb : c = b := by omega
            refine ⟨by rw [v4, hcb]; exact hs, ?_⟩
            have : tc_du m n j = tc_du m n b := by
              unfold tc_du
              rw [hmem j hj y, u3]
            rw [this]
            exact hd
          have hcnt : @cn_of (tc_R m n t (b + 1)) (tc_dR m n t (b + 1)) n = @cn_of (tc_R m n t b) (tc_dR m n t b) n + cn_of (fun j => ab_rd m 26 j = ab_rd m 26 b) n := by
            refine @cn_or (tc_R m n t b) (fun j => ab_rd m 26 j = ab_rd m 26 b) (tc_R m n t (b + 1)) (tc_dR m n t b) _ (tc_dR m n t (b + 1)) n (fun j hj => ?_) (fun j hj z => ?_)
            · constructor
              · rintro ⟨z1, z2⟩
                by_cases y : (ab_rd m 60 j).toNatClampNeg = b
                · exact Or.inr ((hin2 j hj).mpr y)
                · exact Or.inl ⟨z1, by omega⟩
              · rintro (⟨z1, z2⟩ | z)
                · exact ⟨z1, by omega⟩
                · have y := (hin2 j hj).mp z
                  exact ⟨hall j hj y, by omega⟩
            · have y := (hin2 j hj).mp z.2
              have := z.1.2
              omega
          rw [lp_f_comp M 24 0 n (tc_g (tc_R m n t b) (tc_dR m n t b)) (hd_g (ab_rd m 26) b 2) (tc_g (tc_R m n t (b + 1)) (tc_dR m n t (b + 1))) (fun j _ hj => by
            have hj : j < n := by omega
            unfold hd_g
            by_cases z : ab_rd m 26 j = ab_rd m 26 b
            · have y := (hin2 j hj).mp z
              rw [if_pos z]
              unfold tc_g
              rw [if_pos (show tc_R m n t (b + 1) j from ⟨hall j hj y, by omega⟩)]
            · rw [if_neg z]
              have y : ¬ (ab_rd m 60 j).toNatClampNeg = b := fun w => z ((hin2 j hj).mpr w)
              unfold tc_g
              by_cases w : tc_R m n t b j
              · rw [if_pos w, if_pos (show tc_R m n t (b + 1) j from ⟨w.1, by have := w.2; omega⟩)]
              · rw [if_neg w, if_neg (fun v : tc_R m n t (b + 1) j => w ⟨v.1, by have := v.2; omega⟩)]), nI_add, ← hcnt, nI_1]
          exact hih
        · refine tk_D_tick_28_1 hlt hin (by rw [hbagD]) (by decide) ⟨by decide, hkept⟩ (ab_b_n.mpr hs) ⟨(by decide : 2 < 40), hdu⟩ (by rw [hnw, ← hself, ab_leI]; rw [ab_ltI] at hd; omega) (hstay (fun j hj y z => hd ?_))
          have : tc_du m n j = tc_du m n b := by
            unfold tc_du
            rw [hmem j hj y, u3]
          rw [← this]
          exact z.2
      · refine tk_D_tick_28_2 hlt hin (by rw [hbagD]) (by decide) ⟨by decide, hkept⟩ (ab_b_0.mpr hs) (hstay (fun j hj y z => hs ?_))
        obtain ⟨c, hc, v1, v2, v3, v4⟩ := hrep j hj
        have hcb : c = b := by omega
        rw [← hcb, ← v4]
        exact z.1
    · refine tk_D_tick_28_7 hlt hin (by rw [hbagD, nI_eq (by omega) (by omega)]; exact hbi) rfl (hstay (fun j hj y z => hbi ?_))
      obtain ⟨c, hc, v1, v2, v3, v4⟩ := hrep j hj
      have hcb : c = i := by omega
      rw [hcb] at v3
      rw [v3, nI_eq (by omega) (by omega)] at u1
      omega
