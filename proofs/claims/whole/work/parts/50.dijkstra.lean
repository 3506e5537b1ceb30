/-! ===== the class measures from a place ===== -/
theorem ct_J_fill_far {Z : ab_Z} (hZ : ab_okZ Z) {a : Nat} {v : Int32} {m : ab_M} (ha : a < 20) : ab_C Z 0 146 [.inr (17, nI a), .inl (.int v)] m none (lp_f m 17 (a * 20) 20 (fun _ _ => v)) := by
  have hia := ab_in (N := 20) ha (by decide)
  have hca := ab_cl (n := a) (by omega)
  have lp : ∀ (k i : Nat), i + k = 20 → ab_T Z 146 0 (5, [(0, .inr (17, nI a)), (1, .inl (.int v)), (2, .inl (.int (nI i))), (3, .inl (.int (Int32.ofNat 20)))], [], lp_f m 17 (a * 20) i (fun _ _ => v)) (fun r m9 => r = none ∧ m9 = lp_f m 17 (a * 20) 20 (fun _ _ => v)) := by
    intro k
    induction k with
    | zero =>
      intro i hi
      have hi : i = 20 := by omega
      subst hi
      exact tk_J_fill17_5_1 (Int32.le_refl _) ⟨rfl, rfl⟩
    | succ k ih =>
      intro i hi
      refine tk_J_fill17_5_0 (nI_ge (b := 20) (by omega) (by decide)) ⟨hia, ab_in (by omega) (by decide)⟩ ?_
      rw [hca, ab_cl (by omega), lp_f_s _ _ _ _ _ rfl, nI_1]
      exact ih (i + 1) (by omega)
  refine ab_Kv hZ (tk_J_fill17_0_0 hia ?_) trivial (by decide) (Nat.le_of_ble_eq_true rfl)
  have := lp 20 0 rfl
  rw [lp_f_0] at this
  exact this
def nr_P (F : Nat → Int32) (B n : Nat) (r : Int32) : Prop := (r = -1 ∧ ∀ p, p < n → F p = -1 ∨ B.testBit p = true) ∨ ∃ t, t < n ∧ r = nI t ∧ ¬ F t = -1 ∧ ¬ B.testBit t = true ∧ ∀ p, p < n → ¬ F p = -1 → ¬ B.testBit p = true → F t ≤ F p
theorem ct_Places_nearest {Z : ab_Z} (hZ : ab_okZ Z) {s B n : Nat} {m : ab_M} (hs : s < 20) (hB : B < 2 ^ 20) (hn : n ≤ 20) (hc : ab_rd m 3 3 = nI n) : ab_K Z 0 52 [.inl (.ref 3), .inr (17, nI s), .inl (.int (nI B))] m (fun r m9 => (∃ v, r = some v ∧ nr_P (fun p => ab_rd m 17 (s * 20 + p)) B n v) ∧ m9 = m) := by
  have his := ab_in (N := 20) hs (by decide)
  have hcs := ab_cl (n := s) (by omega)
  have lp : ∀ (k i : Nat) (v : Int32), i + k = n → nr_P (fun p => ab_rd m 17 (s * 20 + p)) B i v → ab_T Z 52 0 (5, [(0, .inl (.ref 3)), (1, .inr (17, nI s)), (2, .inl (.int (nI B))), (3, .inl (.int v)), (4, .inl (.int (nI i)))], [], m) (fun r m9 => (∃ v, r = some v ∧ nr_P (fun p => ab_rd m 17 (s * 20 + p)) B n v) ∧ m9 = m) := by
    intro k
    induction k with
    | zero =>
      intro i v hi hv
      have hi : i = n := by omega
      subst hi
      exact tk_Places_nearest_5_12 (by rw [hc]; exact Int32.le_refl _) ⟨⟨v, rfl, hv⟩, rfl⟩
    | succ k ih =>
      intro i v hi hv
      have hlt : ¬ ab_rd m 3 3 ≤ nI i := by rw [hc]; exact nI_ge (by omega) (by omega)
      have hii := ab_in (n := i) (N := 20) (by omega) (by decide)
      have hci := ab_cl (n := i) (by omega)
      have bit := bt_bit0 (n := B) (j := i) (by omega) (by omega)
      have same : (∀ t, v = nI t → t < i → ¬ ab_rd m 17 (s * 20 + i) = -1 → ¬ B.testBit i = true → ab_rd m 17 (s * 20 + t) ≤ ab_rd m 17 (s * 20 + i)) → (v = -1 → ab_rd m 17 (s * 20 + i) = -1 ∨ B.testBit i = true) → nr_P (fun p => ab_rd m 17 (s * 20 + p)) B (i + 1) v := fun h1 h2 => by
        rcases hv with ⟨q, h⟩ | ⟨t, ht, q, h3, h4, h5⟩
        · refine Or.inl ⟨q, fun p hp => ?_⟩
          by_cases e : p = i
          · rw [e]; exact h2 q
          · exact h p (by omega)
        · refine Or.inr ⟨t, by omega, q, h3, h4, fun p hp h6 h7 => ?_⟩
          by_cases e : p = i
          · subst e; exact h1 t q ht h6 h7
          · exact h5 p (by omega) h6 h7
      by_cases f : ab_rd m 17 (s * 20 + i) = -1
      · refine tk_Places_nearest_5_11 hlt ⟨his, hii⟩ (by rw [hcs, hci]; exact f) rfl ?_
        rw [nI_1]
        exact ih (i + 1) v (by omega) (same (fun t _ _ h => absurd f h) (fun _ => Or.inl f))
      · by_cases b : B.testBit i = true
        · refine tk_Places_nearest_5_7 hlt ⟨his, hii⟩ (by rw [hcs, hci]; exact f) (fun z => (bit.mp z) b) rfl ?_
          rw [nI_1]
          exact ih (i + 1) v (by omega) (same (fun t _ _ _ h => absurd b h) (fun _ => Or.inr b))
        · rcases id hv with ⟨q, h⟩ | ⟨t, ht, q, h3, h4, h5⟩
          · refine tk_Places_nearest_5_2 hlt ⟨his, hii⟩ (by rw [hcs, hci]; exact f) (bit.mpr b) (by decide) q ?_
            rw [nI_1]
            refine ih (i + 1) _ (by omega) (Or.inr ⟨i, by omega, rfl, f, b, fun p hp h6 h7 => ?_⟩)
            by_cases e : p = i
            · rw [e]; exact Int32.le_refl _
            · exact absurd (h p (by omega)) (fun z => z.elim h6 h7)
          · subst q
            have hit := ab_in (n := t) (N := 20) (by omega) (by decide)
            have hct := ab_cl (n := t) (by omega)
            have hn1 : ¬ nI t = -1 := fun z => by rw [ab_eqI, nI_toInt (by omega), ab_m1] at z; omega
            by_cases c : ab_rd m 17 (s * 20 + t) ≤ ab_rd m 17 (s * 20 + i)
            · refine tk_Places_nearest_5_1 hlt ⟨his, hii⟩ (by rw [hcs, hci]; exact f) (bit.mpr b) (by decide) hn1 ⟨his, hii⟩ ⟨his, hit⟩ (by rw [hcs, hci, hct]; exact c) ?_
              rw [nI_1]
              refine ih (i + 1) _ (by omega) (same (fun t' e ht' _ _ => ?_) (fun z => absurd z hn1))
              have : t = t' := (nI_eq (by omega) (by omega)).mp e
              rw [← this]
              exact c
            · refine tk_Places_nearest_5_0 hlt ⟨his, hii⟩ (by rw [hcs, hci]; exact f) (bit.mpr b) (by decide) hn1 ⟨his, hii⟩ ⟨his, hit⟩ (by rw [hcs, hci, hct]; exact c) ?_
              rw [nI_1]
              refine ih (i + 1) _ (by omega) (Or.inr ⟨i, by omega, rfl, f, b, fun p hp h6 h7 => ?_⟩)
              by_cases e : p = i
              · rw [e]; exact Int32.le_refl _
              · have w : ab_rd m 17 (s * 20 + t) ≤ ab_rd m 17 (s * 20 + p) := h5 p (by omega) h6 h7
                show ab_rd m 17 (s * 20 + i) ≤ ab_rd m 17 (s * 20 + p)
                rw [ab_leI] at w c ⊢
                omega
  exact ab_Ki hZ (tk_Places_nearest_0_0 (lp n 0 (-1) (by omega) (Or.inl ⟨rfl, fun p hp => by omega⟩))) (fun r m1 h => by obtain ⟨⟨v, rfl, -⟩, -⟩ := h; trivial) (by decide) (Nat.le_of_ble_eq_true rfl)
def lk_g (m : ab_M) (s t : Nat) (j : Nat) (v : Int32) : Int32 := if ab_rd m 16 (t * 20 + (j - s * 20)) = -1 then v else if v = -1 ∨ ¬ v ≤ ab_rd m 17 (s * 20 + t) + ab_rd m 16 (t * 20 + (j - s * 20)) then ab_rd m 17 (s * 20 + t) + ab_rd m 16 (t * 20 + (j - s * 20)) else v
theorem ct_Places_lookFrom {Z : ab_Z} (hZ : ab_okZ Z) {s t n : Nat} {m : ab_M} (hs : s < 20) (ht : t < n) (hn : n ≤ 20) (hc : ab_rd m 3 3 = nI n) (htt : ab_rd m 16 (t * 20 + t) = -1) : ab_C Z 1 53 [.inl (.ref 3), .inl (.int (nI t)), .inr (17, nI s)] m none (lp_f m 17 (s * 20) n (lk_g m s t)) := by
  have his := ab_in (N := 20) hs (by decide)
  have hcs := ab_cl (n := s) (by omega)
  have hit := ab_in (n := t) (N := 20) (by omega) (by decide)
  have hct := ab_cl (n := t) (by omega)
  have lp : ∀ (k i : Nat), i + k = n → ab_T Z 53 1 (2, [(0, .inl (.ref 3)), (1, .inl (.int (nI t))), (2, .inr (17, nI s)), (3, .inl (.int (nI i)))], [], lp_f m 17 (s * 20) i (lk_g m s t)) (fun r m9 => r = none ∧ m9 = lp_f m 17 (s * 20) n (lk_g m s t)) := by
    intro k
    induction k with
    | zero =>
      intro i hi
      have hi : i = n := by omega
      subst hi
      exact tk_Places_lookFrom_2_4 (by rw [lp_f_rn _ _ _ _ (by decide), hc]; exact Int32.le_refl _) ⟨rfl, rfl⟩
    | succ k ih =>
      intro i hi
      have hlt : ¬ ab_rd (lp_f m 17 (s * 20) i (lk_g m s t)) 3 3 ≤ nI i := by rw [lp_f_rn _ _ _ _ (by decide), hc]; exact nI_ge (by omega) (by omega)
      have hii := ab_in (n := i) (N := 20) (by omega) (by decide)
      have hci := ab_cl (n := i) (by omega)
      have hhw := ct_Places_hasWay hZ (a := t) (b := i) (by omega) (by omega) (lp_f m 17 (s * 20) i (lk_g m s t))
      rw [lp_f_rn _ _ _ _ (by decide)] at hhw
      have ft : ab_rd (lp_f m 17 (s * 20) i (lk_g m s t)) 17 (s * 20 + t) = ab_rd m 17 (s * 20 + t) := by
        rw [lp_f_rd]
        by_cases q : s * 20 ≤ s * 20 + t ∧ s * 20 + t < s * 20 + i
        · rw [if_pos q]
          unfold lk_g
          rw [show s * 20 + t - s * 20 = t by omega, if_pos htt]
        · rw [if_neg q]
      have fi : ab_rd (lp_f m 17 (s * 20) i (lk_g m s t)) 17 (s * 20 + i) = ab_rd m 17 (s * 20 + i) := by
        rw [lp_f_rd, if_neg (by omega)]
      have ti : ab_rd (lp_f m 17 (s * 20) i (lk_g m s t)) 16 (t * 20 + i) = ab_rd m 16 (t * 20 + i) := lp_f_rn _ _ _ _ (by decide) _
      by_cases q : ab_rd m 16 (t * 20 + i) = -1
      · refine tk_Places_lookFrom_2_3 hlt ⟨(by decide : 0 < 1), hhw⟩ (ab_b_0.mpr (fun z => z q)) ?_
        rw [nI_1, lp_f_k m 17 (s * 20) i (lk_g m s t) (by unfold lk_g; rw [show s * 20 + i - s * 20 = i by omega, if_pos q])]
        exact ih (i + 1) (by omega)
      · have hg : lk_g m s t (s * 20 + i) (ab_rd m 17 (s * 20 + i)) = if ab_rd m 17 (s * 20 + i) = -1 ∨ ¬ ab_rd m 17 (s * 20 + i) ≤ ab_rd m 17 (s * 20 + t) + ab_rd m 16 (t * 20 + i) then ab_rd m 17 (s * 20 + t) + ab_rd m 16 (t * 20 + i) else ab_rd m 17 (s * 20 + i) := by
          unfold lk_g
          rw [show s * 20 + i - s * 20 = i by omega, if_neg q]
        by_cases f : ab_rd m 17 (s * 20 + i) = -1
        · rw [if_pos (Or.inl f)] at hg
          refine tk_Places_lookFrom_2_2 hlt ⟨(by decide : 0 < 1), hhw⟩ (ab_b_n.mpr q) ⟨his, hit⟩ hit ⟨hit, hii⟩ ⟨his, hii⟩ (by rw [hcs, hci, fi]; exact f) ⟨his, hii⟩ ?_
          rw [hcs, hct, hci, ft, ti, nI_1, lp_f_s _ _ _ _ _ hg.symm]
          exact ih (i + 1) (by omega)
        · by_cases g : ab_rd m 17 (s * 20 + i) ≤ ab_rd m 17 (s * 20 + t) + ab_rd m 16 (t * 20 + i)
          · rw [if_neg (fun z => z.elim f (fun y => y g))] at hg
            refine tk_Places_lookFrom_2_1 hlt ⟨(by decide : 0 < 1), hhw⟩ (ab_b_n.mpr q) ⟨his, hit⟩ hit ⟨hit, hii⟩ ⟨his, hii⟩ (by rw [hcs, hci, fi]; exact f) ⟨his, hii⟩ (by rw [hcs, hct, hci, ft, ti, fi]; exact g) ?_
            rw [nI_1, lp_f_k m 17 (s * 20) i (lk_g m s t) hg]
            exact ih (i + 1) (by omega)
          · rw [if_pos (Or.inr g)] at hg
            refine tk_Places_lookFrom_2_0 hlt ⟨(by decide : 0 < 1), hhw⟩ (ab_b_n.mpr q) ⟨his, hit⟩ hit ⟨hit, hii⟩ ⟨his, hii⟩ (by rw [hcs, hci, fi]; exact f) ⟨his, hii⟩ (by rw [hcs, hct, hci, ft, ti, fi]; exact g) ⟨his, hii⟩ ?_
            rw [hcs, hct, hci, ft, ti, nI_1, lp_f_s _ _ _ _ _ hg.symm]
            exact ih (i + 1) (by omega)
  refine ab_Kv hZ (tk_Places_lookFrom_0_0 ?_) trivial (by decide) (Nat.le_of_ble_eq_true rfl)
  have := lp n 0 (by omega)
  rw [lp_f_0] at this
  exact this
