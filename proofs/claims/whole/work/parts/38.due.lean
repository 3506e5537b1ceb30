/-! ===== due ===== -/
/-- KEEPING of a kind: its own, or of the first above it that has one -/
def kp_of (up kp : Nat → Int32) : Nat → Nat → Int32
  | 0, _ => 30
  | n + 1, k => if kp k = -1 then (if up k < 0 then 30 else kp_of up kp n (up k).toNatClampNeg) else kp k
theorem kp_fuel {up kp : Nat → Int32} {n : Nat} (h : kd_ok up n) (hn : n ≤ 2 ^ 30) : ∀ (k f g : Nat), k < n → k < f → k < g → kp_of up kp f k = kp_of up kp g k := by
  intro k
  induction k using Nat.strongRecOn with
  | ind k ih =>
    intro f g hk hf hg
    obtain ⟨f, rfl⟩ : ∃ z, f = z + 1 := ⟨f - 1, by omega⟩
    obtain ⟨g, rfl⟩ : ∃ z, g = z + 1 := ⟨g - 1, by omega⟩
    unfold kp_of
    by_cases e : kp k = -1
    · rw [if_pos e, if_pos e]
      rcases kd_cases h hk hn with ⟨h1, -⟩ | ⟨h1, j, hj, -, h2⟩
      · rw [if_pos h1, if_pos h1]
      · rw [if_neg h1, if_neg h1, h2, ih j hj f g (by omega) (by omega) (by omega)]
    · rw [if_neg e, if_neg e]
/-- one step of it -/
theorem kp_step {up kp : Nat → Int32} {n k : Nat} (h : kd_ok up n) (hn : n ≤ 40) (hk : k < n) : kp_of up kp 41 k = if kp k = -1 then (if up k < 0 then 30 else kp_of up kp 41 (up k).toNatClampNeg) else kp k := by
  show (if kp k = -1 then (if up k < 0 then 30 else kp_of up kp 40 (up k).toNatClampNeg) else kp k) = _
  by_cases e : kp k = -1
  · rw [if_pos e, if_pos e]
    rcases kd_cases h hk (by omega) with ⟨h1, -⟩ | ⟨h1, j, hj, -, h2⟩
    · rw [if_pos h1, if_pos h1]
    · rw [if_neg h1, if_neg h1, h2, kp_fuel h (by omega) j 40 41 (by omega) (by omega) (by omega)]
  · rw [if_neg e, if_neg e]
theorem ct_Kinds_keepingOf {Z : ab_Z} (hZ : ab_okZ Z) {k n : Nat} {m : ab_M} (hn : n ≤ 40) (hk : k < n) (hc : ab_rd m 1 3 = nI n) (hok : kd_ok (ab_rd m 12) n) : ab_C Z 1 15 [.inl (.ref 1), .inl (.int (nI k))] m (some (kp_of (ab_rd m 12) (ab_rd m 14) 41 k)) m := by
  have hcI : (ab_rd m 1 3).toInt = n := iv_toI hc (by omega)
  have e40 : (40 : Int32) = nI 40 := rfl
  have lp : ∀ (x1 : Int32) (k s : Nat), k < n → k + s < 40 → ab_T Z 15 1 (4, [(0, .inl (.ref 1)), (1, .inl (.int x1)), (2, .inl (.int (nI k))), (3, .inl (.int (nI s)))], [], m) (fun r m9 => r = some (kp_of (ab_rd m 12) (ab_rd m 14) 41 k) ∧ m9 = m) := by
    intro x1 k
    induction k using Nat.strongRecOn with
    | ind k ih =>
      intro s hk hs
      have hst : ¬ (40 : Int32) ≤ nI s := by rw [e40]; exact nI_ge (by omega) (by omega)
      have hhas : ¬ ab_b (0 ≤ (nI k).toInt ∧ (nI k).toInt < (ab_rd m 1 3).toInt) = 0 := ab_b_n.mpr (by rw [hcI, nI_toInt (by omega)]; omega)
      have hin := ab_in (n := k) (N := 40) (by omega) (by decide)
      have hck := ab_cl (n := k) (by omega)
      rw [kp_step hok hn hk]
      by_cases e : ab_rd m 14 k = -1
      · rw [if_pos e]
        refine tk_Kinds_keepingOf_4_1 hst ⟨(by decide : 0 < 1), ct_Kinds_has hZ _ m⟩ hhas hin (by rw [hck]; exact e) hin ?_
        rw [hck, nI_1]
        rcases kd_cases hok hk (by omega) with ⟨h1, -, h3⟩ | ⟨h1, j, hj, h3, h2⟩
        · rw [if_pos h1, h3]
          by_cases q : s + 1 = 40
          · exact tk_Kinds_keepingOf_4_3 (by rw [e40, q]; exact Int32.le_refl _) ⟨rfl, rfl⟩
          · exact tk_Kinds_keepingOf_4_2 (by rw [e40]; exact nI_ge (by omega) (by omega)) ⟨(by decide : 0 < 1), ct_Kinds_has hZ _ m⟩ (ab_b_0.mpr (by rw [ab_m1]; omega)) ⟨rfl, rfl⟩
        · rw [if_neg h1, h2, h3]
          exact ih j hj (s + 1) (by omega) (by omega)
      · rw [if_neg e]
        exact tk_Kinds_keepingOf_4_0 hst ⟨(by decide : 0 < 1), ct_Kinds_has hZ _ m⟩ hhas hin (by rw [hck]; exact e) hin ⟨by rw [hck], rfl⟩
  exact ab_Kc hZ (tk_Kinds_keepingOf_0_0 (lp (nI k) k 0 hk (by omega))) trivial (by decide) (Nat.le_of_ble_eq_true rfl)
/-- DUE of a bag: over the first i finds -/
def du_of (bg kn tk up kp : Nat → Int32) (b : Int32) : Nat → Int32
  | 0 => 0
  | i + 1 => if bg i = b then ab_max (du_of bg kn tk up kp b i) (tk i + 24 * kp_of up kp 41 (kn i).toNatClampNeg) else du_of bg kn tk up kp b i
theorem du_s (bg kn tk up kp : Nat → Int32) (b : Int32) (i : Nat) : du_of bg kn tk up kp b (i + 1) = if bg i = b then ab_max (du_of bg kn tk up kp b i) (tk i + 24 * kp_of up kp 41 (kn i).toNatClampNeg) else du_of bg kn tk up kp b i := rfl
theorem du_low {bg kn tk up kp : Nat → Int32} {b : Int32} : ∀ (i : Nat), (∀ j, j < i → ¬ bg j = b) → du_of bg kn tk up kp b i = 0
  | 0, _ => rfl
  | i + 1, h => by
    unfold du_of
    rw [if_neg (h i (by omega)), du_low i (fun j hj => h j (by omega))]
theorem ct_D_bagDue {Z : ab_Z} (hZ : ab_okZ Z) {b n nK : Nat} {m : ab_M} (hn : n ≤ 24) (hb : b ≤ n) (hc : ab_rd m 4 8 = nI n) (hK : nK ≤ 40) (hcK : ab_rd m 1 3 = nI nK) (hok : kd_ok (ab_rd m 12) nK) (hkn : ∀ f, f < n → ∃ k, k < nK ∧ ab_rd m 19 f = nI k) (hlow : ∀ j, j < b → ¬ ab_rd m 26 j = nI b) : ab_C Z 2 91 [.inl (.ref 0), .inl (.int (nI b))] m (some (du_of (ab_rd m 26) (ab_rd m 19) (ab_rd m 23) (ab_rd m 12) (ab_rd m 14) (nI b) n)) m := by
  have lp : ∀ (k i : Nat), i + k = n → ab_T Z 91 2 (4, [(0, .inl (.ref 0)), (1, .inl (.int (nI b))), (2, .inl (.int (du_of (ab_rd m 26) (ab_rd m 19) (ab_rd m 23) (ab_rd m 12) (ab_rd m 14) (nI b) i))), (3, .inl (.int (nI i)))], [], m) (fun r m9 => r = some (du_of (ab_rd m 26) (ab_rd m 19) (ab_rd m 23) (ab_rd m 12) (ab_rd m 14) (nI b) n) ∧ m9 = m) := by
    intro k
    induction k with
    | zero =>
      intro i hi
      have hi : i = n := by omega
      subst hi
      exact tk_D_bagDue_4_2 (by rw [hc]; exact nI_le (Nat.le_refl _) (by omega)) ⟨rfl, rfl⟩
    | succ k ih =>
      intro i hi
      have hlt : ¬ ab_rd m 4 8 ≤ nI i := by rw [hc]; exact nI_ge (by omega) (by omega)
      have hin := ab_in (n := i) (N := 24) (by omega) (by decide)
      have hci := ab_cl (n := i) (by omega)
      have hih := ih (i + 1) (by omega)
      rw [du_s] at hih
      by_cases e : ab_rd m 26 i = nI b
      · rw [if_pos e] at hih
        obtain ⟨q, hq, eq⟩ := hkn i (by omega)
        have hkq := ct_Kinds_keepingOf hZ (k := q) (m := m) hK hq hcK hok
        refine tk_D_bagDue_4_0 hlt hin (by rw [hci]; exact e) hin ⟨(by decide : 1 < 2), by rw [hci, eq]; exact hkq⟩ hin ⟨(by decide : 0 < 2), ct_J_max hZ _ _ m⟩ ?_
        rw [eq, ab_cl (by omega)] at hih
        rw [hci, nI_1]
        exact hih
      · rw [if_neg e] at hih
        refine tk_D_bagDue_4_1 hlt hin (by rw [hci]; exact e) ?_
        rw [nI_1]
        exact hih
  refine ab_Kc hZ (tk_D_bagDue_0_0 ?_) trivial (by decide) (Nat.le_of_ble_eq_true rfl)
  have := lp (n - b) b (by omega)
  rw [du_low b hlow] at this
  exact this
theorem ct_M_dueOf {Z : ab_Z} (hZ : ab_okZ Z) {f n nK : Nat} {m : ab_M} (hf : f < 24) (hn : n ≤ 24) (hc : ab_rd m 8 4 = nI n) (hK : nK ≤ 40) (hok : kd_ok (ab_rd m 48) nK) (hkp : ∀ k, k < nK → ab_rd m 49 k = -1 ∨ (1 ≤ (ab_rd m 49 k).toInt ∧ (ab_rd m 49 k).toInt ≤ 1000)) (hkn : ∀ f, f < n → ∃ k, k < nK ∧ ab_rd m 53 f = nI k) : ab_C Z 2 135 [.inl (.ref 8), .inl (.int (nI f))] m (some (du_of (ab_rd m 60) (ab_rd m 53) (ab_rd m 57) (ab_rd m 48) (ab_rd m 49) (ab_rd m 60 f) n)) m := by
  have hif := ab_in (N := 24) hf (by decide)
  have hcf := ab_cl (n := f) (by omega)
  have lp : ∀ (k i : Nat), i + k = n → ab_T Z 135 2 (4, [(0, .inl (.ref 8)), (1, .inl (.int (nI f))), (2, .inl (.int (du_of (ab_rd m 60) (ab_rd m 53) (ab_rd m 57) (ab_rd m 48) (ab_rd m 49) (ab_rd m 60 f) i))), (3, .inl (.int (nI i)))], [], m) (fun r m9 => r = some (du_of (ab_rd m 60) (ab_rd m 53) (ab_rd m 57) (ab_rd m 48) (ab_rd m 49) (ab_rd m 60 f) n) ∧ m9 = m) := by
    intro k
    induction k with
    | zero =>
      intro i hi
      have hi : i = n := by omega
      subst hi
      exact tk_M_dueOf_4_2 (by rw [hc]; exact nI_le (Nat.le_refl _) (by omega)) ⟨rfl, rfl⟩
    | succ k ih =>
      intro i hi
      have hlt : ¬ ab_rd m 8 4 ≤ nI i := by rw [hc]; exact nI_ge (by omega) (by omega)
      have hin := ab_in (n := i) (N := 24) (by omega) (by decide)
      have hci := ab_cl (n := i) (by omega)
      have hih := ih (i + 1) (by omega)
      rw [du_s] at hih
      by_cases e : ab_rd m 60 i = ab_rd m 60 f
      · rw [if_pos e] at hih
        obtain ⟨q, hq, eq⟩ := hkn i (by omega)
        rw [eq, ab_cl (by omega)] at hih
        refine tk_M_dueOf_4_1 hlt hin hif (by rw [hci, hcf]; exact e) hin ?_
        rw [hci, eq]
        have inner : ∀ q, q < nK → (∀ v, v = kp_of (ab_rd m 48) (ab_rd m 49) 41 q → ab_T Z 135 2 (4, [(0, .inl (.ref 8)), (1, .inl (.int (nI f))), (2, .inl (.int (ab_max (du_of (ab_rd m 60) (ab_rd m 53) (ab_rd m 57) (ab_rd m 48) (ab_rd m 49) (ab_rd m 60 f) i) (ab_rd m 57 i + 24 * v)))), (3, .inl (.int (nI (i + 1))))], [], m) (fun r m9 => r = some (du_of (ab_rd m 60) (ab_rd m 53) (ab_rd m 57) (ab_rd m 48) (ab_rd m 49) (ab_rd m 60 f) n) ∧ m9 = m)) → ab_T Z 135 2 (38, [(0, .inl (.ref 8)), (1, .inl (.int (nI f))), (2, .inl (.int (du_of (ab_rd m 60) (ab_rd m 53) (ab_rd m 57) (ab_rd m 48) (ab_rd m 49) (ab_rd m 60 f) i))), (3, .inl (.int (nI i))), (4, .inl (.int (nI q)))], [], m) (fun r m9 => r = some (du_of (ab_rd m 60) (ab_rd m 53) (ab_rd m 57) (ab_rd m 48) (ab_rd m 49) (ab_rd m 60 f) n) ∧ m9 = m) := by
          intro q
          induction q using Nat.strongRecOn with
          | ind q ihq =>
            intro hq hv
            have hiq := ab_in (n := q) (N := 40) (by omega) (by decide)
            have hcq := ab_cl (n := q) (by omega)
            have hst := kp_step (kp := ab_rd m 49) hok hK hq
            rcases hkp q hq with e1 | ⟨e1, e2⟩
            · rw [if_pos e1] at hst
              refine tk_M_dueOf_38_0 (nI_pos (by omega)) hiq (by rw [hcq, e1]; decide) hiq ?_
              rw [hcq]
              rcases kd_cases hok hq (by omega) with ⟨h1, -, h3⟩ | ⟨h1, j, hj, h3, h2⟩
              · rw [if_pos h1] at hst
                rw [h3]
                refine tk_M_dueOf_38_3 (by decide) hin (by decide) ⟨(by decide : 0 < 2), ct_J_max hZ _ _ m⟩ ?_
                rw [hci, nI_1]
                exact hv 30 hst.symm
              · rw [if_neg h1, h2] at hst
                rw [h3]
                exact ihq j hj (by omega) (fun v hvv => hv v (by rw [hst]; exact hvv))
            · have h0 : ¬ ab_rd m 49 q = -1 := fun z => by rw [z, ab_m1] at e1; omega
              rw [if_neg h0] at hst
              refine tk_M_dueOf_38_2 (nI_pos (by omega)) hiq (by rw [hcq, ab_leI, ab_t0]; omega) hin (nI_pos' (by omega)) hiq ⟨(by decide : 0 < 2), ct_J_max hZ _ _ m⟩ ?_
              rw [hci, hcq, nI_1]
              exact hv _ hst.symm
        exact inner q hq (fun v hv => by rw [hv]; exact hih)
      · rw [if_neg e] at hih
        refine tk_M_dueOf_4_0 hlt hin hif (by rw [hci, hcf]; exact e) ?_
        rw [nI_1]
        exact hih
  exact ab_Kc hZ (tk_M_dueOf_0_0 (lp n 0 (by omega))) trivial (by decide) (Nat.le_of_ble_eq_true rfl)
/-- the reads of one side are those of the other -/
theorem iv_due {m : ab_M} {nK nP nF : Nat} (hK : iv_K m nK) (hF : iv_F m nK nP nF) (b : Int32) (i : Nat) : du_of (ab_rd m 26) (ab_rd m 19) (ab_rd m 23) (ab_rd m 12) (ab_rd m 14) b i = du_of (ab_rd m 60) (ab_rd m 53) (ab_rd m 57) (ab_rd m 48) (ab_rd m 49) b i := by
  obtain ⟨-, -, -, k4, k5, -⟩ := hK
  obtain ⟨-, -, -, a1, -, -, -, a5, -, -, a8, -⟩ := hF
  rw [funext k4, funext k5, funext a1, funext a5, funext a8]
theorem op_due {Z : ab_Z} (hZ : ab_okZ Z) (x : Int32) {m : ab_M} (hI : iv_A m) : iv_Op Z 74 136 [.inl (.int x)] m := by
  have hI' := hI
  obtain ⟨nK, nP, nF, nL, nO, h⟩ := hI'
  have hK := h.1
  have hF := h.2.2.2.1
  obtain ⟨k1, k2, k3, k4, k5, k6, k7, -⟩ := id hK
  obtain ⟨g1, g2, g3, a1, a2, a3, a4, a5, a6, a7, a8, g⟩ := id hF
  have cD : (ab_rd m 4 8).toInt = nF := iv_toI g2 (by omega)
  have cM : (ab_rd m 8 4).toInt = nF := iv_toI g3 (by omega)
  by_cases hx : 0 ≤ x.toInt ∧ x.toInt < nF
  · have x1 : ¬ ab_b (0 ≤ x.toInt ∧ x.toInt < (ab_rd m 4 8).toInt) = 0 := ab_b_n.mpr (by rw [cD]; exact hx)
    have x2 : ¬ ab_b (0 ≤ x.toInt ∧ x.toInt < (ab_rd m 8 4).toInt) = 0 := ab_b_n.mpr (by rw [cM]; exact hx)
    obtain ⟨f, hf, rfl⟩ := iv_ix hx (by omega)
    have hif := ab_in (n := f) (N := 24) (by omega) (by decide)
    have hcf := ab_cl (n := f) (by omega)
    obtain ⟨-, -, -, -, -, -, b, hb, u1, u2, -⟩ := g f hf
    have hok : kd_ok (ab_rd m 12) nK := by rw [funext k4]; exact k6
    have hbd := ct_D_bagDue hZ (b := b) (m := m) g1 (by omega) g2 k1 k2 hok (fun j hj => by rw [a1]; exact (g j hj).1) (fun j hj q => by
      rw [a8] at q
      obtain ⟨-, -, -, -, -, -, c, hc, v1, -⟩ := g j (by omega)
      rw [v1, nI_eq (by omega) (by omega)] at q
      omega)
    rw [iv_due hK hF] at hbd
    have hD : ab_C Z 40 74 [.inl (.ref 0), .inl (.int (nI f))] m (some (du_of (ab_rd m 60) (ab_rd m 53) (ab_rd m 57) (ab_rd m 48) (ab_rd m 49) (nI b) nF)) (ab_wr m 0 11 0) := ab_Kc hZ (tk_D_due_0_1 ⟨by decide, ct_Finds_has hZ _ m⟩ x1 hif ⟨(by decide : 2 < 40), by rw [hcf, a8, u1]; exact hbd⟩ ⟨by decide, ct_D_answer hZ _ _⟩ ⟨rfl, rfl⟩) trivial (by decide) (Nat.le_of_ble_eq_true rfl)
    have hdo := ct_M_dueOf hZ (f := f) (m := iv_m0 (ab_wr m 0 11 0)) (by omega) g1 g3 k1 k6 k7 (fun j hj => (g j hj).1)
    refine ⟨_, _, _, hD, ab_Kc hZ (tk_M_due_0_0 ⟨by decide, ct_M_isFind hZ _ _⟩ x2 ⟨(by decide : 2 < 40), hdo⟩ ⟨?_, rfl⟩) trivial (by decide) (Nat.le_of_ble_eq_true rfl), iv_answered hI⟩
    have : ab_rd (iv_m0 (ab_wr m 0 11 0)) 60 f = nI b := u1
    rw [this]
    rfl
  · exact ⟨-1, _, _, ab_Kc hZ (tk_D_due_0_0 ⟨by decide, ct_Finds_has hZ x m⟩ (ab_b_0.mpr (by rw [cD]; exact hx)) ⟨by decide, ct_D_refuse hZ 1 _⟩ ⟨rfl, rfl⟩) trivial (by decide) (Nat.le_of_ble_eq_true rfl), ab_Kc hZ (tk_M_due_0_1 ⟨by decide, ct_M_isFind hZ x _⟩ (ab_b_0.mpr (show ¬ (0 ≤ x.toInt ∧ x.toInt < (ab_rd m 8 4).toInt) by rw [cM]; exact hx)) ⟨by decide, ct_M_refuse hZ 1 _⟩ ⟨rfl, rfl⟩) trivial (by decide) (Nat.le_of_ble_eq_true rfl), iv_refused hI 1⟩
