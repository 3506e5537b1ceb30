/-! ===== the reference's search ===== -/
theorem pI_mono {w : Nat → Nat → Nat → Prop} {k b : Nat} : ∀ (n a d : Nat), pI w k n a b d → pI w (k + 1) n a b d
  | 0, _, _, h => h
  | n + 1, a, d, ⟨c, e, hw, he, h⟩ => ⟨c, e, hw, he, h.imp (fun z => ⟨by omega, pI_mono n c (d - e) z.2⟩) id⟩
theorem pE_mono {w : Nat → Nat → Nat → Prop} {k a b d : Nat} (h : pE w k a b d) : pE w (k + 1) a b d := by
  obtain ⟨n, hn⟩ := h
  exact ⟨n, pI_mono n a d hn⟩
def fw_I (w : Nat → Nat → Nat → Prop) (n : Nat) (D : Nat → Nat → Int) (L : Nat → Nat → Nat) : Prop := ∀ c d, c < n → d < n → (D c d = 100000000 ∨ ∃ e : Nat, D c d = e ∧ e < 100000000 ∧ ds_go w c d e) ∧ ∀ e : Nat, pE w (L c d) c d e → D c d ≤ e
def fw_L (k a b : Nat) (c d : Nat) : Nat := if c < a ∨ (c = a ∧ d < b) then k + 1 else k
theorem fw_step {w : Nat → Nat → Nat → Prop} {n k a b : Nat} {D G : Nat → Nat → Int} (h : fw_I w n D (fw_L k a b)) (hk : k < n) (ha : a < n) (hb : b < n) (g1 : ∀ c d, c < n → d < n → ¬ (c = a ∧ d = b) → G c d = D c d) (g2 : G a b = min (D a b) (D a k + D k b)) : fw_I w n G (fw_L k a (b + 1)) := by
  have le : ∀ c d, c < n → d < n → ∀ e : Nat, pE w k c d e → D c d ≤ e := by
    intro c d hc hd e he
    refine (h c d hc hd).2 e ?_
    unfold fw_L
    by_cases q : c < a ∨ (c = a ∧ d < b)
    · rw [if_pos q]
      exact pE_mono he
    · rw [if_neg q]
      exact he
  have pos : ∀ c d, c < n → d < n → 0 ≤ D c d ∧ D c d ≤ 100000000 := by
    intro c d hc hd
    rcases (h c d hc hd).1 with q | ⟨e, q1, q2, -⟩ <;> omega
  intro c d hc hd
  by_cases q : c = a ∧ d = b
  · obtain ⟨rfl, rfl⟩ := q
    have p1 := pos c k hc hk
    have p2 := pos k d hk hd
    have p3 := pos c d hc hd
    rw [g2]
    refine ⟨?_, fun e he => ?_⟩
    · by_cases z : D c d ≤ D c k + D k d
      · rw [show min (D c d) (D c k + D k d) = D c d by omega]
        exact (h c d hc hd).1
      · rw [show min (D c d) (D c k + D k d) = D c k + D k d by omega]
        rcases (h c k hc hk).1 with q | ⟨e1, q1, q2, q3⟩
        · omega
        · rcases (h k d hk hd).1 with y | ⟨e2, y1, y2, y3⟩
          · omega
          · exact Or.inr ⟨e1 + e2, by omega, by omega, ds_trans q3 y3⟩
    · unfold fw_L at he
      rw [if_pos (Or.inr ⟨rfl, by omega⟩)] at he
      obtain ⟨l, hl⟩ := he
      rcases pE_split l c e hl with y | ⟨d1, d2, y1, y2, y3⟩
      · have := le c d hc hd e y
        omega
      · have t1 := le c k hc hk d1 y2
        have t2 := le k d hk hd d2 y3
        omega
  · rw [g1 c d hc hd q]
    have : fw_L k a (b + 1) c d = fw_L k a b c d := by
      unfold fw_L
      by_cases z : c < a ∨ (c = a ∧ d < b)
      · rw [if_pos z, if_pos (by omega)]
      · rw [if_neg z, if_neg (by omega)]
    rw [this]
    exact h c d hc hd
theorem fw_cong {w : Nat → Nat → Nat → Prop} {n : Nat} {D : Nat → Nat → Int} {L L' : Nat → Nat → Nat} (h : fw_I w n D L) (e : ∀ c d, c < n → d < n → L c d = L' c d) : fw_I w n D L' := fun c d hc hd => by
  rw [← e c d hc hd]
  exact h c d hc hd
theorem fw_end {w : Nat → Nat → Nat → Prop} {n : Nat} {D : Nat → Nat → Int} (h : fw_I w n D (fun _ _ => n)) (hw : ∀ a c e, w a c e → c < n) {a b : Nat} (ha : a < n) (hb : b < n) (hl : ds_far w a b ≤ 20000) : D a b = if ds_far w a b = -1 then 100000000 else ds_far w a b := by
  obtain ⟨h1, h2⟩ := h a b ha hb
  have h2 : ∀ e : Nat, ds_go w a b e → D a b ≤ e := fun e he => by
    obtain ⟨l, hl⟩ := he
    exact h2 e (pE_all hw l a e hl)
  rcases ds_far_is w a b with ⟨q, z⟩ | ⟨d, q, z1, z2⟩
  · rw [if_pos q]
    rcases h1 with y | ⟨e, -, -, y⟩
    · exact y
    · exact absurd y (z e)
  · rw [if_neg (by omega)]
    have := h2 d z1
    rcases h1 with y | ⟨e, y1, y2, y3⟩
    · omega
    · have := z2 e y3
      omega
/-- nothing but the reference's far has changed -/
def wy_M (m M : ab_M) : Prop := (∀ p, p ≠ 52 → M.1 p = m.1 p) ∧ ∀ p, M.2 p = m.2 p
theorem wy_M.wr {m M : ab_M} (h : wy_M m M) (i : Nat) (x : Int32) : wy_M m (ab_wr M 52 i x) := ⟨fun p hp => (ab_wr_n _ _ _ hp).trans (h.1 p hp), h.2⟩
theorem wy_M.rd {m M : ab_M} (h : wy_M m M) {p : Nat} (hp : p ≠ 52) : ab_rd M p = ab_rd m p := h.1 p hp
theorem wy_M.sk {m M : ab_M} (h : wy_M m M) : iv_sk m M := ⟨fun p _ c => h.1 p (fun e => c (by rw [e]; decide)), h.2, fun j _ => by rw [h.1 8 (by decide)]⟩
theorem ct_M_ways {Z : ab_Z} (hZ : ab_okZ Z) {m : ab_M} {n : Nat} (hP : iv_P m n) : ab_K Z 1 106 [.inl (.ref 8)] m (fun r m9 => r = none ∧ wy_M m m9 ∧ ∀ a b, a < n → b < n → (ab_rd m9 52 (20 * a + b)).toInt = if ds_far (iv_w m n) a b = -1 then 100000000 else ds_far (iv_w m n) a b) := by
  have hbd := fun a b ha hb => ct_bound hZ (a := a) (b := b) hP ha hb
  obtain ⟨g1, g2, g3, g4, g5, g6, g7, g8, g9⟩ := hP
  have e8 : (100000000 : Int32).toInt = 100000000 := rfl
  have hwn : ∀ a c e, iv_w m n a c e → c < n := fun a c e h => h.2.1
  have cnt : ∀ M, wy_M m M → ab_rd M 8 3 = nI n := fun M hM => by rw [← g3]; exact congrFun (hM.1 _ (by decide)) _
  have ix : ∀ a b, a < n → b < n → vp_in (20 * nI a + nI b) 400 ∧ (20 * nI a + nI b).toNatClampNeg = 20 * a + b := fun a b ha hb => by
    rw [nI_20 (by omega) (by omega)]
    exact ⟨ab_in (by omega) (by decide), ab_cl (by omega)⟩
  have up : ∀ (M : ab_M) (a b : Nat) (x : Int32), ∀ c d, c < n → d < n → ab_rd (ab_wr M 52 (20 * a + b) x) 52 (20 * c + d) = if 20 * c + d = 20 * a + b then x else ab_rd M 52 (20 * c + d) := fun M a b x c d _ _ => ab_rd_p _ _ _ _ _
  -- the second loops
  have l85 : ∀ (f b k a : Nat) (M : ab_M) (P : Option Int32 → ab_M → Prop), b + f = n → k < n → a < n → wy_M m M → fw_I (iv_w m n) n (fun c d => (ab_rd M 52 (20 * c + d)).toInt) (fw_L k a b) → (∀ M', wy_M m M' → fw_I (iv_w m n) n (fun c d => (ab_rd M' 52 (20 * c + d)).toInt) (fw_L k (a + 1) 0) → ab_T Z 106 1 (75, [(0, .inl (.ref 8)), (1, .inl (.int (nI k))), (2, .inl (.int (nI (a + 1))))], [], M') P) → ab_T Z 106 1 (85, [(0, .inl (.ref 8)), (1, .inl (.int (nI k))), (2, .inl (.int (nI a))), (3, .inl (.int (nI b)))], [], M) P := by
    intro f
    induction f with
    | zero =>
      intro b k a M P hb hk ha hM hI fin
      have hb : b = n := by omega
      subst hb
      refine tk_M_ways_85_1 (by rw [cnt M hM]; exact Int32.le_refl _) ?_
      rw [nI_1]
      refine fin M hM (fw_cong hI (fun c d hc hd => ?_))
      unfold fw_L
      by_cases z : c < a ∨ (c = a ∧ d < b)
      · rw [if_pos z, if_pos (by omega)]
      · rw [if_neg z, if_neg (by omega)]
    | succ f ih =>
      intro b k a M P hb hk ha hM hI fin
      have hb' : b < n := by omega
      have i1 := ix a b ha hb'
      have i2 := ix a k ha hk
      have i3 := ix k b hk hb'
      have hlt : ¬ ab_rd M 8 3 ≤ nI b := by rw [cnt M hM]; exact nI_ge (by omega) (by omega)
      refine tk_M_ways_85_0 hlt i1.1 i2.1 i3.1 ⟨(by decide : 0 < 1), ct_J_min hZ _ _ M⟩ i1.1 ?_
      rw [i1.2, i2.2, i3.2, nI_1]
      have pos : ∀ c d, c < n → d < n → 0 ≤ (ab_rd M 52 (20 * c + d)).toInt ∧ (ab_rd M 52 (20 * c + d)).toInt ≤ 100000000 := by
        intro c d hc hd
        rcases (hI c d hc hd).1 with q | ⟨e, q1, q2, -⟩
        · have q : (ab_rd M 52 (20 * c + d)).toInt = 100000000 := q
          omega
        · have q1 : (ab_rd M 52 (20 * c + d)).toInt = (e : Int) := q1
          omega
      have p1 := pos a k ha hk
      have p2 := pos k b hk hb'
      refine ih (b + 1) k a _ P (by omega) hk ha (hM.wr _ _) (fw_step hI hk ha hb' (fun c d hc hd hne => ?_) ?_) fin
      · show (ab_rd (ab_wr M 52 (20 * a + b) _) 52 (20 * c + d)).toInt = (ab_rd M 52 (20 * c + d)).toInt
        rw [up M a b _ c d hc hd, if_neg (by omega)]
      · show (ab_rd (ab_wr M 52 (20 * a + b) _) 52 (20 * a + b)).toInt = min (ab_rd M 52 (20 * a + b)).toInt ((ab_rd M 52 (20 * a + k)).toInt + (ab_rd M 52 (20 * k + b)).toInt)
        rw [ab_rd_s, ab_min_I, ab_addI (by omega) (by omega)]
  have l75 : ∀ (f a k : Nat) (M : ab_M) (P : Option Int32 → ab_M → Prop), a + f = n → k < n → wy_M m M → fw_I (iv_w m n) n (fun c d => (ab_rd M 52 (20 * c + d)).toInt) (fw_L k a 0) → (∀ M', wy_M m M' → fw_I (iv_w m n) n (fun c d => (ab_rd M' 52 (20 * c + d)).toInt) (fun _ _ => k + 1) → ab_T Z 106 1 (65, [(0, .inl (.ref 8)), (1, .inl (.int (nI (k + 1))))], [], M') P) → ab_T Z 106 1 (75, [(0, .inl (.ref 8)), (1, .inl (.int (nI k))), (2, .inl (.int (nI a)))], [], M) P := by
    intro f
    induction f with
    | zero =>
      intro a k M P ha hk hM hI fin
      have ha : a = n := by omega
      subst ha
      refine tk_M_ways_75_1 (by rw [cnt M hM]; exact Int32.le_refl _) ?_
      rw [nI_1]
      refine fin M hM (fw_cong hI (fun c d hc hd => ?_))
      unfold fw_L
      rw [if_pos (Or.inl hc)]
    | succ f ih =>
      intro a k M P ha hk hM hI fin
      have hlt : ¬ ab_rd M 8 3 ≤ nI a := by rw [cnt M hM]; exact nI_ge (by omega) (by omega)
      exact tk_M_ways_75_0 hlt (l85 n 0 k a M P (by omega) hk (by omega) hM hI (fun M' hM' hI' => ih (a + 1) k M' P (by omega) hk hM' hI' fin))
  have l65 : ∀ (f k : Nat) (M : ab_M), k + f = n → wy_M m M → fw_I (iv_w m n) n (fun c d => (ab_rd M 52 (20 * c + d)).toInt) (fun _ _ => k) → ab_T Z 106 1 (65, [(0, .inl (.ref 8)), (1, .inl (.int (nI k)))], [], M) (fun r m9 => r = none ∧ wy_M m m9 ∧ ∀ a b, a < n → b < n → (ab_rd m9 52 (20 * a + b)).toInt = if ds_far (iv_w m n) a b = -1 then 100000000 else ds_far (iv_w m n) a b) := by
    intro f
    induction f with
    | zero =>
      intro k M hk hM hI
      have hk : k = n := by omega
      subst hk
      exact tk_M_ways_65_1 (by rw [cnt M hM]; exact Int32.le_refl _) ⟨rfl, hM, fun a b ha hb => fw_end hI hwn ha hb (hbd a b ha hb)⟩
    | succ f ih =>
      intro k M hk hM hI
      have hlt : ¬ ab_rd M 8 3 ≤ nI k := by rw [cnt M hM]; exact nI_ge (by omega) (by omega)
      refine tk_M_ways_65_0 hlt (l75 n 0 k M _ (by omega) (by omega) hM (fw_cong hI (fun c d _ _ => ?_)) (fun M' hM' hI' => ih (k + 1) M' (by omega) hM' hI'))
      unfold fw_L
      rw [if_neg (by omega)]
  -- the first ones
  have l12 : ∀ (f b a : Nat) (M : ab_M) (P : Option Int32 → ab_M → Prop), b + f = n → a < n → wy_M m M → (∀ c d, c < n → d < n → (c < a ∨ (c = a ∧ d < b)) → ab_rd M 52 (20 * c + d) = if c = d then 0 else ab_rd m 51 (20 * c + d)) → (∀ M', wy_M m M' → (∀ c d, c < n → d < n → c < a + 1 → ab_rd M' 52 (20 * c + d) = if c = d then 0 else ab_rd m 51 (20 * c + d)) → ab_T Z 106 1 (2, [(0, .inl (.ref 8)), (1, .inl (.int (nI (a + 1))))], [], M') P) → ab_T Z 106 1 (12, [(0, .inl (.ref 8)), (1, .inl (.int (nI a))), (2, .inl (.int (nI b)))], [], M) P := by
    intro f
    induction f with
    | zero =>
      intro b a M P hb ha hM hI fin
      have hb : b = n := by omega
      subst hb
      refine tk_M_ways_12_2 (by rw [cnt M hM]; exact Int32.le_refl _) ?_
      rw [nI_1]
      exact fin M hM (fun c d hc hd h => hI c d hc hd (by omega))
    | succ f ih =>
      intro b a M P hb ha hM hI fin
      have hb' : b < n := by omega
      have i1 := ix a b ha hb'
      have hlt : ¬ ab_rd M 8 3 ≤ nI b := by rw [cnt M hM]; exact nI_ge (by omega) (by omega)
      by_cases q : a = b
      · refine tk_M_ways_12_0 hlt (by rw [q]) i1.1 ?_
        rw [i1.2, nI_1]
        refine ih (b + 1) a _ P (by omega) ha (hM.wr _ _) (fun c d hc hd h => ?_) fin
        rw [up M a b _ c d hc hd]
        by_cases z : 20 * c + d = 20 * a + b
        · rw [if_pos z, if_pos (by omega)]
        · rw [if_neg z]
          exact hI c d hc hd (by omega)
      · refine tk_M_ways_12_1 hlt (fun z => q ((nI_eq (by omega) (by omega)).mp z)) i1.1 i1.1 ?_
        rw [i1.2, nI_1]
        refine ih (b + 1) a _ P (by omega) ha (hM.wr _ _) (fun c d hc hd h => ?_) fin
        rw [up M a b _ c d hc hd]
        by_cases z : 20 * c + d = 20 * a + b
        · rw [if_pos z, if_neg (by omega), z]
          exact congrFun (hM.1 _ (by decide)) _
        · rw [if_neg z]
          exact hI c d hc hd (by omega)
  have l2 : ∀ (f a : Nat) (M : ab_M) (P : Option Int32 → ab_M → Prop), a + f = n → wy_M m M → (∀ c d, c < n → d < n → c < a → ab_rd M 52 (20 * c + d) = if c = d then 0 else ab_rd m 51 (20 * c + d)) → (∀ M', wy_M m M' → (∀ c d, c < n → d < n → ab_rd M' 52 (20 * c + d) = if c = d then 0 else ab_rd m 51 (20 * c + d)) → ab_T Z 106 1 (65, [(0, .inl (.ref 8)), (1, .inl (.int (nI 0)))], [], M') P) → ab_T Z 106 1 (2, [(0, .inl (.ref 8)), (1, .inl (.int (nI a)))], [], M) P := by
    intro f
    induction f with
    | zero =>
      intro a M P ha hM hI fin
      have ha : a = n := by omega
      subst ha
      exact tk_M_ways_2_1 (by rw [cnt M hM]; exact Int32.le_refl _) (fin M hM (fun c d hc hd => hI c d hc hd hc))
    | succ f ih =>
      intro a M P ha hM hI fin
      have hlt : ¬ ab_rd M 8 3 ≤ nI a := by rw [cnt M hM]; exact nI_ge (by omega) (by omega)
      exact tk_M_ways_2_0 hlt (l12 n 0 a M P (by omega) (by omega) hM (fun c d hc hd h => hI c d hc hd (by omega)) (fun M' hM' hI' => ih (a + 1) M' P (by omega) hM' (fun c d hc hd h => hI' c d hc hd h) fin))
  refine ab_Ki hZ (tk_M_ways_0_0 (l2 n 0 m _ (by omega) ⟨fun _ _ => rfl, fun _ => rfl⟩ (fun c d hc hd h => by omega) (fun M' hM' hI' => l65 n 0 M' (by omega) hM' (fun c d hc hd => ?_)))) (fun r m1 h => by rw [h.1]; trivial) (by decide) (Nat.le_of_ble_eq_true rfl)
  show ((ab_rd M' 52 (20 * c + d)).toInt = 100000000 ∨ ∃ e : Nat, (ab_rd M' 52 (20 * c + d)).toInt = e ∧ e < 100000000 ∧ ds_go (iv_w m n) c d e) ∧ ∀ e : Nat, pE (iv_w m n) 0 c d e → (ab_rd M' 52 (20 * c + d)).toInt ≤ e
  rw [hI' c d hc hd]
  by_cases q : c = d
  · rw [if_pos q, q]
    exact ⟨Or.inr ⟨0, rfl, by decide, ds_nil _ _⟩, fun e _ => by rw [ab_t0]; omega⟩
  · rw [if_neg q]
    have one : ∀ e, pE (iv_w m n) 0 c d e → iv_w m n c d e := by
      rintro e ⟨l, hl⟩
      cases l with
      | zero => exact absurd hl.1 q
      | succ l =>
        obtain ⟨x, y, h1, h2, h3⟩ := hl
        rcases h3 with ⟨h3, -⟩ | ⟨h3, h4⟩
        · omega
        · rw [← h3, h4]
          exact h1
    rcases g4 c d hc hd with ⟨z1, z2⟩ | ⟨e, z1, z2, z3, z4⟩
    · rw [z2, e8]
      refine ⟨Or.inl rfl, fun e he => ?_⟩
      have h3 := (one e he).2.2.1
      have h4 := (one e he).2.2.2
      rw [z1] at h3
      have h3 := h3.symm
      rw [ab_eqI, nI_toInt (by omega), ab_m1] at h3
      omega
    · rw [z4, nI_toInt (by omega)]
      refine ⟨Or.inr ⟨e, rfl, by omega, ds_edge ⟨hc, hd, z3, z1, z2⟩⟩, fun e' he => ?_⟩
      have h3 := (one e' he).2.2.1
      have h4 := (one e' he).2.2.2
      rw [z3] at h3
      have := (nI_eq (by omega) (by omega)).mp h3
      omega
