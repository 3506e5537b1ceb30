/-! ===== alike ===== -/
/-- nothing but what holds nothing between the calls has changed -/
def iv_sk (m m2 : ab_M) : Prop := (∀ p, p ≠ 8 → p ∉ iv_scr → m2.1 p = m.1 p) ∧ (∀ p, m2.2 p = m.2 p) ∧ ∀ j, j ∉ [33, 34, 46] → m2.1 8 j = m.1 8 j
theorem iv_sk.refl (m : ab_M) : iv_sk m m := ⟨fun _ _ _ => rfl, fun _ => rfl, fun _ _ => rfl⟩
theorem iv_sk.trans {m m1 m2 : ab_M} (h : iv_sk m m1) (g : iv_sk m1 m2) : iv_sk m m2 := ⟨fun p b c => (g.1 p b c).trans (h.1 p b c), fun p => (g.2.1 p).trans (h.2.1 p), fun j a => (g.2.2 j a).trans (h.2.2 j a)⟩
theorem iv_sk.m (m : ab_M) {i : Nat} (x : Int32) (hi : i ∈ [33, 34, 46]) : iv_sk m (ab_wr m 8 i x) := ⟨fun _ b _ => ab_wr_n m _ x b, fun _ => rfl, fun j a => by rw [ab_wr_p]; exact if_neg (fun (q : j = i) => a (by rw [q]; exact hi))⟩
theorem iv_sk.s (m : ab_M) {p : Nat} (i : Nat) (x : Int32) (hp : p ∈ iv_scr) (h8 : p ≠ 8) : iv_sk m (ab_wr m p i x) := ⟨fun q _ c => ab_wr_n m _ x (fun e => c (e ▸ hp)), fun _ => rfl, fun j _ => by rw [ab_wr_n m _ x (Ne.symm h8)]⟩
theorem iv_sk.lp (m : ab_M) {p : Nat} (a n : Nat) (g : Nat → Int32 → Int32) (hp : p ∈ iv_scr) (h8 : p ≠ 8) : iv_sk m (lp_f m p a n g) := ⟨fun q _ c => lp_f_n m a n g (fun e => c (e ▸ hp)), fun _ => rfl, fun j _ => by rw [lp_f_n m a n g (Ne.symm h8)]⟩
theorem iv_sk.sc {m m2 : ab_M} (h : iv_sk m m2) : iv_sc m m2 := ⟨fun p _ b c => h.1 p b c, h.2.1, fun j _ => by rw [h.1 0 (by decide) (by decide)], fun j a => h.2.2 j (fun q => a (by
  simp only [List.mem_cons, List.not_mem_nil, or_false] at q ⊢
  omega))⟩
theorem iv_sk.rd {m m2 : ab_M} (h : iv_sk m m2) {p : Nat} (h8 : p ≠ 8) (hp : p ∉ iv_scr) : ab_rd m2 p = ab_rd m p := h.1 p h8 hp
theorem iv_sk.rm {m m2 : ab_M} (h : iv_sk m m2) {j : Nat} (hj : j ∉ [33, 34, 46]) : ab_rd m2 8 j = ab_rd m 8 j := h.2.2 j hj
/-- a find that is kept, in line with another -/
abbrev kn_of (m : ab_M) (f g : Nat) : Prop := ab_rd m 58 g = 0 ∧ ¬ kd_st (ab_rd m 48) (ab_rd m 53 f).toNatClampNeg (ab_rd m 53 g).toNatClampNeg = none
theorem cn_lt {S : Nat → Prop} [DecidablePred S] {k : Nat} : ∀ {n : Nat}, k < n → S k → cn_of S k < cn_of S n
  | 0, h, _ => absurd h (by omega)
  | n + 1, h, hs => by
    rw [cn_s]
    by_cases e : k = n
    · subst e
      rw [if_pos hs]
      omega
    · have := cn_lt (S := S) (n := n) (by omega) hs
      omega
theorem kn_cong {m m2 : ab_M} (h : iv_sk m m2) (f : Nat) : kn_of m2 f = kn_of m f := by
  funext g
  unfold kn_of
  rw [h.rd (p := 58) (by decide) (by decide), h.rd (p := 48) (by decide) (by decide), h.rd (p := 53) (by decide) (by decide)]
theorem cn_list {S T : Nat → Prop} [DecidablePred S] [DecidablePred T] {U : Nat → Prop} [DecidablePred U] : ∀ {n : Nat}, (∀ g, g < n → S g → (U (cn_of S g) ↔ T g)) → cn_of U (cn_of S n) = cn_of (fun g => S g ∧ T g) n
  | 0, _ => rfl
  | n + 1, h => by
    have ih := cn_list (S := S) (T := T) (U := U) (n := n) (fun g hg => h g (by omega))
    rw [cn_s, cn_s]
    by_cases q : S n
    · rw [if_pos q, cn_s, ih]
      by_cases t : T n
      · rw [if_pos ((h n (by omega) q).mpr t), if_pos ⟨q, t⟩]
      · rw [if_neg (fun z => t ((h n (by omega) q).mp z)), if_neg (fun z => t z.2)]
    · rw [if_neg q, if_neg (fun z => q z.1), Nat.add_zero, ih, Nat.add_zero]
theorem ct_D_differingMarks {Z : ab_Z} (hZ : ab_okZ Z) {f g : Nat} (hf : f < 24) (hg : g < 24) (m : ab_M) : ab_C Z 0 88 [.inl (.ref 0), .inl (.int (nI f)), .inl (.int (nI g))] m (some (ab_rd m 21 f ^^^ ab_rd m 21 g)) m := by
  refine ab_Kc hZ (tk_D_differingMarks_0_0 (ab_in hf (by decide)) (ab_in hg (by decide)) ⟨?_, rfl⟩) trivial (by decide) (Nat.le_of_ble_eq_true rfl)
  rw [ab_cl (by omega), ab_cl (by omega)]
theorem ct_D_isKeptInLine {Z : ab_Z} (hZ : ab_okZ Z) {m : ab_M} {nK nP nF f g : Nat} (hK : iv_K m nK) (hF : iv_F m nK nP nF) (hf : f < nF) (hg : g < nF) : ab_C Z 2 89 [.inl (.ref 0), .inl (.int (nI f)), .inl (.int (nI g))] m (some (ab_b (kn_of m f g))) m := by
  obtain ⟨k1, k2, k3, k4, k5, k6, k7, k8⟩ := id hK
  obtain ⟨g1, g2, g3, a1, a2, a3, a4, a5, a6, a7, a8, gg⟩ := id hF
  have cg := ab_cl (n := g) (by omega)
  have cf := ab_cl (n := f) (by omega)
  obtain ⟨a, ha, ea⟩ := (gg f hf).1
  obtain ⟨b, hb, eb⟩ := (gg g hg).1
  have hst := ct_Kinds_steps hZ (m := m) k1 k6 k8 ha hb
  refine ab_Kc hZ ?_ (ab_b_zk _) (by decide) (Nat.le_of_ble_eq_true rfl)
  by_cases e : ab_rd m 24 g = 0
  · have e' : ab_rd m 58 g = 0 := by rw [← a6]; exact e
    by_cases q : kd_st (ab_rd m 48) a b = none
    · refine tk_D_isKeptInLine_0_1 ⟨(by decide : 0 < 2), ct_Finds_isKept hZ (by omega) m⟩ (ab_b_n.mpr e) (ab_in (by omega) (by decide)) (ab_in (by omega) (by decide)) ⟨(by decide : 1 < 2), by rw [cg, cf, a1, a1, ea, eb]; exact hst⟩ (by rw [q]; rfl) ⟨?_, rfl⟩
      rw [ab_b_f]
      rintro ⟨-, z⟩
      rw [ea, eb, ab_cl (by omega), ab_cl (by omega)] at z
      exact z q
    · refine tk_D_isKeptInLine_0_0 ⟨(by decide : 0 < 2), ct_Finds_isKept hZ (by omega) m⟩ (ab_b_n.mpr e) (ab_in (by omega) (by decide)) (ab_in (by omega) (by decide)) ⟨(by decide : 1 < 2), by rw [cg, cf, a1, a1, ea, eb]; exact hst⟩ (fun z => q ((kd_i_m1 (fun s hs => kd_st_lt hs)).mp z)) ⟨?_, rfl⟩
      rw [ab_b_t]
      refine ⟨e', ?_⟩
      rw [ea, eb, ab_cl (by omega), ab_cl (by omega)]
      exact q
  · refine tk_D_isKeptInLine_0_2 ⟨(by decide : 0 < 2), ct_Finds_isKept hZ (by omega) m⟩ (ab_b_0.mpr e) ⟨?_, rfl⟩
    rw [ab_b_f]
    rintro ⟨z, -⟩
    rw [a6] at e
    exact e z
theorem ct_M_areKin {Z : ab_Z} (hZ : ab_okZ Z) {m : ab_M} {nK f g a b : Nat} (hn : nK ≤ 40) (hok : kd_ok (ab_rd m 48) nK) (hf : f < 24) (hg : g < 24) (ha : a < nK) (hb : b < nK) (ea : ab_rd m 53 f = nI a) (eb : ab_rd m 53 g = nI b) : ab_C Z 1 126 [.inl (.ref 8), .inl (.int (nI f)), .inl (.int (nI g))] m (some (ab_b (¬ kd_st (ab_rd m 48) a b = none))) m := by
  have cg := ab_cl (n := g) (by omega)
  have cf := ab_cl (n := f) (by omega)
  have h1 := ct_M_below hZ (m := m) hn hok ha hb
  have h2 := ct_M_below hZ (m := m) hn hok hb ha
  refine ab_Kc hZ ?_ (ab_b_zk _) (by decide) (Nat.le_of_ble_eq_true rfl)
  cases e : kd_up (ab_rd m 48) 41 a b with
  | some s =>
    have hs := kd_up_lt b 41 a s e
    rw [e] at h1
    refine tk_M_areKin_0_2 (ab_in hf (by decide)) (ab_in hg (by decide)) ⟨(by decide : 0 < 1), by rw [cg, cf, ea, eb]; exact h1⟩ (nI_pos' (by omega)) ⟨?_, rfl⟩
    rw [ab_b_t]
    unfold kd_st
    rw [e]
    intro z
    cases z
  | none =>
    rw [e] at h1
    have e1 : kd_st (ab_rd m 48) a b = kd_up (ab_rd m 48) 41 b a := by
      unfold kd_st
      rw [e]
    rw [e1]
    by_cases q : kd_up (ab_rd m 48) 41 b a = none
    · refine tk_M_areKin_0_1 (ab_in hf (by decide)) (ab_in hg (by decide)) ⟨(by decide : 0 < 1), by rw [cg, cf, ea, eb]; exact h1⟩ (by decide) (ab_in hg (by decide)) (ab_in hf (by decide)) ⟨(by decide : 0 < 1), by rw [cg, cf, ea, eb]; exact h2⟩ ((kd_i_lt (fun s hs => kd_up_lt _ _ _ s hs)).mpr q) ⟨?_, rfl⟩
      rw [ab_b_f (fun z => z q)]
    · refine tk_M_areKin_0_0 (ab_in hf (by decide)) (ab_in hg (by decide)) ⟨(by decide : 0 < 1), by rw [cg, cf, ea, eb]; exact h1⟩ (by decide) (ab_in hg (by decide)) (ab_in hf (by decide)) ⟨(by decide : 0 < 1), by rw [cg, cf, ea, eb]; exact h2⟩ (fun z => q ((kd_i_lt (fun s hs => kd_up_lt _ _ _ s hs)).mp z)) ⟨?_, rfl⟩
      rw [ab_b_t q]
/-- what kins leaves -/
def kn_P (m : ab_M) (f n : Nat) (m9 : ab_M) : Prop := iv_sk m m9 ∧ ab_rd m9 8 46 = nI (cn_of (kn_of m f) n) ∧ ∀ g, g < n → kn_of m f g → ab_rd m9 82 (cn_of (kn_of m f) g) = ab_rd m 55 g
theorem ct_M_kins {Z : ab_Z} (hZ : ab_okZ Z) {m : ab_M} {nK nP nF f : Nat} (hK : iv_K m nK) (hF : iv_F m nK nP nF) (hf : f < nF) : ab_K Z 2 127 [.inl (.ref 8), .inl (.int (nI f))] m (fun r m9 => r = none ∧ kn_P m f nF m9) := by
  obtain ⟨k1, k2, k3, k4, k5, k6, k7, k8⟩ := id hK
  obtain ⟨g1, g2, g3, a1, a2, a3, a4, a5, a6, a7, a8, gg⟩ := id hF
  have lp : ∀ (j i : Nat) (M : ab_M), i + j = nF → kn_P m f i M → ab_T Z 127 2 (7, [(0, .inl (.ref 8)), (1, .inl (.int (nI f))), (2, .inl (.int (nI i)))], [], M) (fun r m9 => r = none ∧ kn_P m f nF m9) := by
    intro j
    induction j with
    | zero =>
      intro i M hi hM
      have hi : i = nF := by omega
      subst hi
      have e : ab_rd M 8 4 = nI i := by rw [hM.1.rm (by decide), g3]
      exact tk_M_kins_7_3 (by rw [e]; exact Int32.le_refl _) ⟨rfl, hM⟩
    | succ j ih =>
      intro i M hi hM
      obtain ⟨h1, h2, h3⟩ := hM
      have e : ab_rd M 8 4 = nI nF := by rw [h1.rm (by decide), g3]
      have hlt : ¬ ab_rd M 8 4 ≤ nI i := by rw [e]; exact nI_ge (by omega) (by omega)
      have hin := ab_in (n := i) (N := 24) (by omega) (by decide)
      have hci := ab_cl (n := i) (by omega)
      have es : ab_rd M 58 i = ab_rd m 58 i := by rw [h1.rd (p := 58) (by decide) (by decide)]
      have hcn := cn_le (kn_of m f) i
      have keep : ¬ kn_of m f i → kn_P m f (i + 1) M := fun hk => by
        refine ⟨h1, ?_, fun g hg hkg => ?_⟩
        · rw [cn_s, if_neg hk]
          exact h2
        · by_cases eg : g = i
          · rw [eg] at hkg
            exact absurd hkg hk
          · exact h3 g (by omega) hkg
      by_cases q : ab_rd m 58 i = 0
      · obtain ⟨a, ha, ea⟩ := (gg f hf).1
        obtain ⟨b, hb, eb⟩ := (gg i (by omega)).1
        have hak := ct_M_areKin hZ (m := M) (f := f) (g := i) k1 (by rw [h1.rd (p := 48) (by decide) (by decide)]; exact k6) (by omega) (by omega) ha hb (by rw [h1.rd (p := 53) (by decide) (by decide)]; exact ea) (by rw [h1.rd (p := 53) (by decide) (by decide)]; exact eb)
        rw [h1.rd (p := 48) (by decide) (by decide)] at hak
        by_cases z : kd_st (ab_rd m 48) a b = none
        · refine tk_M_kins_7_0 hlt hin (by rw [hci, es]; exact q) ⟨(by decide : 1 < 2), hak⟩ (ab_b_0.mpr (fun y => y z)) ?_
          rw [nI_1]
          refine ih (i + 1) M (by omega) (keep ?_)
          rintro ⟨-, y⟩
          rw [ea, eb, ab_cl (by omega), ab_cl (by omega)] at y
          exact y z
        · have hk : kn_of m f i := by
            refine ⟨q, ?_⟩
            rw [ea, eb, ab_cl (by omega), ab_cl (by omega)]
            exact z
          refine tk_M_kins_7_1 hlt hin (by rw [hci, es]; exact q) ⟨(by decide : 1 < 2), hak⟩ (ab_b_n.mpr z) hin (by rw [h2]; exact ab_in (by omega) (by decide)) ?_
          rw [h2, ab_cl (by omega), hci, nI_1, nI_1]
          refine ih (i + 1) _ (by omega) ⟨(h1.trans (iv_sk.s M _ _ (by decide) (by decide))).trans (iv_sk.m _ _ (by decide)), ?_, fun g hg hkg => ?_⟩
          · rw [cn_s, if_pos hk]
            rfl
          · have em : ab_rd M 55 i = ab_rd m 55 i := by rw [h1.rd (p := 55) (by decide) (by decide)]
            show ab_rd (ab_wr M 82 (cn_of (kn_of m f) i) (ab_rd M 55 i)) 82 (cn_of (kn_of m f) g) = _
            by_cases eg : g = i
            · rw [eg, ab_rd_s, em]
            · have hlt2 : cn_of (kn_of m f) g < cn_of (kn_of m f) i := cn_lt (by omega) hkg
              rw [ab_rd_d _ _ _ (by omega)]
              exact h3 g (by omega) hkg
      · refine tk_M_kins_7_2 hlt hin (by rw [hci, es]; exact q) ?_
        rw [nI_1]
        exact ih (i + 1) M (by omega) (keep (fun z => q z.1))
  refine ab_Ki hZ (tk_M_kins_0_0 (lp nF 0 _ (by omega) ⟨iv_sk.m m 0 (by decide), rfl, fun g hg => by omega⟩)) (fun r m1 h => by rw [h.1]; trivial) (by decide) (Nat.le_of_ble_eq_true rfl)
/-- how many of them answer alike -/
theorem ct_M_alikes {Z : ab_Z} (hZ : ab_okZ Z) {m m9 : ab_M} {f n : Nat} (h : kn_P m f n m9) (hn : n ≤ 24) (hf : f < 24) (x : Int32) : ab_C Z 0 128 [.inl (.ref 8), .inl (.int (nI f)), .inl (.int x)] m9 (some (nI (cn_of (fun g => kn_of m f g ∧ (ab_rd m 55 f ^^^ ab_rd m 55 g) &&& x = 0) n))) m9 := by
  obtain ⟨h1, h2, h3⟩ := h
  have em : ab_rd m9 55 f = ab_rd m 55 f := by rw [h1.rd (p := 55) (by decide) (by decide)]
  have hcl := cn_le (kn_of m f) n
  have hcn := cn_list (S := kn_of m f) (T := fun g => (ab_rd m 55 f ^^^ ab_rd m 55 g) &&& x = 0) (U := fun k => (ab_rd m9 82 k ^^^ ab_rd m9 55 f) &&& x = 0) (n := n) (fun g hg hkg => by rw [h3 g hg hkg, em, Int32.xor_comm])
  rw [← hcn]
  have lp : ∀ (j i : Nat), i + j = cn_of (kn_of m f) n → ab_T Z 128 0 (5, [(0, .inl (.ref 8)), (1, .inl (.int (nI f))), (2, .inl (.int x)), (3, .inl (.int (nI (cn_of (fun k => (ab_rd m9 82 k ^^^ ab_rd m9 55 f) &&& x = 0) i)))), (4, .inl (.int (nI i)))], [], m9) (fun r m8 => r = some (nI (cn_of (fun k => (ab_rd m9 82 k ^^^ ab_rd m9 55 f) &&& x = 0) (cn_of (kn_of m f) n))) ∧ m8 = m9) := by
    intro j
    induction j with
    | zero =>
      intro i hi
      have hi : i = cn_of (kn_of m f) n := by omega
      rw [← hi]
      exact tk_M_alikes_5_2 (by rw [h2, ← hi]; exact Int32.le_refl _) ⟨rfl, rfl⟩
    | succ j ih =>
      intro i hi
      have hlt : ¬ ab_rd m9 8 46 ≤ nI i := by rw [h2]; exact nI_ge (by omega) (by omega)
      have hin := ab_in (n := i) (N := 24) (by omega) (by decide)
      have hci := ab_cl (n := i) (by omega)
      have hcf := ab_cl (n := f) (by omega)
      have := ih (i + 1) (by omega)
      rw [cn_s] at this
      by_cases q : (ab_rd m9 82 i ^^^ ab_rd m9 55 f) &&& x = 0
      · rw [if_pos q] at this
        refine tk_M_alikes_5_0 hlt hin (ab_in hf (by decide)) (by rw [hci, hcf]; exact q) ?_
        rw [nI_1, nI_1]
        exact this
      · rw [if_neg q] at this
        refine tk_M_alikes_5_1 hlt hin (ab_in hf (by decide)) (by rw [hci, hcf]; exact q) ?_
        rw [nI_1, Int32.add_zero]
        exact this
  exact ab_Kc hZ (tk_M_alikes_0_0 (lp (cn_of (kn_of m f) n) 0 (by omega))) trivial (by decide) (Nat.le_of_ble_eq_true rfl)
