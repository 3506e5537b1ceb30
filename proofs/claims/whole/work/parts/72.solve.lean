/-! ===== the reference's matcher: the least sum ===== -/
def ij_ok (n C : Nat) (x : Nat → Nat) : Prop := (∀ l, l < n → x l < C) ∧ ∀ l l', l < n → l' < n → x l = x l' → l = l'
def hg_sum (n : Nat) (w : Nat → Nat → Int) (x : Nat → Nat) : Int := sg_sum (fun l => w l (x l)) n
def hg_min (n C : Nat) (w : Nat → Nat → Int) (c : Int) : Prop := (∃ x, ij_ok n C x ∧ hg_sum n w x = c) ∧ ∀ x, ij_ok n C x → c ≤ hg_sum n w x
theorem hg_end {M : ab_M} {n C : Nat} {w : Nat → Nat → Int} (hF : gh_F C n (fun k j => w (k - 1) (j - 1)) (gU M) (gV M)) (hM : gh_M C n (fun k j => w (k - 1) (j - 1)) (gU M) (gV M) (gT M)) : hg_min n C w (sg_sum (fun s => if gT M (s + 1) ≠ 0 then w ((gT M (s + 1)).toNat - 1) s else 0) C) := by
  obtain ⟨x, x1, x2, x3⟩ := gh_col hM
  have hdu : du_ok n C (fun _ => True) (fun l t => if t < C then w l t else gU M (l + 1)) (fun l => gU M (l + 1)) (fun s => if s < C then gV M (s + 1) else 0) x := by
    refine ⟨x2, fun l hl _ => ?_, fun l t hl _ ht => ?_, fun t ht => ?_, fun t ht hv => ?_, if_neg (Nat.lt_irrefl C)⟩
    · show gU M (l + 1) + (if x l < C then gV M (x l + 1) else 0) = if x l < C then w l (x l) else gU M (l + 1)
      obtain ⟨z1, z2⟩ := x1 l hl
      rw [if_pos z1, if_pos z1]
      rcases hM.2.1 (x l + 1) (by omega) (by omega) with ⟨y, -⟩ | ⟨k, k1, k2, k3, k4⟩
      · omega
      · have e : k = l + 1 := by omega
        subst e
        exact k4
    · show gU M (l + 1) + (if t < C then gV M (t + 1) else 0) ≤ if t < C then w l t else gU M (l + 1)
      by_cases q : t < C
      · rw [if_pos q, if_pos q]
        exact (hF.1 (l + 1) (by omega) (by omega)).2 (t + 1) (by omega) (by omega)
      · rw [if_neg q, if_neg q]
        omega
    · show (if t < C then gV M (t + 1) else 0) ≤ 0
      rw [if_pos ht]
      exact hF.2 (t + 1) (by omega) (by omega)
    · have hv : (if t < C then gV M (t + 1) else 0) ≠ 0 := hv
      rw [if_pos ht] at hv
      refine x3 t ht (fun z => ?_)
      rcases hM.2.1 (t + 1) (by omega) (by omega) with ⟨-, y⟩ | ⟨k, k1, k2, k3, k4⟩
      · exact hv y
      · omega
  have cost : ∀ y, (∀ l, l < n → y l < C) → sg_cost n (fun _ => True) (fun l t => if t < C then w l t else gU M (l + 1)) y = hg_sum n w y := fun y hy => sg_sum_cong (fun l hl => by
    rw [if_pos trivial]
    show (if y l < C then w l (y l) else gU M (l + 1)) = w l (y l)
    rw [if_pos (hy l hl)])
  have es := du_sum hdu
  rw [cost x (fun l hl => (x1 l hl).1)] at es
  have eu : sg_sum (fun l => if True then gU M (l + 1) else 0) n = sg_sum (fun l => gU M (l + 1)) n := sg_sum_cong (fun l _ => if_pos trivial)
  have ev : sg_sum (fun s => if s < C then gV M (s + 1) else 0) C = sg_sum (fun s => gV M (s + 1)) C := sg_sum_cong (fun s hs => if_pos hs)
  -- the sum by columns
  have tk : ∀ s, s < C → gT M (s + 1) ≠ 0 → ∃ k : Nat, k < n ∧ gT M (s + 1) = (k + 1 : Nat) ∧ gU M (k + 1) + gV M (s + 1) = w k s := fun s hs hn => by
    rcases hM.2.1 (s + 1) (by omega) (by omega) with ⟨y, -⟩ | ⟨k, k1, k2, k3, k4⟩
    · exact absurd y hn
    · refine ⟨k - 1, by omega, by omega, ?_⟩
      rw [show k - 1 + 1 = k by omega]
      exact k4
  have e1 : sg_sum (fun s => if gT M (s + 1) ≠ 0 then w ((gT M (s + 1)).toNat - 1) s else 0) C = sg_sum (fun s => if gT M (s + 1) ≠ 0 then (fun k => if k < n then gU M (k + 1) else 0) ((gT M (s + 1)).toNat - 1) else 0) C + sg_sum (fun s => gV M (s + 1)) C := by
    rw [← sm_add]
    refine sg_sum_cong (fun s hs => ?_)
    show (if gT M (s + 1) ≠ 0 then w ((gT M (s + 1)).toNat - 1) s else 0) = (if gT M (s + 1) ≠ 0 then (if (gT M (s + 1)).toNat - 1 < n then gU M ((gT M (s + 1)).toNat - 1 + 1) else 0) else 0) + gV M (s + 1)
    by_cases q : gT M (s + 1) ≠ 0
    · obtain ⟨k, k1, k2, k3⟩ := tk s hs q
      have ek : (gT M (s + 1)).toNat - 1 = k := by omega
      rw [if_pos q, if_pos q, ek, if_pos k1]
      exact k3.symm
    · rw [if_neg q, if_neg q]
      rcases hM.2.1 (s + 1) (by omega) (by omega) with ⟨-, y⟩ | ⟨k, k1, k2, k3, k4⟩
      · omega
      · exact absurd (by omega) q
  have e2 : sg_sum (fun s => if gT M (s + 1) ≠ 0 then (fun k => if k < n then gU M (k + 1) else 0) ((gT M (s + 1)).toNat - 1) else 0) C = sg_sum (fun k => if k < n then gU M (k + 1) else 0) n := by
    refine in_eq (n := C) (F := n) (f := fun k => if k < n then gU M (k + 1) else 0) (op := fun s => gT M (s + 1) ≠ 0) (v := fun s => (gT M (s + 1)).toNat - 1) ⟨fun s hs ho => ?_, fun s s' hs hs' ho ho' he _ => ?_⟩ (if_neg (Nat.lt_irrefl n)) (fun k hk _ => ?_)
    · obtain ⟨k, k1, k2, -⟩ := tk s hs ho
      show (gT M (s + 1)).toNat - 1 ≤ n
      omega
    · obtain ⟨k, k1, k2, -⟩ := tk s hs ho
      obtain ⟨k', k1', k2', -⟩ := tk s' hs' ho'
      have he : (gT M (s + 1)).toNat - 1 = (gT M (s' + 1)).toNat - 1 := he
      have := hM.2.2 (s + 1) (s' + 1) (by omega) (by omega) (by omega) (by omega) (by omega) ho
      omega
    · obtain ⟨z1, z2⟩ := x1 k hk
      refine ⟨x k, z1, by rw [z2]; omega, ?_⟩
      show (gT M (x k + 1)).toNat - 1 = k
      omega
  have e3 : sg_sum (fun k => if k < n then gU M (k + 1) else 0) n = sg_sum (fun l => gU M (l + 1)) n := sg_sum_cong (fun k hk => if_pos hk)
  have e4 : hg_sum n w x = sg_sum (fun s => if gT M (s + 1) ≠ 0 then w ((gT M (s + 1)).toNat - 1) s else 0) C := by
    have es : hg_sum n w x = sg_sum (fun l => if True then gU M (l + 1) else 0) n + sg_sum (fun s => if s < C then gV M (s + 1) else 0) C := es
    rw [es, eu, ev, e1, e2, e3]
  refine ⟨⟨x, ⟨fun l hl => (x1 l hl).1, fun l l' hl hl' he => x2.2 l l' hl hl' trivial trivial he (x1 l hl).1⟩, e4⟩, fun y hy => ?_⟩
  rw [← e4, ← cost x (fun l hl => (x1 l hl).1), ← cost y hy.1]
  exact du_le hdu ⟨fun l hl _ => Nat.le_of_lt (hy.1 l hl), fun l l' hl hl' _ _ he _ => hy.2 l l' hl hl' he⟩
theorem ct_M_columns {Z : ab_Z} (hZ : ab_okZ Z) (m : ab_M) : ab_C Z 0 117 [.inl (.ref 8)] m (some (ab_rd m 8 34 + ab_rd m 8 33)) m := ab_Kc hZ (tk_M_columns_0_0 ⟨rfl, rfl⟩) trivial (by decide) (Nat.le_of_ble_eq_true rfl)
theorem ct_M_solve {Z : ab_Z} (hZ : ab_okZ Z) {m : ab_M} {n C : Nat} {w : Nat → Nat → Int} (hn : n ≤ 24) (hC : C ≤ 48) (hnC : n ≤ C) (h33 : ab_rd m 8 33 = nI n) (hcol : ab_rd m 8 34 + ab_rd m 8 33 = nI C) (hW : ∀ i j, i < n → j < C → (ab_rd m 73 (48 * i + j)).toInt = w i j ∧ 0 ≤ w i j ∧ w i j ≤ 10000000) : ab_K Z 1 119 [.inl (.ref 8)] m (fun r m9 => (∃ c : Int32, r = some c ∧ hg_min n C w c.toInt) ∧ fr_M [75, 76, 77, 78, 79, 80] m m9) := by
  have eP : ∀ M, fr_M [75, 76, 77, 78, 79, 80] m M → ∀ k j, 1 ≤ k → k ≤ n → 1 ≤ j → j ≤ C → gP M k j = w (k - 1) (j - 1) ∧ 0 ≤ w (k - 1) (j - 1) ∧ w (k - 1) (j - 1) ≤ 10000000 := fun M hM k j k1 k2 j1 j2 => by
    have := hW (k - 1) (j - 1) (by omega) (by omega)
    refine ⟨?_, this.2⟩
    show (ab_rd M 73 (48 * (k - 1) + (j - 1))).toInt = _
    rw [hM.rdi (by decide)]
    exact this.1
  -- the sum
  have l174 : ∀ (k i : Nat) (M : ab_M) (c : Int32), i + k = C + 1 → 1 ≤ i → fr_M [75, 76, 77, 78, 79, 80] m M → gh_F C n (fun k j => w (k - 1) (j - 1)) (gU M) (gV M) → gh_M C n (fun k j => w (k - 1) (j - 1)) (gU M) (gV M) (gT M) → c.toInt = sg_sum (fun s => if gT M (s + 1) ≠ 0 then w ((gT M (s + 1)).toNat - 1) s else 0) (i - 1) → 0 ≤ c.toInt → c.toInt ≤ 10000000 * (i : Int) → ab_T Z 119 1 (174, [(0, .inl (.ref 8)), (1, .inl (.int (nI n))), (2, .inl (.int (nI C))), (3, .inl (.int c)), (4, .inl (.int (nI i)))], [], M) (fun r m9 => (∃ c : Int32, r = some c ∧ hg_min n C w c.toInt) ∧ fr_M [75, 76, 77, 78, 79, 80] m m9) := by
    intro k
    induction k with
    | zero =>
      intro i M c hi hi1 hfr hF hM hc c0 c1
      have hi : i = C + 1 := by omega
      subst hi
      refine tk_M_solve_174_2 (nI_lt (by omega) (by omega)) ⟨⟨c, rfl, ?_⟩, hfr⟩
      rw [hc]
      exact hg_end hF hM
    | succ k ih =>
      intro i M c hi hi1 hfr hF hM hc c0 c1
      have hlt : ¬ nI C < nI i := nI_nlt (by omega) (by omega)
      have ii := ab_in (n := i) (N := 49) (by omega) (by decide)
      have ci := ab_cl (n := i) (by omega)
      have es : sg_sum (fun s => if gT M (s + 1) ≠ 0 then w ((gT M (s + 1)).toNat - 1) s else 0) (i + 1 - 1) = sg_sum (fun s => if gT M (s + 1) ≠ 0 then w ((gT M (s + 1)).toNat - 1) s else 0) (i - 1) + (if gT M i ≠ 0 then w ((gT M i).toNat - 1) (i - 1) else 0) := by
        obtain ⟨j, rfl⟩ : ∃ j, i = j + 1 := ⟨i - 1, by omega⟩
        rfl
      rcases hM.2.1 i hi1 (by omega) with ⟨z, -⟩ | ⟨r, r1, r2, r3, -⟩
      · have z' : ab_rd M 77 i = 0 := (ab_eqI _ _).mpr z
        refine tk_M_solve_174_1 hlt ii (by rw [ci, z']; exact Int32.le_refl _) ?_
        rw [nI_1]
        refine ih (i + 1) M c (by omega) (by omega) hfr hF hM ?_ c0 (by omega)
        rw [es, if_neg (fun y => y z), hc]
        omega
      · have z' : ab_rd M 77 i = nI r := (in_I (by omega)).mpr r3
        have ix : (48 * (ab_rd M 77 (nI i).toNatClampNeg - 1) + nI i - 1) = nI (48 * (r - 1) + (i - 1)) := by
          rw [ci, z']
          exact nI_48 r1 hi1
        obtain ⟨p1, p2, p3⟩ := eP M hfr r i r1 r2 hi1 (by omega)
        have p1 : (ab_rd M 73 (48 * (r - 1) + (i - 1))).toInt = w (r - 1) (i - 1) := p1
        refine tk_M_solve_174_0 hlt ii (by rw [ci, z']; exact nI_nle (by omega) (by omega)) ii (by rw [ix]; exact ab_in (by omega) (by decide)) ?_
        rw [nI_1, ix, ab_cl (by omega)]
        have ea : (c + ab_rd M 73 (48 * (r - 1) + (i - 1))).toInt = c.toInt + w (r - 1) (i - 1) := by
          rw [ab_addI (by omega) (by omega), p1]
        refine ih (i + 1) M _ (by omega) (by omega) hfr hF hM ?_ (by omega) (by omega)
        have er : (gT M i).toNat - 1 = r - 1 := by omega
        rw [es, if_pos (by omega), er, ea, hc]
  -- the rows
  have l59 : ∀ (k i : Nat) (M : ab_M), i + k = n + 1 → 1 ≤ i → fr_M [75, 76, 77, 78, 79, 80] m M → gh_F C (i - 1) (fun k j => w (k - 1) (j - 1)) (gU M) (gV M) → gh_M C (i - 1) (fun k j => w (k - 1) (j - 1)) (gU M) (gV M) (gT M) → (∀ k, i ≤ k → k ≤ n → gU M k = 0) → ab_T Z 119 1 (59, [(0, .inl (.ref 8)), (1, .inl (.int (nI n))), (2, .inl (.int (nI C))), (3, .inl (.int (nI i)))], [], M) (fun r m9 => (∃ c : Int32, r = some c ∧ hg_min n C w c.toInt) ∧ fr_M [75, 76, 77, 78, 79, 80] m m9) := by
    intro k
    induction k with
    | zero =>
      intro i M hi hi1 hfr hF hM hU
      have hi : i = n + 1 := by omega
      subst hi
      exact tk_M_solve_59_1 (nI_lt (by omega) (by omega)) (l174 C 1 M 0 (by omega) (by omega) hfr hF hM rfl (by decide) (by decide))
    | succ k ih =>
      intro i M hi hi1 hfr hF hM hU
      have hlt : ¬ nI n < nI i := nI_nlt (by omega) (by omega)
      refine tk_M_solve_59_0 hlt (ab_in (n := 0) (N := 49) (by decide) (by decide)) ?_
      have c0 : (0 : Int32).toNatClampNeg = 0 := rfl
      rw [c0]
      -- least and seen are laid anew
      have l74 : ∀ (f j : Nat) (N : ab_M), j + f = C + 1 → fr_M [79, 80] (ab_wr M 77 0 (nI i)) N → (∀ s, s < j → s ≤ C → ab_rd N 79 s = 2147483647 ∧ ab_rd N 80 s = 0) → ab_T Z 119 1 (74, [(0, .inl (.ref 8)), (1, .inl (.int (nI n))), (2, .inl (.int (nI C))), (3, .inl (.int (nI i))), (4, .inl (.int (nI j)))], [], N) (fun r m9 => (∃ c : Int32, r = some c ∧ hg_min n C w c.toInt) ∧ fr_M [75, 76, 77, 78, 79, 80] m m9) := by
        intro f
        induction f with
        | zero =>
          intro j N hj hN hin
          refine tk_M_solve_74_1 (nI_lt (by omega) (by omega)) ?_
          have frN : fr_M [75, 76, 77, 78, 79, 80] m N := (hfr.wr (by decide) _ _).trans (hN.mono (by decide))
          have kU : gU N = gU M := by
            funext k
            show (ab_rd N 75 k).toInt = _
            rw [hN.rdi (by decide), ab_rd_n _ _ _ _ (by decide)]
          have kV : gV N = gV M := by
            funext k
            show (ab_rd N 76 k).toInt = _
            rw [hN.rdi (by decide), ab_rd_n _ _ _ _ (by decide)]
          have kT : ∀ s, gT N s = if s = 0 then (i : Int) else gT M s := fun s => by
            show (ab_rd N 77 s).toInt = _
            rw [hN.rdi (by decide), ab_rd_p]
            by_cases e : s = 0
            · rw [if_pos e, if_pos e, nI_toInt (by omega)]
            · rw [if_neg e, if_neg e]
          have sn : ∀ s, s ≤ C → ab_rd N 80 s = 0 := fun s hs => (hin s (by omega) hs).2
          refine cl_M_tree hZ (m := N) (C := C) (i := i) (n := n) (W := fun k j => w (k - 1) (j - 1)) hC hn hnC hi1 (by omega) (eP N frN) (fun M' h1 h2 h3 h4 => ih (i + 1) M' (by omega) (by omega) (frN.trans h1) (by rw [show i + 1 - 1 = i by omega]; exact h2) (by rw [show i + 1 - 1 = i by omega]; exact h3) (fun k k1 k2 => h4 k (by omega) k2)) (C + 2) 0 0 (fun _ => 0) N (by omega) ⟨fr_M.refl _ N, ?_, ?_, by rw [kT, if_pos rfl], fun k k1 k2 => by rw [kU]; exact hU k (by omega) k2, fun s s1 s2 => absurd (sn s s1) s2, cn_0 (fun s hs z => z (sn s (by omega))), by omega, sn 0 (by omega), Or.inl ⟨rfl, sn⟩, fun s s1 s2 _ => ?_, fun s _ s2 s3 => absurd (sn s s2) s3⟩
          · rw [kU, kV]
            refine ⟨fun k k1 k2 => ?_, hF.2⟩
            by_cases e : k = i
            · rw [e, hU i (Nat.le_refl _) (by omega)]
              refine ⟨Int.le_refl _, fun j j1 j2 => ?_⟩
              have h1 := hF.2 j j1 j2
              have h2 := (hW (i - 1) (j - 1) (by omega) (by omega)).2
              show 0 + gV M j ≤ w (i - 1) (j - 1)
              omega
            · exact hF.1 k k1 (by omega)
          · rw [kU, kV]
            have e1 : ∀ s, 1 ≤ s → gT N s = gT M s := fun s hs => by rw [kT, if_neg (by omega)]
            refine ⟨fun k k1 k2 => ?_, fun j j1 j2 => ?_, fun j j' j1 j2 j3 j4 => ?_⟩
            · obtain ⟨j, z1, z2, z3⟩ := hM.1 k k1 k2
              exact ⟨j, z1, z2, by rw [e1 j z1]; exact z3⟩
            · rw [e1 j j1]
              exact hM.2.1 j j1 j2
            · rw [e1 j j1, e1 j' j3]
              exact hM.2.2 j j' j1 j2 j3 j4
          · have e1 := (hin s (by omega) s2).1
            have e2 : gL N s = 2147483647 := by
              show (ab_rd N 79 s).toInt = _
              rw [e1]
              rfl
            exact ⟨by omega, fun s' k z1 z2 => absurd (sn s' z1) z2, Or.inl ⟨sn, e2⟩⟩
        | succ f ihf =>
          intro j N hj hN hin
          have hlt2 : ¬ nI C < nI j := nI_nlt (by omega) (by omega)
          have ij := ab_in (n := j) (N := 49) (by omega) (by decide)
          have cj := ab_cl (n := j) (by omega)
          refine tk_M_solve_74_0 hlt2 ij ⟨ij, Or.inl rfl⟩ ?_
          rw [nI_1, cj]
          refine ihf (j + 1) _ (by omega) ((hN.wr (by decide) _ _).wr (by decide) _ _) (fun s s1 s2 => ?_)
          rw [ab_rd_n _ _ _ _ (by decide), ab_rd_p, ab_rd_p, ab_rd_n _ _ _ _ (by decide)]
          by_cases e : s = j
          · rw [if_pos e, if_pos e]
            exact ⟨rfl, rfl⟩
          · rw [if_neg e, if_neg e]
            exact hin s (by omega) s2
      exact l74 (C + 1) 0 _ (by omega) (fr_M.refl _ _) (fun s hs => by omega)
  -- the beginnings
  have l32 : ∀ (k j : Nat) (M : ab_M), j + k = C + 1 → fr_M [75, 76, 77, 78, 79, 80] m M → (∀ i, i ≤ n → ab_rd M 75 i = 0) → (∀ s, s < j → s ≤ C → ab_rd M 76 s = 0 ∧ ab_rd M 77 s = 0) → ab_T Z 119 1 (32, [(0, .inl (.ref 8)), (1, .inl (.int (nI n))), (2, .inl (.int (nI C))), (3, .inl (.int (nI j)))], [], M) (fun r m9 => (∃ c : Int32, r = some c ∧ hg_min n C w c.toInt) ∧ fr_M [75, 76, 77, 78, 79, 80] m m9) := by
    intro k
    induction k with
    | zero =>
      intro j M hj hfr hU hV
      refine tk_M_solve_32_1 (nI_lt (by omega) (by omega)) ?_
      have z0 : ∀ j, j ≤ C → gV M j = 0 ∧ gT M j = 0 := fun s hs => by
        have := hV s (by omega) hs
        exact ⟨(ab_eqI _ _).mp this.1, (ab_eqI _ _).mp this.2⟩
      refine l59 n 1 M (by omega) (by omega) hfr ⟨fun k k1 k2 => by omega, fun j j1 j2 => by rw [(z0 j j2).1]; exact Int.le_refl _⟩ ⟨fun k k1 k2 => by omega, fun j j1 j2 => Or.inl ⟨(z0 j j2).2, (z0 j j2).1⟩, fun j j' j1 j2 _ _ _ h => absurd (z0 j j2).2 h⟩ (fun k _ k2 => (ab_eqI _ _).mp (hU k k2))
    | succ k ih =>
      intro j M hj hfr hU hV
      have hlt : ¬ nI C < nI j := nI_nlt (by omega) (by omega)
      have ij := ab_in (n := j) (N := 49) (by omega) (by decide)
      have cj := ab_cl (n := j) (by omega)
      refine tk_M_solve_32_0 hlt ij ij ?_
      rw [nI_1, cj]
      refine ih (j + 1) _ (by omega) ((hfr.wr (by decide) _ _).wr (by decide) _ _) (fun i hi => by rw [ab_rd_n _ _ _ _ (by decide), ab_rd_n _ _ _ _ (by decide)]; exact hU i hi) (fun s s1 s2 => ?_)
      rw [ab_rd_n _ _ _ _ (by decide), ab_rd_p, ab_rd_p, ab_rd_n _ _ _ _ (by decide)]
      by_cases e : s = j
      · rw [if_pos e, if_pos e]
        exact ⟨rfl, rfl⟩
      · rw [if_neg e, if_neg e]
        exact hV s (by omega) s2
  have l12 : ∀ (k i : Nat) (M : ab_M), i + k = n + 1 → fr_M [75, 76, 77, 78, 79, 80] m M → (∀ s, s < i → ab_rd M 75 s = 0) → ab_T Z 119 1 (12, [(0, .inl (.ref 8)), (1, .inl (.int (nI n))), (2, .inl (.int (nI C))), (3, .inl (.int (nI i)))], [], M) (fun r m9 => (∃ c : Int32, r = some c ∧ hg_min n C w c.toInt) ∧ fr_M [75, 76, 77, 78, 79, 80] m m9) := by
    intro k
    induction k with
    | zero =>
      intro i M hi hfr hU
      exact tk_M_solve_12_1 (nI_lt (by omega) (by omega)) (l32 (C + 1) 0 M (by omega) hfr (fun s hs => hU s (by omega)) (fun s hs => by omega))
    | succ k ih =>
      intro i M hi hfr hU
      have hlt : ¬ nI n < nI i := nI_nlt (by omega) (by omega)
      refine tk_M_solve_12_0 hlt (ab_in (by omega) (by decide)) ?_
      rw [nI_1, ab_cl (by omega)]
      refine ih (i + 1) _ (by omega) (hfr.wr (by decide) _ _) (fun s hs => ?_)
      rw [ab_rd_p]
      by_cases e : s = i
      · rw [if_pos e]
      · rw [if_neg e]
        exact hU s (by omega)
  refine ab_Ki hZ (tk_M_solve_0_0 ⟨(by decide : 0 < 1), ct_M_columns hZ m⟩ ?_) (fun r m1 h => by obtain ⟨⟨v, rfl, -⟩, -⟩ := h; trivial) (by decide) (Nat.le_of_ble_eq_true rfl)
  rw [h33] at hcol ⊢
  rw [hcol]
  exact l12 (n + 1) 0 m (by omega) (fr_M.refl _ m) (fun s hs => by omega)
