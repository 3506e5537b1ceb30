/-! ===== the reference's matches ===== -/
theorem fr_M.sk {S : List Nat} {m M : ab_M} (h : fr_M S m M) (hS : ∀ p ∈ S, p ∈ iv_scr ∧ p ≠ 8) : iv_sk m M := ⟨fun p _ c => h.1 p (fun z => c (hS p z).1), h.2, fun j _ => by rw [h.1 8 (fun z => (hS _ z).2 rfl)]⟩
theorem gw_G.fr {m M M' : ab_M} {nF nL a b : Nat} {S : List Nat} (h : gw_G m nF nL M a b) (g : fr_M S M M') (hS : 8 ∉ S ∧ 71 ∉ S ∧ 70 ∉ S) : gw_G m nF nL M' a b := by
  obtain ⟨a1, a2, a3, a4⟩ := h
  refine ⟨by rw [g.rdi hS.1]; exact a1, fun f hf hk => by rw [g.rdi hS.2.1]; exact a2 f hf hk, by rw [g.rdi hS.1]; exact a3, fun l hl ho => by rw [g.rdi hS.2.2]; exact a4 l hl ho⟩
theorem ct_M_only {Z : ab_Z} (hZ : ab_okZ Z) {M : ab_M} {i j C : Nat} (hi : i < 24) (hj : j < C) (hC : C ≤ 48) (hcol : ab_rd M 8 34 + ab_rd M 8 33 = nI C) : ab_K Z 1 121 [.inl (.ref 8), .inl (.int (nI i)), .inl (.int (nI j))] M (fun r m9 => r = none ∧ fr_M [73] M m9 ∧ ∀ i' j', i' < 24 → j' < 48 → ab_rd m9 73 (48 * i' + j') = if i' = i ∧ j' < C ∧ j' ≠ j then 10000000 else ab_rd M 73 (48 * i' + j')) := by
  have lp : ∀ (k s : Nat) (N : ab_M), s + k = C → fr_M [73] M N → (∀ i' j', i' < 24 → j' < 48 → ab_rd N 73 (48 * i' + j') = if i' = i ∧ j' < s ∧ j' ≠ j then 10000000 else ab_rd M 73 (48 * i' + j')) → ab_T Z 121 1 (2, [(0, .inl (.ref 8)), (1, .inl (.int (nI i))), (2, .inl (.int (nI j))), (3, .inl (.int (nI s)))], [], N) (fun r m9 => r = none ∧ fr_M [73] M m9 ∧ ∀ i' j', i' < 24 → j' < 48 → ab_rd m9 73 (48 * i' + j') = if i' = i ∧ j' < C ∧ j' ≠ j then 10000000 else ab_rd M 73 (48 * i' + j')) := by
    intro k
    induction k with
    | zero =>
      intro s N hs hN hin
      have hs : s = C := by omega
      subst hs
      have ec : ab_rd N 8 34 + ab_rd N 8 33 = nI s := by rw [hN.rdi (by decide), hN.rdi (by decide)]; exact hcol
      exact tk_M_only_2_2 ⟨(by decide : 0 < 1), ct_M_columns hZ N⟩ (by rw [ec]; exact Int32.le_refl _) ⟨rfl, hN, hin⟩
    | succ k ih =>
      intro s N hs hN hin
      have ec : ab_rd N 8 34 + ab_rd N 8 33 = nI C := by rw [hN.rdi (by decide), hN.rdi (by decide)]; exact hcol
      have hlt : ¬ ab_rd N 8 34 + ab_rd N 8 33 ≤ nI s := by rw [ec]; exact nI_ge (by omega) (by omega)
      by_cases q : s = j
      · refine tk_M_only_2_1 ⟨(by decide : 0 < 1), ct_M_columns hZ N⟩ hlt (by rw [q]) ?_
        rw [nI_1]
        refine ih (s + 1) N (by omega) hN (fun i' j' a b => ?_)
        rw [hin i' j' a b]
        by_cases z : i' = i ∧ j' < s ∧ j' ≠ j
        · rw [if_pos z, if_pos (by omega)]
        · rw [if_neg z, if_neg (by omega)]
      · refine tk_M_only_2_0 ⟨(by decide : 0 < 1), ct_M_columns hZ N⟩ hlt (fun y => q ((nI_eq (by omega) (by omega)).mp y)) (by rw [nI_48a]; exact ab_in (by omega) (by decide)) ?_
        rw [nI_1, nI_48a, ab_cl (by omega)]
        refine ih (s + 1) _ (by omega) (hN.wr (by decide) _ _) (fun i' j' a b => ?_)
        rw [ab_rd_p, hin i' j' a b]
        by_cases e : i' = i ∧ j' = s
        · rw [if_pos (by omega), if_pos (by omega)]
        · rw [if_neg (by omega)]
          by_cases z : i' = i ∧ j' < s ∧ j' ≠ j
          · rw [if_pos z, if_pos (by omega)]
          · rw [if_neg z, if_neg (by omega)]
  exact ab_Ki hZ (tk_M_only_0_0 (lp C 0 M (by omega) (fr_M.refl _ M) (fun i' j' _ _ => by rw [if_neg (by omega)]))) (fun r m1 h => by rw [h.1]; trivial) (by decide) (Nat.le_of_ble_eq_true rfl)
/-- rows before i only at their columns, row i only at j -/
def rs_w (b : Nat → Nat) (pw : Nat → Nat → Int) (i j : Nat) (i' j' : Nat) : Int := if i' < i then (if j' = b i' then pw i' j' else 10000000) else if i' = i then (if j' = j then pw i' j' else 10000000) else pw i' j'
theorem rs_iff {n C : Nat} {b : Nat → Nat} {pw : Nat → Nat → Int} {i j : Nat} {c c2 : Int} (hb : ∀ i' j', i' < n → j' < C → 0 ≤ pw i' j' ∧ pw i' j' ≤ 10000000) (hi : i < n) (hc : hg_min n C pw c) (hc7 : c < 10000000) (h2 : hg_min n C (rs_w b pw i j) c2) : c2 = c ↔ ∃ x, ij_ok n C x ∧ (∀ i', i' < i → x i' = b i') ∧ x i = j ∧ hg_sum n pw x = c := by
  have ge : ∀ i' j', i' < n → j' < C → pw i' j' ≤ rs_w b pw i j i' j' := fun i' j' h1 h3 => by
    have := (hb i' j' h1 h3).2
    unfold rs_w
    by_cases q : i' < i
    · rw [if_pos q]
      by_cases z : j' = b i'
      · rw [if_pos z]
        exact Int.le_refl _
      · rw [if_neg z]
        exact this
    · rw [if_neg q]
      by_cases q2 : i' = i
      · rw [if_pos q2]
        by_cases z : j' = j
        · rw [if_pos z]
          exact Int.le_refl _
        · rw [if_neg z]
          exact this
      · rw [if_neg q2]
        exact Int.le_refl _
  constructor
  · intro e
    obtain ⟨x, x1, x2⟩ := h2.1
    have small := hg_small (pw := rs_w b pw i j) (c := 10000000) (fun i' j' h1 h3 => Int.le_trans (hb i' j' h1 h3).1 (ge i' j' h1 h3)) x1.1 (by omega)
    have e1 : ∀ i', i' < i → x i' = b i' := fun i' hi' => by
      have := small i' (by omega)
      unfold rs_w at this
      rw [if_pos hi'] at this
      by_cases z : x i' = b i'
      · exact z
      · rw [if_neg z] at this
        omega
    have e2 : x i = j := by
      have := small i hi
      unfold rs_w at this
      rw [if_neg (Nat.lt_irrefl i), if_pos rfl] at this
      by_cases z : x i = j
      · exact z
      · rw [if_neg z] at this
        omega
    refine ⟨x, x1, e1, e2, ?_⟩
    rw [← e, ← x2]
    refine sg_sum_cong (fun l hl => ?_)
    show pw l (x l) = rs_w b pw i j l (x l)
    unfold rs_w
    by_cases q : l < i
    · rw [if_pos q, if_pos (e1 l q)]
    · rw [if_neg q]
      by_cases q2 : l = i
      · rw [if_pos q2, if_pos (by rw [q2]; exact e2)]
      · rw [if_neg q2]
  · rintro ⟨x, x1, e1, e2, x2⟩
    have a1 : hg_sum n (rs_w b pw i j) x = c := by
      rw [← x2]
      refine sg_sum_cong (fun l hl => ?_)
      show rs_w b pw i j l (x l) = pw l (x l)
      unfold rs_w
      by_cases q : l < i
      · rw [if_pos q, if_pos (e1 l q)]
      · rw [if_neg q]
        by_cases q2 : l = i
        · rw [if_pos q2, if_pos (by rw [q2]; exact e2)]
        · rw [if_neg q2]
    have a2 := h2.2 x x1
    obtain ⟨y, y1, y2⟩ := h2.1
    have a3 := hc.2 y y1
    have a4 : hg_sum n pw y ≤ hg_sum n (rs_w b pw i j) y := sm_le (fun l hl => ge l (y l) hl (y1.1 l hl))
    omega
theorem ct_M_matches {Z : ab_Z} (hZ : ab_okZ Z) {m : ab_M} {nK nP nF nL : Nat} (hD : iv_D m nK nP nF nL) (hg : 0 ≤ (ab_rd m 8 6).toInt ∧ (ab_rd m 8 6).toInt ≤ 100) {v : Nat → Nat} {c : Int} (hv : sg_best nL nF (gw_o m) (iv_pr m nP nF) v c) : ab_K Z 3 122 [.inl (.ref 8)] m (fun r m9 => (∃ a : Int32, r = some a ∧ a.toInt = c) ∧ iv_sk m m9 ∧ ∀ l, l < nL → gw_o m l → ab_rd m9 72 l = if v l < nF then nI (v l) else -1) := by
  obtain ⟨hK, hN, hP, hF, hL⟩ := id hD
  have hf24 : nF ≤ 24 := hF.1
  have hl24 : nL ≤ 24 := hL.1
  have hnf := cn_le (gw_k m) nF
  have hnl := cn_le (gw_o m) nL
  have hP' := gw_P hF hL hg
  have bd := fun i j (hi : i < cn_of (gw_o m) nL) (hj : j < cn_of (gw_k m) nF + cn_of (gw_o m) nL) => mx_bd hP' hi hj
  -- the least sum is c
  have hc24 : c ≤ 2400 := by
    have h1 := mx_none hP'
    have h2 := hv.2.2.1 _ h1.1
    have h3 := h1.2
    omega
  have hcm : ∀ c', hg_min (cn_of (gw_o m) nL) (cn_of (gw_k m) nF + cn_of (gw_o m) nL) (gw m nP nF nL) c' → c' = c := fun c' h => mx_min hP' hl24 h ⟨v, hv.1, hv.2.1⟩ hv.2.2.1
  obtain ⟨b1, b2, b3⟩ := mx_ok hP' hv.1
  rw [hv.2.1] at b3
  obtain ⟨r1, m1, hC1, hr1, ⟨sk1, G1, pr1⟩, -⟩ := ct_M_gather hZ hD hg
  rw [hr1] at hC1
  have col : ∀ M, gw_G m nF nL M nF nL → ab_rd M 8 34 + ab_rd M 8 33 = nI (cn_of (gw_k m) nF + cn_of (gw_o m) nL) := fun M hM => by rw [hM.1, hM.2.2.1, nI_add]
  obtain ⟨r2, m2, hC2, ⟨a, hr2, ha⟩, fr2⟩ := ct_M_solve hZ (m := m1) (n := cn_of (gw_o m) nL) (C := cn_of (gw_k m) nF + cn_of (gw_o m) nL) (w := gw m nP nF nL) (by omega) (by omega) (by omega) G1.2.2.1 (col m1 G1) (fun i j hi hj => ⟨pr1 i j hi hj, bd i j hi hj⟩)
  rw [hr2] at hC2
  have ea : a.toInt = c := hcm _ ha
  have e7 : (10000000 : Int32).toInt = 10000000 := rfl
  have hmin : hg_min (cn_of (gw_o m) nL) (cn_of (gw_k m) nF + cn_of (gw_o m) nL) (gw m nP nF nL) c := by rw [← ea]; exact ha
  -- the columns of one row
  have l66 : ∀ (k j i l : Nat) (M : ab_M) (P : Option Int32 → ab_M → Prop), j + k = mx_c nL nF (gw_o m) (gw_k m) v i → i < cn_of (gw_o m) nL → l < nL → gw_o m l → cn_of (gw_o m) l = i → iv_sk m M → gw_G m nF nL M nF nL → (∀ j', j' < cn_of (gw_k m) nF + cn_of (gw_o m) nL → (ab_rd M 74 j').toInt = gw m nP nF nL i j') → (∀ i' j', i' < cn_of (gw_o m) nL → j' < cn_of (gw_k m) nF + cn_of (gw_o m) nL → i' ≠ i → (ab_rd M 73 (48 * i' + j')).toInt = rs_w (mx_c nL nF (gw_o m) (gw_k m) v) (gw m nP nF nL) i 0 i' j') → (∀ l', l' < nL → gw_o m l' → cn_of (gw_o m) l' < i → ab_rd M 72 l' = if v l' < nF then nI (v l') else -1) → (∀ M', iv_sk m M' → gw_G m nF nL M' nF nL → (∀ i' j', i' < cn_of (gw_o m) nL → j' < cn_of (gw_k m) nF + cn_of (gw_o m) nL → (ab_rd M' 73 (48 * i' + j')).toInt = rs_w (mx_c nL nF (gw_o m) (gw_k m) v) (gw m nP nF nL) i (mx_c nL nF (gw_o m) (gw_k m) v i) i' j') → (∀ l', l' < nL → gw_o m l' → cn_of (gw_o m) l' < i + 1 → ab_rd M' 72 l' = if v l' < nF then nI (v l') else -1) → ab_T Z 122 3 (11, [(0, .inl (.ref 8)), (1, .inl (.int a)), (2, .inl (.int (nI (i + 1))))], [], M') P) → ab_T Z 122 3 (66, [(0, .inl (.ref 8)), (1, .inl (.int a)), (2, .inl (.int (nI i))), (3, .inl (.int (nI j)))], [], M) P := by
    intro k
    induction k with
    | zero =>
      intro j i l M P hj hi hl ho hli h1 h2 h3 h4 h5 fin
      have hjb : j = mx_c nL nF (gw_o m) (gw_k m) v i := by omega
      have hjC : j < cn_of (gw_k m) nF + cn_of (gw_o m) nL := by rw [hjb]; exact b1.1 i hi
      have val := b2 l hl ho
      rw [hli, ← hjb] at val
      have vlt := (hv.1.1 l hl ho)
      have hlt : ¬ ab_rd M 8 34 + ab_rd M 8 33 ≤ nI j := by rw [col M h2]; exact nI_ge hjC (by omega)
      have ix : vp_in (48 * nI i + nI j) 1152 := by rw [nI_48a]; exact ab_in (by omega) (by decide)
      have cx : (48 * nI i + nI j).toNatClampNeg = 48 * i + j := by rw [nI_48a]; exact ab_cl (by omega)
      have ij := ab_in (n := j) (N := 1152) (by omega) (by decide)
      have cj := ab_cl (n := j) (by omega)
      have nev : ¬ ab_rd M 74 (nI j).toNatClampNeg = 10000000 := by
        rw [cj, ab_eqI, h3 j hjC, e7, val]
        omega
      obtain ⟨r3, M2, hC3, hr3, fr3, pr3⟩ := ct_M_only hZ (M := M) (i := i) (j := j) (C := cn_of (gw_k m) nF + cn_of (gw_o m) nL) (by omega) hjC (by omega) (col M h2)
      rw [hr3] at hC3
      have ek : ab_rd M2 74 j = ab_rd M 74 j := fr3.rdi (by decide) j
      have prr : ∀ i' j', i' < cn_of (gw_o m) nL → j' < cn_of (gw_k m) nF + cn_of (gw_o m) nL → (ab_rd (ab_wr M2 73 (48 * i + j) (ab_rd M2 74 j)) 73 (48 * i' + j')).toInt = rs_w (mx_c nL nF (gw_o m) (gw_k m) v) (gw m nP nF nL) i j i' j' := fun i' j' z1 z2 => by
        rw [ab_rd_p, pr3 i' j' (by omega) (by omega)]
        unfold rs_w
        by_cases e : i' = i
        · rw [if_neg (show ¬ i' < i by omega), if_pos e]
          by_cases e2 : j' = j
          · rw [if_pos (by omega), if_pos e2, ek, h3 j hjC, e, e2]
          · rw [if_neg (by omega), if_neg e2, if_pos ⟨e, z2, e2⟩]
            rfl
        · rw [if_neg (show ¬ 48 * i' + j' = 48 * i + j by omega), if_neg (fun y => e y.1), h4 i' j' z1 z2 e]
          unfold rs_w
          by_cases q : i' < i
          · rw [if_pos q, if_pos q]
          · rw [if_neg q, if_neg q, if_neg e, if_neg e]
      have G2 : gw_G m nF nL (ab_wr M2 73 (48 * i + j) (ab_rd M2 74 j)) nF nL := h2.fr (fr3.wr (by decide) _ _) (by decide)
      obtain ⟨r4, M3, hC4, ⟨c2, hr4, hc2⟩, fr4⟩ := ct_M_solve hZ (m := ab_wr M2 73 (48 * i + j) (ab_rd M2 74 j)) (n := cn_of (gw_o m) nL) (C := cn_of (gw_k m) nF + cn_of (gw_o m) nL) (w := rs_w (mx_c nL nF (gw_o m) (gw_k m) v) (gw m nP nF nL) i j) (by omega) (by omega) (by omega) G2.2.2.1 (col _ G2) (fun i' j' z1 z2 => ⟨prr i' j' z1 z2, by
        have := bd i' j' z1 z2
        unfold rs_w
        by_cases q : i' < i
        · rw [if_pos q]
          by_cases z : j' = mx_c nL nF (gw_o m) (gw_k m) v i'
          · rw [if_pos z]
            exact this
          · rw [if_neg z]
            omega
        · rw [if_neg q]
          by_cases q2 : i' = i
          · rw [if_pos q2]
            by_cases z : j' = j
            · rw [if_pos z]
              exact this
            · rw [if_neg z]
              omega
          · rw [if_neg q2]
            exact this⟩)
      rw [hr4] at hC4
      have G3 := G2.fr fr4 (by decide)
      have hit : c2 = a := by
        rw [ab_eqI, ea]
        exact (rs_iff bd hi hmin (by omega) hc2).mpr ⟨mx_c nL nF (gw_o m) (gw_k m) v, b1, fun _ _ => rfl, hjb.symm, b3⟩
      have sk3 : iv_sk m M3 := (h1.trans ((fr3.wr (by decide) _ _).sk (by decide))).trans (fr4.sk (by decide))
      have eL : ab_rd M3 70 (nI i).toNatClampNeg = nI l := by rw [ab_cl (by omega), ← hli]; exact G3.2.2.2 l hl ho
      have cl := ab_cl (n := l) (by omega)
      have hC4' : ab_C Z 1 119 [.inl (.ref 8)] (ab_wr M2 73 (48 * nI i + nI j).toNatClampNeg (ab_rd M2 74 (nI j).toNatClampNeg)) (some c2) M3 := by
        rw [cx, cj]
        exact hC4
      -- behind the hit
      have done : ∀ x : Int32, (x = if v l < nF then nI (v l) else -1) → ab_T Z 122 3 (66, [(0, .inl (.ref 8)), (1, .inl (.int a)), (2, .inl (.int (nI i))), (3, .inl (.int (ab_rd (ab_wr M3 72 l x) 8 34 + ab_rd (ab_wr M3 72 l x) 8 33 + 1)))], [], ab_wr M3 72 l x) P := fun x hx => by
        have G4 : gw_G m nF nL (ab_wr M3 72 l x) nF nL := G3.fr ((fr_M.refl [72] M3).wr (by decide) l x) (by decide)
        rw [col _ G4, nI_1]
        refine tk_M_matches_66_4 ⟨(by decide : 0 < 3), ct_M_columns hZ _⟩ (by rw [col _ G4]; exact nI_le (by omega) (by omega)) ?_
        rw [nI_1]
        refine fin _ (sk3.trans (iv_sk.s M3 _ _ (by decide) (by decide))) G4 (fun i' j' z1 z2 => ?_) (fun l' z1 z2 z3 => ?_)
        · rw [ab_rd_n _ _ _ _ (by decide), fr4.rdi (by decide), ← hjb]
          exact prr i' j' z1 z2
        · rw [ab_rd_p]
          by_cases e : l' = l
          · rw [if_pos e, e]
            exact hx
          · rw [if_neg e, fr4.rdi (by decide), ab_rd_n _ _ _ _ (by decide), fr3.rdi (by decide)]
            have : cn_of (gw_o m) l' ≠ i := fun y => e (cn_one z2 ho (by rw [y, hli]))
            exact h5 l' z1 z2 (by omega)
      have eb : mx_c nL nF (gw_o m) (gw_k m) v i = if v l < nF then cn_of (gw_k m) (v l) else cn_of (gw_k m) nF + i := by
        unfold mx_c
        have := nt_cn (S := gw_o m) hl ho
        rw [hli] at this
        rw [this]
      by_cases q : v l < nF
      · rw [if_pos q] at eb
        have kk : gw_k m (v l) := by
          by_cases z : gw_k m (v l)
          · exact z
          · have := (hP' l hl ho).1 _ q z
            omega
        have hjf : j < cn_of (gw_k m) nF := by
          rw [hjb, eb]
          exact cn_lt q kk
        have eFo : ab_rd M3 71 (nI j).toNatClampNeg = nI (v l) := by rw [cj, hjb, eb]; exact G3.2.1 _ q kk
        refine tk_M_matches_66_1 ⟨(by decide : 0 < 3), ct_M_columns hZ M⟩ hlt ij nev ⟨(by decide : 1 < 3), hC3⟩ ij ix ⟨(by decide : 1 < 3), hC4'⟩ hit (ab_in (by omega) (by decide)) (by rw [G3.1]; exact nI_ge hjf (by omega)) (ab_in (by omega) (by decide)) (by rw [eL]; exact ab_in (by omega) (by decide)) ⟨(by decide : 0 < 3), ct_M_columns hZ _⟩ ?_
        rw [eL, cl, eFo]
        exact done _ (by rw [if_pos q])
      · rw [if_neg q] at eb
        refine tk_M_matches_66_2 ⟨(by decide : 0 < 3), ct_M_columns hZ M⟩ hlt ij nev ⟨(by decide : 1 < 3), hC3⟩ ij ix ⟨(by decide : 1 < 3), hC4'⟩ hit (ab_in (by omega) (by decide)) (by rw [G3.1]; exact nI_le (by omega) (by omega)) (by rw [eL]; exact ab_in (by omega) (by decide)) ⟨(by decide : 0 < 3), ct_M_columns hZ _⟩ ?_
        rw [eL, cl]
        exact done _ (by rw [if_neg q])
    | succ k ih =>
      intro j i l M P hj hi hl ho hli h1 h2 h3 h4 h5 fin
      have hjb : j < mx_c nL nF (gw_o m) (gw_k m) v i := by omega
      have hbC := b1.1 i hi
      have hjC : j < cn_of (gw_k m) nF + cn_of (gw_o m) nL := by omega
      have hlt : ¬ ab_rd M 8 34 + ab_rd M 8 33 ≤ nI j := by rw [col M h2]; exact nI_ge hjC (by omega)
      have ij := ab_in (n := j) (N := 1152) (by omega) (by decide)
      have cj := ab_cl (n := j) (by omega)
      by_cases nev : ab_rd M 74 j = 10000000
      · refine tk_M_matches_66_0 ⟨(by decide : 0 < 3), ct_M_columns hZ M⟩ hlt ij (by rw [cj]; exact nev) ?_
        rw [nI_1]
        exact ih (j + 1) i l M P (by omega) hi hl ho hli h1 h2 h3 h4 h5 fin
      · have ix : vp_in (48 * nI i + nI j) 1152 := by rw [nI_48a]; exact ab_in (by omega) (by decide)
        have cx : (48 * nI i + nI j).toNatClampNeg = 48 * i + j := by rw [nI_48a]; exact ab_cl (by omega)
        obtain ⟨r3, M2, hC3, hr3, fr3, pr3⟩ := ct_M_only hZ (M := M) (i := i) (j := j) (C := cn_of (gw_k m) nF + cn_of (gw_o m) nL) (by omega) hjC (by omega) (col M h2)
        rw [hr3] at hC3
        have ek : ab_rd M2 74 j = ab_rd M 74 j := fr3.rdi (by decide) j
        have prr : ∀ i' j', i' < cn_of (gw_o m) nL → j' < cn_of (gw_k m) nF + cn_of (gw_o m) nL → (ab_rd (ab_wr M2 73 (48 * i + j) (ab_rd M2 74 j)) 73 (48 * i' + j')).toInt = rs_w (mx_c nL nF (gw_o m) (gw_k m) v) (gw m nP nF nL) i j i' j' := fun i' j' z1 z2 => by
          rw [ab_rd_p, pr3 i' j' (by omega) (by omega)]
          unfold rs_w
          by_cases e : i' = i
          · rw [if_neg (show ¬ i' < i by omega), if_pos e]
            by_cases e2 : j' = j
            · rw [if_pos (by omega), if_pos e2, ek, h3 j hjC, e, e2]
            · rw [if_neg (by omega), if_neg e2, if_pos ⟨e, z2, e2⟩]
              rfl
          · rw [if_neg (show ¬ 48 * i' + j' = 48 * i + j by omega), if_neg (fun y => e y.1), h4 i' j' z1 z2 e]
            unfold rs_w
            by_cases q : i' < i
            · rw [if_pos q, if_pos q]
            · rw [if_neg q, if_neg q, if_neg e, if_neg e]
        have G2 : gw_G m nF nL (ab_wr M2 73 (48 * i + j) (ab_rd M2 74 j)) nF nL := h2.fr (fr3.wr (by decide) _ _) (by decide)
        obtain ⟨r4, M3, hC4, ⟨c2, hr4, hc2⟩, fr4⟩ := ct_M_solve hZ (m := ab_wr M2 73 (48 * i + j) (ab_rd M2 74 j)) (n := cn_of (gw_o m) nL) (C := cn_of (gw_k m) nF + cn_of (gw_o m) nL) (w := rs_w (mx_c nL nF (gw_o m) (gw_k m) v) (gw m nP nF nL) i j) (by omega) (by omega) (by omega) G2.2.2.1 (col _ G2) (fun i' j' z1 z2 => ⟨prr i' j' z1 z2, by
          have := bd i' j' z1 z2
          unfold rs_w
          by_cases q : i' < i
          · rw [if_pos q]
            by_cases z : j' = mx_c nL nF (gw_o m) (gw_k m) v i'
            · rw [if_pos z]
              exact this
            · rw [if_neg z]
              omega
          · rw [if_neg q]
            by_cases q2 : i' = i
            · rw [if_pos q2]
              by_cases z : j' = j
              · rw [if_pos z]
                exact this
              · rw [if_neg z]
                omega
            · rw [if_neg q2]
              exact this⟩)
        rw [hr4] at hC4
        have G3 := G2.fr fr4 (by decide)
        have miss : ¬ c2 = a := fun e => by
          rw [ab_eqI, ea] at e
          obtain ⟨x, x1, x2, x3, x4⟩ := (rs_iff bd hi hmin (by omega) hc2).mp e
          have := mx_lex hP' hv (by omega) x1 x4 hi x2
          omega
        have sk3 : iv_sk m M3 := (h1.trans ((fr3.wr (by decide) _ _).sk (by decide))).trans (fr4.sk (by decide))
        have hC4' : ab_C Z 1 119 [.inl (.ref 8)] (ab_wr M2 73 (48 * nI i + nI j).toNatClampNeg (ab_rd M2 74 (nI j).toNatClampNeg)) (some c2) M3 := by
          rw [cx, cj]
          exact hC4
        refine tk_M_matches_66_3 ⟨(by decide : 0 < 3), ct_M_columns hZ M⟩ hlt ij (by rw [cj]; exact nev) ⟨(by decide : 1 < 3), hC3⟩ ij ix ⟨(by decide : 1 < 3), hC4'⟩ miss ?_
        rw [nI_1]
        refine ih (j + 1) i l M3 P (by omega) hi hl ho hli sk3 G3 (fun j' z => ?_) (fun i' j' z1 z2 z3 => ?_) (fun l' z1 z2 z3 => ?_) fin
        · rw [fr4.rdi (by decide), ab_rd_n _ _ _ _ (by decide), fr3.rdi (by decide)]
          exact h3 j' z
        · rw [fr4.rdi (by decide), prr i' j' z1 z2]
          unfold rs_w
          by_cases q : i' < i
          · rw [if_pos q, if_pos q]
          · rw [if_neg q, if_neg q, if_neg z3, if_neg z3]
        · rw [fr4.rdi (by decide), ab_rd_n _ _ _ _ (by decide), fr3.rdi (by decide)]
          exact h5 l' z1 z2 z3
  -- a row's prices are kept
  have l11 : ∀ (k i : Nat) (M : ab_M), i + k = cn_of (gw_o m) nL → iv_sk m M → gw_G m nF nL M nF nL → (∀ i' j', i' < cn_of (gw_o m) nL → j' < cn_of (gw_k m) nF + cn_of (gw_o m) nL → (ab_rd M 73 (48 * i' + j')).toInt = if i' < i then (if j' = mx_c nL nF (gw_o m) (gw_k m) v i' then gw m nP nF nL i' j' else 10000000) else gw m nP nF nL i' j') → (∀ l', l' < nL → gw_o m l' → cn_of (gw_o m) l' < i → ab_rd M 72 l' = if v l' < nF then nI (v l') else -1) → ab_T Z 122 3 (11, [(0, .inl (.ref 8)), (1, .inl (.int a)), (2, .inl (.int (nI i)))], [], M) (fun r m9 => (∃ a : Int32, r = some a ∧ a.toInt = c) ∧ iv_sk m m9 ∧ ∀ l, l < nL → gw_o m l → ab_rd m9 72 l = if v l < nF then nI (v l) else -1) := by
    intro k
    induction k with
    | zero =>
      intro i M hi h1 h2 h3 h4
      exact tk_M_matches_11_1 (by rw [h2.2.2.1, ← hi]; exact Int32.le_refl _) ⟨⟨a, rfl, ea⟩, h1, fun l hl ho => h4 l hl ho (by have := cn_lt hl ho; omega)⟩
    | succ k ih =>
      intro i M hi h1 h2 h3 h4
      have hi' : i < cn_of (gw_o m) nL := by omega
      obtain ⟨l, e1, e2, e3, e4⟩ := mx_row hi'
      refine tk_M_matches_11_0 (by rw [h2.2.2.1]; exact nI_ge hi' (by omega)) ?_
      have l21 : ∀ (f j : Nat) (N : ab_M), j + f = cn_of (gw_k m) nF + cn_of (gw_o m) nL → fr_M [74] M N → (∀ j', j' < j → (ab_rd N 74 j').toInt = gw m nP nF nL i j') → ab_T Z 122 3 (21, [(0, .inl (.ref 8)), (1, .inl (.int a)), (2, .inl (.int (nI i))), (3, .inl (.int (nI j)))], [], N) (fun r m9 => (∃ a : Int32, r = some a ∧ a.toInt = c) ∧ iv_sk m m9 ∧ ∀ l, l < nL → gw_o m l → ab_rd m9 72 l = if v l < nF then nI (v l) else -1) := by
        intro f
        induction f with
        | zero =>
          intro j N hj hN hin
          have GN : gw_G m nF nL N nF nL := h2.fr hN (by decide)
          have eL : ab_rd N 70 (nI i).toNatClampNeg = nI l := by rw [ab_cl (by omega), ← e3]; exact GN.2.2.2 l e1 e2
          refine tk_M_matches_21_1 ⟨(by decide : 0 < 3), ct_M_columns hZ N⟩ (by rw [col N GN]; exact nI_le (by omega) (by omega)) (ab_in (by omega) (by decide)) (by rw [eL]; exact ab_in (by omega) (by decide)) ?_
          rw [eL, ab_cl (by omega)]
          refine l66 (mx_c nL nF (gw_o m) (gw_k m) v i) 0 i l _ _ (by omega) hi' e1 e2 e3 ((h1.trans (hN.sk (by decide))).trans (iv_sk.s _ _ _ (by decide) (by decide))) (GN.fr ((fr_M.refl [72] N).wr (by decide) _ _) (by decide)) (fun j' z => ?_) (fun i' j' z1 z2 z3 => ?_) (fun l' z1 z2 z3 => ?_) (fun M' g1 g2 g3 g4 => ih (i + 1) M' (by omega) g1 g2 (fun i' j' z1 z2 => ?_) g4)
          · rw [ab_rd_n _ _ _ _ (by decide)]
            exact hin j' (by omega)
          · rw [ab_rd_n _ _ _ _ (by decide), hN.rdi (by decide), h3 i' j' z1 z2]
            unfold rs_w
            by_cases q : i' < i
            · rw [if_pos q, if_pos q]
            · rw [if_neg q, if_neg q, if_neg z3]
          · have : l' ≠ l := fun e => by rw [e, e3] at z3; omega
            rw [ab_rd_p, if_neg this, hN.rdi (by decide)]
            exact h4 l' z1 z2 z3
          · rw [g3 i' j' z1 z2]
            unfold rs_w
            by_cases q : i' < i
            · rw [if_pos q, if_pos (show i' < i + 1 by omega)]
            · rw [if_neg q]
              by_cases q2 : i' = i
              · rw [if_pos q2, if_pos (show i' < i + 1 by omega), q2]
              · rw [if_neg q2, if_neg (show ¬ i' < i + 1 by omega)]
        | succ f ihf =>
          intro j N hj hN hin
          have GN : gw_G m nF nL N nF nL := h2.fr hN (by decide)
          have hlt : ¬ ab_rd N 8 34 + ab_rd N 8 33 ≤ nI j := by rw [col N GN]; exact nI_ge (by omega) (by omega)
          refine tk_M_matches_21_0 ⟨(by decide : 0 < 3), ct_M_columns hZ N⟩ hlt (by rw [nI_48a]; exact ab_in (by omega) (by decide)) (ab_in (by omega) (by decide)) ?_
          rw [nI_1, nI_48a, ab_cl (by omega), ab_cl (by omega)]
          refine ihf (j + 1) _ (by omega) (hN.wr (by decide) _ _) (fun j' z => ?_)
          rw [ab_rd_p]
          by_cases e : j' = j
          · rw [if_pos e, hN.rdi (by decide), h3 i j hi' (by omega), if_neg (Nat.lt_irrefl i), e]
          · rw [if_neg e]
            exact hin j' (by omega)
      exact l21 (cn_of (gw_k m) nF + cn_of (gw_o m) nL) 0 M (by omega) (fr_M.refl _ M) (fun j' hj' => by omega)
  refine ab_Ki hZ (tk_M_matches_0_0 ⟨(by decide : 2 < 3), hC1⟩ ⟨(by decide : 1 < 3), hC2⟩ (l11 (cn_of (gw_o m) nL) 0 m2 (by omega) (sk1.trans (fr2.sk (by decide))) (G1.fr fr2 (by decide)) (fun i' j' z1 z2 => ?_) (fun l' _ _ z => by omega))) (fun r m1 h => by obtain ⟨⟨v, rfl, -⟩, -⟩ := h; trivial) (by decide) (Nat.le_of_ble_eq_true rfl)
  rw [fr2.rdi (by decide), pr1 i' j' z1 z2, if_neg (by omega)]
