/-- where a method returns -/
def ab_Rt (Z : ab_Z) (X : ab_X) (k : Nat) (r : Option Int32) (m : ab_M) : Prop := ∀ (pc : Nat) (L : List (Nat × ab_V)), ab_rpc k r pc → ab_G Z X (pc, L, r.toList.map (fun x => .inl (.int x)), m)
theorem ab_rpci {k pc : Nat} {cd : List ab_E} {v : Int32} (hcd : cd.all (ab_ok k) = true) (h : cd.any (ab_eb (pc, .ireturn, 0, 0, 0, pc + 1)) = true) : ab_rpc k (some v) pc := by
  obtain ⟨f, hf, hef⟩ := List.any_eq_true.mp h
  have h2 := List.all_eq_true.mp hcd f hf
  rw [← ab_eb_eq hef] at h2
  obtain ⟨len, h3, h4⟩ := ab_dec h2 (fun q => by cases q)
  simp only [ab_oki, Bool.and_eq_true, decide_eq_true_eq] at h4
  rw [h4.1] at h3
  exact h3
theorem ab_rpcv {k pc : Nat} {cd : List ab_E} (hcd : cd.all (ab_ok k) = true) (h : cd.any (ab_eb (pc, .return_, 0, 0, 0, pc + 1)) = true) : ab_rpc k none pc := by
  obtain ⟨f, hf, hef⟩ := List.any_eq_true.mp h
  have h2 := List.all_eq_true.mp hcd f hf
  rw [← ab_eb_eq hef] at h2
  obtain ⟨len, h3, h4⟩ := ab_dec h2 (fun q => by cases q)
  simp only [ab_oki, Bool.and_eq_true, decide_eq_true_eq] at h4
  rw [h4.1] at h3
  exact h3
/-- from here method k comes to its end, and what it answers and leaves is as P says -/
def ab_T (Z : ab_Z) (k d : Nat) (st : ab_S) (P : Option Int32 → ab_M → Prop) : Prop := ∃ (r : Option Int32) (m : ab_M), P r m ∧ ∀ X : ab_X, ab_okX Z X ∧ ab_xk X = k → ab_xd X = d → ab_Rt Z X k r m → ab_G Z X st
/-- a contract: what it answers and leaves is as P says -/
def ab_K (Z : ab_Z) (d k : Nat) (As : List ab_V) (m : ab_M) (P : Option Int32 → ab_M → Prop) : Prop := ∃ (r : Option Int32) (m1 : ab_M), ab_C Z d k As m r m1 ∧ P r m1
theorem ab_Ki {Z : ab_Z} {d k : Nat} {As : List ab_V} {m : ab_M} {P : Option Int32 → ab_M → Prop} (hZ : ab_okZ Z) (h : ab_T Z k d (0, ab_loc 0 As, [], m) P) (hrk : ∀ r m1, P r m1 → ab_rk k r) (hk : k < ab_NM - 1) (hsl : ab_rsl As ≤ ab_mL k) : ab_K Z d k As m P := by
  obtain ⟨r, m1, hP, hg⟩ := h
  exact ⟨r, m1, ab_intro hk hZ hsl (hrk r m1 hP) (fun X hX hd hR => hg X hX hd hR), hP⟩
theorem ab_T.mono {Z : ab_Z} {k d : Nat} {st : ab_S} {P Q : Option Int32 → ab_M → Prop} (h : ab_T Z k d st P) (hPQ : ∀ r m, P r m → Q r m) : ab_T Z k d st Q := by
  obtain ⟨r, m, hP, hg⟩ := h
  exact ⟨r, m, hPQ r m hP, hg⟩
theorem ab_K.mono {Z : ab_Z} {d k : Nat} {As : List ab_V} {m : ab_M} {P Q : Option Int32 → ab_M → Prop} (h : ab_K Z d k As m P) (hPQ : ∀ r m, P r m → Q r m) : ab_K Z d k As m Q := by
  obtain ⟨r, m, hC, hP⟩ := h
  exact ⟨r, m, hC, hPQ r m hP⟩
/-- an int answer, the cells known -/
theorem ab_Kc {Z : ab_Z} {d k : Nat} {As : List ab_V} {m m1 : ab_M} {v : Int32} (hZ : ab_okZ Z) (h : ab_T Z k d (0, ab_loc 0 As, [], m) (fun r m9 => r = some v ∧ m9 = m1)) (hrk : ab_rk k (some v)) (hk : k < ab_NM - 1) (hsl : ab_rsl As ≤ ab_mL k) : ab_C Z d k As m (some v) m1 := by
  obtain ⟨r, m9, ⟨rfl, rfl⟩, hg⟩ := h
  exact ab_intro hk hZ hsl hrk (fun X hX hd hR => hg X hX hd hR)
theorem ab_Kv {Z : ab_Z} {d k : Nat} {As : List ab_V} {m m1 : ab_M} (hZ : ab_okZ Z) (h : ab_T Z k d (0, ab_loc 0 As, [], m) (fun r m9 => r = none ∧ m9 = m1)) (hrk : ab_rk k none) (hk : k < ab_NM - 1) (hsl : ab_rsl As ≤ ab_mL k) : ab_C Z d k As m none m1 := by
  obtain ⟨r, m9, ⟨rfl, rfl⟩, hg⟩ := h
  exact ab_intro hk hZ hsl hrk (fun X hX hd hR => hg X hX hd hR)
