/-- where a method returns -/
def ab_Rt (Z : ab_Z) (X : ab_X) (k : Nat) (r : Option Int32) (m : ab_M) : Prop := ∀ (pc : Nat) (L : List (Nat × ab_V)), ab_rpc k r pc → ab_G Z X (pc, L, r.toList.map (fun x => .inl (.int x)), m)
theorem ab_rpci {k pc : Nat} {cd : List ab_E} {v : Int32} (hcd : cd.all (ab_ok k) = true) (h : cd.any (ab_eb (pc, .ireturn, 0, 0, 0, pc + 1)) = true) : ab_rpc k (some v) pc := by
  obtain ⟨f, hf, hef⟩ := List.any_eq_true.mp h
  have h2 := List.all_eq_true.mp hcd f hf
  rw [← ab_eb_eq hef] at h2
  obtain ⟨len, h3, h4⟩ := ab_dec h2 (fun q => by cases q)
  simp only [ab_oki, Bool.and_eq_true, decide_eq_true_eq] at h4
  rw [h4.1] at h3
  exact h3
theorem ab_rpcv {k pc : Nat} {cd : List ab_E} (hcd : cd.all (ab_ok k) = true) (h : cd.any (ab_eb (pc, .return_, 0, 0, 0, pc + 1)) = true) : ab_rpc k none pc := by
  obtain ⟨f, hf, hef⟩ := List.any_eq_true.mp h
  have h2 := List.all_eq_true.mp hcd f hf
  rw [← ab_eb_eq hef] at h2
  obtain ⟨len, h3, h4⟩ := ab_dec h2 (fun q => by cases q)
  simp only [ab_oki, Bool.and_eq_true, decide_eq_true_eq] at h4
  rw [h4.1] at h3
  exact h3
