/-! The two calls of another shape: fail and off. -/
section SU
variable {B J : Nat}
theorem Z_fail {p : Int32} : ∀ S, q_I B J S → ∃ (code : Nat) (S1 : z_S), F_X5_fail B p S = some ((if code = 0 then .inl none else .inr E_A), S1) ∧ code ≤ 1 ∧ ∃ S2, F_X6_fail B p S1 = some (.inl none, S2) ∧ S2.2.1 60 0 = nI code ∧ q_I B J S2 ∧ S2.2.2 = S.2.2 := fun S ⟨A, h1, h2, hA, hZ⟩ => by
  obtain ⟨S1, a1, a2, a3⟩ := G_fail_c (p := p) h1
  have k0 : KI B J S1 A := KI_cf h2 a3
  obtain ⟨S2, b1, b2, b3, b4⟩ := G_fail_k (p := p) k0
  exact ⟨(A_fail A p).1, S1, a1, by unfold A_fail; split <;> simp, S2, b1, b4, ⟨_, CI_kf a2 b3, b2, G_fail_a hA, G_fail_z hZ⟩, b3.2.2.trans a3.2.2⟩
theorem Z_off : ∀ S, q_I B J S → ∃ (v : Int32) (S2 : z_S), F_X5_off B S = some (.inl (some v), S) ∧ F_X6_off B S = some (.inl (some v), S2) ∧ q_I B J S2 ∧ S2.2.2 = S.2.2 := fun S ⟨A, h1, h2, hA, hZ⟩ =>
  ⟨A.2.2.1, z_ui S 60 0 0, G_off_c h1 hA, G_off_k h2 hA, ⟨A, CI_kf h1 (z_kf_ui (by decide)), KI_thr h2, hA, hZ⟩, rfl⟩
end SU
