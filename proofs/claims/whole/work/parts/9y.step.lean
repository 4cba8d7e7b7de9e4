/-! One step of a run: class and reference, and what holds behind it. -/
def q_ul (S : z_S) (l : Nat → Int64) : z_S := (S.1, S.2.1, l)
def q_I (B J : Nat) (S : z_S) : Prop := ∃ A, CI B J S A ∧ KI B J S A ∧ AI B J A ∧ AZ A
def q_step (B J : Nat) (Fc Fk : z_S → Option (z_O × z_S)) (Es : List String) : Prop := ∀ S, q_I B J S → ∃ (code : Nat) (w : Int32) (S1 : z_S), Fc S = some (r_o Es code w, S1) ∧ code ≤ Es.length ∧ ∀ l, ∃ v S2, Fk (q_ul S1 l) = some (.inl (some v), S2) ∧ S2.2.1 60 0 = nI code ∧ (code = 0 → v = w) ∧ q_I B J S2 ∧ S2.2.2 = l
section ST
variable {B J : Nat} {S S' S1 : z_S} {A A' : m_A} {ch : Nat → Bool}
theorem step_mk {Fc Fk : z_S → Option (z_O × z_S)} {Es : List String} {code : Nat} {w : Int32} (hK : KI B J S A) (hc : ∃ S1, Fc S = some (r_o Es code w, S1) ∧ CI B J S1 A' ∧ z_cf S S1) (hk : ∀ S, KI B J S A → ∃ v S2, Fk S = some (.inl (some v), S2) ∧ KI B J S2 A' ∧ z_kf S S2 ∧ S2.2.1 60 0 = nI code ∧ (code = 0 → v = w)) (hb : code ≤ Es.length) (hA : AI B J A') (hZ : AZ A') :
    ∃ (code : Nat) (w : Int32) (S1 : z_S), Fc S = some (r_o Es code w, S1) ∧ code ≤ Es.length ∧ ∀ l, ∃ v S2, Fk (q_ul S1 l) = some (.inl (some v), S2) ∧ S2.2.1 60 0 = nI code ∧ (code = 0 → v = w) ∧ q_I B J S2 ∧ S2.2.2 = l := by
  obtain ⟨S1, a1, a2, a3⟩ := hc
  refine ⟨code, w, S1, a1, hb, fun l => ?_⟩
  have k0 : KI B J S1 A := KI_cf hK a3
  have k1 : KI B J (q_ul S1 l) A := k0
  obtain ⟨v, S2, b1, b2, b3, b4, b5⟩ := hk (q_ul S1 l) k1
  have c1 : CI B J (q_ul S1 l) A' := a2
  exact ⟨v, S2, b1, b4, b5, ⟨A', CI_kf c1 b3, b2, hA, hZ⟩, b3.2.2⟩
theorem Z_make {p1 p2 p3 : Int32} : q_step B J (F_X5_make B p1 p2 p3) (F_X6_make B p1 p2 p3) [E_U, E_I, E_A, E_S] := fun S ⟨A, h1, h2, hA, hZ⟩ =>
  step_mk h2 (G_make_c h1 hA) (fun _ h => G_make_k h hA) (by unfold A_make A_make3 A_make4; (repeat' split) <;> simp) (G_make_a hA) (G_make_z hA hZ)
theorem Z_link {p1 p2 p3 : Int32} : q_step B J (F_X5_link B p1 p2 p3) (F_X6_link B p1 p2 p3) [E_U, E_I, E_A, E_S] := fun S ⟨A, h1, h2, hA, hZ⟩ =>
  step_mk h2 (G_link_c h1 hA) (fun _ h => G_link_k h hA) (by unfold A_link A_link2; (repeat' split) <;> simp) (G_link_a hA) (G_link_z hA hZ)
theorem Z_unlink {p1 p2 : Int32} : q_step B J (F_X5_unlink B p1 p2) (F_X6_unlink B p1 p2) [E_U, E_I, E_S] := fun S ⟨A, h1, h2, hA, hZ⟩ =>
  step_mk h2 (G_unlink_c h1 hA) (fun _ h => G_unlink_k h hA) (by unfold A_unlink A_unl2; (repeat' split) <;> simp) (G_unlink_a hA) (G_unlink_z hA hZ)
theorem Z_move {p1 p2 p3 p4 : Int32} : q_step B J (F_X5_move B p1 p2 p3 p4) (F_X6_move B p1 p2 p3 p4) [E_U, E_I, E_A, E_S] := fun S ⟨A, h1, h2, hA, hZ⟩ =>
  step_mk h2 (G_move_c h1 hA) (fun _ h => G_move_k h hA) (by unfold A_move A_move2; (repeat' split) <;> simp) (G_move_a hA) (G_move_z hA hZ)
theorem Z_write {p1 p2 p5 : Int32} {p3 : Int64} : q_step B J (F_X5_write B p1 p2 p3 p5) (F_X6_write B p1 p2 p3 p5) [E_U, E_I, E_A, E_S] := fun S ⟨A, h1, h2, hA, hZ⟩ =>
  step_mk h2 (G_write_c h1 hA hZ) (fun _ h => G_write_k h hA) (by unfold A_file A_chg; (repeat' split) <;> simp) (G_file_a (by omega) hA) (G_file_z (by omega) hA hZ)
theorem Z_fill {p1 p2 p3 p4 : Int32} : q_step B J (F_X5_fill B p1 p2 p3 p4) (F_X6_fill B p1 p2 p3 p4) [E_U, E_I, E_A, E_S] := fun S ⟨A, h1, h2, hA, hZ⟩ =>
  step_mk h2 (G_fill_c h1 hA hZ) (fun _ h => G_fill_k h hA) (by unfold A_file A_chg; (repeat' split) <;> simp) (G_file_a (by omega) hA) (G_file_z (by omega) hA hZ)
theorem Z_cut {p1 p2 : Int32} : q_step B J (F_X5_cut B p1 p2) (F_X6_cut B p1 p2) [E_U, E_I, E_A, E_S] := fun S ⟨A, h1, h2, hA, hZ⟩ =>
  step_mk h2 (G_cut_c h1 hA hZ) (fun _ h => G_cut_k h hA) (by unfold A_cut A_chg; (repeat' split) <;> simp) (G_cut_a hA) (G_cut_z hA hZ)
theorem Z_read {p1 p2 : Int32} : q_step B J (F_X5_read B p1 p2) (F_X6_read B p1 p2) [E_U, E_I] := fun S ⟨A, h1, h2, hA, hZ⟩ =>
  step_mk h2 ⟨S, G_read_c h1 hA, h1, z_cf_rf⟩ (fun _ h => G_read_k h hA) (by unfold A_read; (repeat' split) <;> simp) hA hZ
theorem Z_look {p1 p2 : Int32} : q_step B J (F_X5_look B p1 p2) (F_X6_look B p1 p2) [E_U, E_I] := fun S ⟨A, h1, h2, hA, hZ⟩ =>
  step_mk h2 ⟨S, G_look_c h1 hA, h1, z_cf_rf⟩ (fun _ h => G_look_k h hA) (by unfold A_look; (repeat' split) <;> simp) hA hZ
theorem Z_name {p1 p2 : Int32} : q_step B J (F_X5_name B p1 p2) (F_X6_name B p1 p2) [E_U, E_I] := fun S ⟨A, h1, h2, hA, hZ⟩ =>
  step_mk h2 ⟨S, G_name_c h1 hA, h1, z_cf_rf⟩ (fun _ h => G_name_k h hA) (by unfold A_name; (repeat' split) <;> simp) hA hZ
theorem Z_about {p1 p2 : Int32} : q_step B J (F_X5_about B p1 p2) (F_X6_about B p1 p2) [E_U, E_I, E_A] := fun S ⟨A, h1, h2, hA, hZ⟩ =>
  step_mk h2 ⟨S, G_about_c h1 hA, h1, z_cf_rf⟩ (fun _ h => G_about_k h hA) (by unfold A_about; (repeat' split) <;> simp) hA hZ
theorem Z_node {p1 p2 p3 : Int32} : q_step B J (F_X5_node B p1 p2 p3) (F_X6_node B p1 p2 p3) [E_U, E_I, E_A] := fun S ⟨A, h1, h2, hA, hZ⟩ =>
  step_mk h2 ⟨S, G_node_c h1 hA, h1, z_cf_rf⟩ (fun _ h => G_node_k h hA) (by unfold A_node; (repeat' split) <;> simp) hA hZ
theorem Z_item {p1 p2 : Int32} : q_step B J (F_X5_item B p1 p2) (F_X6_item B p1 p2) [E_U, E_I, E_A] := fun S ⟨A, h1, h2, hA, hZ⟩ =>
  step_mk h2 ⟨S, G_item_c h1 hA, h1, z_cf_rf⟩ (fun _ h => G_item_k h hA) (by unfold A_item; (repeat' split) <;> simp) hA hZ
theorem Z_checkpoint : q_step B J (F_X5_checkpoint B) (F_X6_checkpoint B) [E_U] := fun S ⟨A, h1, h2, hA, hZ⟩ =>
  step_mk h2 (G_checkpoint_c h1 hA) (fun _ h => G_checkpoint_k h hA) (by unfold A_checkpoint; (repeat' split) <;> simp) (G_checkpoint_a hA) (G_checkpoint_z hZ)
theorem Z_recover : q_step B J (F_X5_recover B) (F_X6_recover B) [E_S] := fun S ⟨A, h1, h2, hA, hZ⟩ =>
  step_mk h2 (G_recover_c h1 hA) (fun _ h => G_recover_k h hA) (by unfold A_recover; (repeat' split) <;> simp) (G_recover_a hA) (G_recover_z hZ)
theorem Z_count {p : Int32} : q_step B J (F_X5_count B p) (F_X6_count B p) [E_U, E_A] := fun S ⟨A, h1, h2, hA, hZ⟩ => by
  obtain ⟨ch, hch⟩ := chd_ex (B := B) (A := A)
  exact step_mk h2 (G_count_c h1 hA hch) (fun _ h => G_count_k h hA hch) (by unfold A_count; (repeat' split) <;> simp) hA hZ
theorem Z_back : q_step B J (F_X5_back B) (F_X6_back B) [E_U] := fun S ⟨A, h1, h2, hA, hZ⟩ => by
  obtain ⟨ch, hch⟩ := chd_ex (B := B) (A := A)
  exact step_mk h2 (G_back_c h1 hA hch) (fun _ h => G_back_k h hA hch) (by unfold A_back; (repeat' split) <;> simp) (G_back_a hA) (G_back_z hZ)
theorem Z_commit : q_step B J (F_X5_commit B) (F_X6_commit B) [E_U, E_S] := fun S ⟨A, h1, h2, hA, hZ⟩ => by
  obtain ⟨ch, hch⟩ := chd_ex (B := B) (A := A)
  exact step_mk h2 (G_commit_c h1 hA hch) (fun _ h => G_commit_k h hA hch) (by unfold A_commit; (repeat' split) <;> simp) (G_commit_a hA) (G_commit_z hZ)
end ST
