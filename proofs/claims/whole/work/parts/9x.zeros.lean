/-! Zero behind a file's end: kept by every call. -/
theorem m_z_cg {O O' : m_O} (h : m_z O) (hk : ∀ x, oK O' x = 2 → oP O' x = [] ∨ (oK O x = 2 ∧ oP O' x = oP O x ∧ oZ O' x = oZ O x)) (hD : oD O' = oD O) : m_z O' := by
  intro x hx i b r hi hr hle
  rcases hk x hx with w | ⟨w1, w2, w3⟩
  · rw [w] at hi; simp at hi
  · rw [w2] at hi
    rw [w3] at hle
    rw [hD]; exact h x w1 i b r hi hr hle
section ZE
variable {B J : Nat} {A : m_A} {ch : Nat → Bool}
theorem G_fail_z {p : Int32} (hZ : AZ A) : AZ (A_fail A p).2 := by
  unfold A_fail
  split
  · exact hZ
  · exact hZ
theorem G_checkpoint_z (hZ : AZ A) : AZ (A_checkpoint B A).2.2 := by
  unfold A_checkpoint
  split
  · exact hZ
  · exact hZ
theorem G_recover_z (hZ : AZ A) : AZ (A_recover B A).2.2 := by
  unfold A_recover
  split
  · exact hZ
  · exact ⟨hZ.2, hZ.2⟩
theorem G_back_z (hZ : AZ A) : AZ (A_back B A ch).2.2 := by
  unfold A_back
  split
  · exact ⟨hZ.2, hZ.2⟩
  · exact hZ
theorem G_make_z {p1 p2 p3 : Int32} (hA : AI B J A) (hZ : AZ A) : AZ (A_make B A p1 p2 p3).2.2 := by
  unfold A_make
  split
  · split
    · rename_i e1
      obtain ⟨d, hd, d1, d2, d3⟩ := dk_some (O := A.1.2) (p := p1) (by omega)
      split
      · split
        · subst hd
          rw [nI_clamp (by omega)]
          unfold A_make3
          split
          · exact hZ
          · rename_i o hf
            unfold A_make4
            split
            · exact hZ
            · split
              · exact hZ
              · refine ⟨m_z_cg hZ.1 (fun x hx => ?_) rfl, hZ.2⟩
                by_cases e : x = o
                · exact Or.inl (by rw [e]; exact l_up_s)
                · have hx' : oK A.1.2 x = 2 := by rw [← show oK (o_make A.1.2 d o (if p3 = 0 then 2 else 1)) x = oK A.1.2 x from l_up_n e]; exact hx
                  have e2 : x ≠ d := fun z => by rw [z, d3, e1] at hx'; cases hx'
                  exact Or.inr ⟨hx', l_up_n e, (l_up_n e2).trans (l_up_n e)⟩
        · exact hZ
      · exact hZ
    · exact hZ
  · exact hZ
theorem G_link_z {p1 p2 p3 : Int32} (hA : AI B J A) (hZ : AZ A) : AZ (A_link B A p1 p2 p3).2.2 := by
  unfold A_link
  split
  · split
    · rename_i e1
      obtain ⟨d, hd, d1, d2, d3⟩ := dk_some (O := A.1.2) (p := p1) (by omega)
      split
      · split
        · split
          · subst hd
            rw [nI_clamp (show d < 2 ^ 31 by omega)]
            unfold A_link2
            split
            · exact hZ
            · refine ⟨m_z_cg hZ.1 (fun x hx => ?_) rfl, hZ.2⟩
              have hx' : oK A.1.2 x = 2 := hx
              have e2 : x ≠ d := fun z => by rw [z, d3, e1] at hx'; cases hx'
              exact Or.inr ⟨hx', rfl, l_up_n e2⟩
          · exact hZ
        · exact hZ
      · exact hZ
    · exact hZ
  · exact hZ
theorem G_move_z {p1 p2 p3 p4 : Int32} (hA : AI B J A) (hZ : AZ A) : AZ (A_move B A p1 p2 p3 p4).2.2 := by
  unfold A_move
  split
  · split
    · rename_i e1
      obtain ⟨d, hd, d1, d2, d3⟩ := dk_some (O := A.1.2) (p := p1) (by omega)
      split
      · rename_i e3
        obtain ⟨t, ht, t1, t2, t3⟩ := dk_some (O := A.1.2) (p := p3) (by omega)
        split
        · exact hZ
        · split
          · split
            · split
              · exact hZ
              · subst hd; subst ht
                rw [nI_clamp (show d < 2 ^ 31 by omega), nI_clamp (show t < 2 ^ 31 by omega)]
                unfold A_move2
                split
                · exact hZ
                · refine ⟨m_z_cg hZ.1 (fun x hx => ?_) rfl, hZ.2⟩
                  have hx' : oK A.1.2 x = 2 := hx
                  have n1 : x ≠ d := fun z => by rw [z, d3, e1] at hx'; cases hx'
                  have n2 : x ≠ t := fun z => by rw [z, t3, e3] at hx'; cases hx'
                  exact Or.inr ⟨hx', rfl, (l_up_n n2).trans (l_up_n n1)⟩
            · exact hZ
          · exact hZ
      · exact hZ
    · exact hZ
  · exact hZ
theorem G_unlink_z {p1 p2 : Int32} (hA : AI B J A) (hZ : AZ A) : AZ (A_unlink B A p1 p2).2.2 := by
  unfold A_unlink
  split
  · split
    · rename_i e1
      obtain ⟨d, hd, d1, d2, d3⟩ := dk_some (O := A.1.2) (p := p1) (by omega)
      split
      · exact hZ
      · split
        · exact hZ
        · subst hd
          rw [nI_clamp (show d < 2 ^ 31 by omega)]
          generalize (d_ea A.1.1 d p2).toNatClampNeg = o
          unfold A_unl2
          split
          · split
            · exact hZ
            · refine ⟨m_z_cg hZ.1 (fun x hx => ?_) rfl, hZ.2⟩
              by_cases e : x = o
              · rw [e, show oK (o_fgt A.1.2 d o) o = 0 from l_up_s] at hx; cases hx
              · have hx' : oK A.1.2 x = 2 := by rw [← show oK (o_fgt A.1.2 d o) x = oK A.1.2 x from l_up_n e]; exact hx
                have n1 : x ≠ d := fun z => by rw [z, d3, e1] at hx'; cases hx'
                exact Or.inr ⟨hx', rfl, l_up_n n1⟩
          · refine ⟨m_z_cg hZ.1 (fun x hx => ?_) rfl, hZ.2⟩
            have hx' : oK A.1.2 x = 2 := hx
            have n1 : x ≠ d := fun z => by rw [z, d3, e1] at hx'; cases hx'
            exact Or.inr ⟨hx', rfl, l_up_n n1⟩
    · exact hZ
  · exact hZ
theorem A_take_z {n : Nat} (hZ : AZ A) : AZ (A_take B n A ch) := by
  unfold A_take
  split
  · exact ⟨hZ.1, hZ.1⟩
  · exact hZ
theorem G_commit_z (hZ : AZ A) : AZ (A_commit B J A ch).2.2 := by
  unfold A_commit
  split
  · split
    · exact hZ
    · split
      · split
        · exact A_take_z hZ
        · split
          · exact A_take_z (A := (A.1, A.2.1, (p_home B A.2.2).2)) hZ
          · exact hZ
      · exact hZ
  · exact hZ
end ZE
