/-! The start: q_I. -/
theorem q_start {B J : Nat} {S : z_S} (h1 : 16 ≤ B) (h2 : B ≤ 96) (h3 : 6 ≤ J) (h4 : J ≤ 64) (b0 : S.2.1 0 0 = nI B) (b43 : S.2.1 43 0 = nI B) (b55 : S.2.1 55 0 = nI J) (c1 : c_T B 2 S T_0) (c2 : c_O B 1 S T_0 O_0) (c3 : c_T B 23 S T_0) (c4 : c_O B 22 S T_0 O_0) (p0 : S.2.1 57 0 = 0) (p1 : S.2.1 57 1 = -1) (p2 : S.2.1 57 2 = 0) (j2 : S.2.1 55 2 = 0) (j3 : S.2.1 55 3 = 0) (j6 : ∀ b, b < B → S.1 56 b = 0)
    (k1 : S.2.1 60 1 = nI B) (k2 : S.2.1 60 2 = nI J) (t1 : k_T B 0 0 (S.1 61) T_0) (t2 : k_O B (S.1 61) T_0 O_0) (t3 : k_T B 0 0 (S.1 63) T_0) (t4 : k_O B (S.1 63) T_0 O_0) (m0 : S.2.1 60 10 = 0) (m1 : S.2.1 60 11 = -1) (m2 : S.2.1 60 13 = 0) (m3 : S.2.1 60 9 = 0) (m4 : S.2.1 60 14 = 0) (m5 : ∀ b, b < 96 → S.1 65 b = 0) : q_I B J S := by
  obtain ⟨a1, a2⟩ := A0_ok h1 h2 h3 h4
  exact ⟨A_0, ⟨⟨b0, b43, b55⟩, ⟨c1, c2⟩, ⟨c3, c4⟩, p0, p1, p2, j2, j3, j6⟩, ⟨⟨k1, k2⟩, ⟨t1, t2⟩, ⟨t3, t4⟩, m0, m1, m2, m3, m4, m5⟩, a1, a2⟩
