/-! Copies: the reference's array into another, the class's tree and image into others. -/
section CPY
variable {B X Y : Nat} {S S' : z_S} {T : m_T} {O : m_O} {f f' : Nat → Int32}
theorem K_keep_loop {a1 a2 : Nat} (h12 : a1 ≠ a2) : ∀ (m n i : Nat) (S : z_S), i + m = 25366 → m < n → (∀ j, j < i → S.1 a2 j = S.1 a1 j) →
    ∃ g, (∀ j, j < 25366 → g j = S.1 a1 j) ∧ F_X6_keep_2 B a1 25366 a2 25366 n (nI i) S = some (.inl none, z_ua S a2 g)
  | 0, n, i, S, hi, hn, hz => by
    obtain ⟨n, rfl⟩ : ∃ j, n = j + 1 := ⟨n - 1, by omega⟩
    have e1 : (25366 : Int32) ≤ nI i := by rw [show (25366 : Int32) = nI 25366 from rfl]; exact nI_le (by omega) (by omega)
    refine ⟨S.1 a2, fun j hj => hz j (by omega), ?_⟩
    rw [F_X6_keep_2, if_pos e1, z_ua_same]
  | m + 1, n, i, S, hi, hn, hz => by
    obtain ⟨n, rfl⟩ : ∃ j, n = j + 1 := ⟨n - 1, by omega⟩
    have e1 : ¬ (25366 : Int32) ≤ nI i := by rw [show (25366 : Int32) = nI 25366 from rfl]; exact nI_ge (by omega) (by omega)
    have ea : (z_ua S a2 (upd (S.1 a2) i (S.1 a1 i))).1 a1 = S.1 a1 := by rw [m_ua1, if_neg h12]
    obtain ⟨g, g1, g2⟩ := K_keep_loop h12 m n (i + 1) (z_ua S a2 (upd (S.1 a2) i (S.1 a1 i))) (by omega) (by omega) (fun j hj => by
      rw [ea, m_ua1, if_pos rfl]
      by_cases e : j = i
      · rw [e, pk_us]
      · rw [pk_un e]; exact hz j (by omega))
    rw [z_ua_ua] at g2
    rw [ea] at g1
    refine ⟨g, g1, ?_⟩
    rw [F_X6_keep_2, if_neg e1, m_gd (m_inb (by omega) (by omega)), m_lt, m_ix (by omega), m_gd (m_inb (by omega) (by omega)), m_lt, nI_1]
    exact g2
theorem K_keep {a1 a2 : Nat} (h12 : a1 ≠ a2) : ∃ g, (∀ j, j < 25366 → g j = S.1 a1 j) ∧ F_X6_keep B a1 25366 a2 25366 S = some (.inl none, z_ua S a2 g) :=
  K_keep_loop h12 25366 z_n 0 S (by omega) (by unfold z_n; omega) (fun j hj => by omega)
theorem k_T_cg (hB : B ≤ 96) (h : k_T B X Y f T) (he : ∀ j, j < 25366 → f' j = f j) : k_T B X Y f' T := by
  obtain ⟨g1, g2, g3, g4, g5, g6, g7, g8⟩ := h
  refine ⟨fun b hb => ?_, fun b hb => ?_, fun b hb hu => ?_, fun b hb hY hu => ?_, fun b hb hX hu => ?_, fun h hh => ?_, ?_, ?_⟩
  · rw [he _ (by omega)]; exact g1 b hb
  · rw [he _ (by omega)]; exact g2 b hb
  · obtain ⟨q1, q2, q3⟩ := g3 b hb hu
    refine ⟨by rw [he _ (by omega)]; exact q1, fun a ha => m_l_kept (q2 a ha) (fun j hj => ?_), q3⟩
    rw [List.length_map] at hj
    exact he _ (by omega)
  · obtain ⟨q1, q2, q3⟩ := g4 b hb hY hu
    refine ⟨by rw [he _ (by omega)]; exact q1, m_l_kept q2 (fun j hj => ?_), q3⟩
    rw [List.length_map] at hj
    exact he _ (by omega)
  · rw [he _ (by omega)]; exact g5 b hb hX hu
  · obtain ⟨q1, q2, q3⟩ := g6 h hh
    refine ⟨by rw [he _ (by omega)]; exact q1, m_l_kept q2 (fun j hj => ?_), q3⟩
    rw [List.length_map] at hj
    exact he _ (by omega)
  · rw [he _ (by omega)]; exact g7
  · rw [he _ (by omega)]; exact g8
theorem im_len (h : m_im B T O) {o : Nat} (ho : oK O o = 2) : (oP O o).length ≤ 16 := by
  obtain ⟨e, hz⟩ := h.2.2.2.2.2.2.2.2.1 o ho
  rw [e]
  exact dt_le hz
theorem k_O_cg (hB : B ≤ 96) (hi : m_im B T O) (h : k_O B f T O) (he : ∀ j, (96 ≤ j ∧ j < 3756) ∨ (13078 ≤ j ∧ j < 25366) → f' j = f j) : k_O B f' T O := by
  obtain ⟨g1, g2, g3, g4, g5⟩ := h
  refine ⟨fun o h1 h2 => ?_, fun o h1 h2 hk => ?_, fun o h1 h2 hk => ?_, fun b hb hu r hr => ?_, fun o h1 h2 hk ht r hr => ?_⟩
  · rw [he _ (by omega)]; exact g1 o h1 h2
  · rw [he _ (by omega), he _ (by omega), he _ (by omega)]; exact g2 o h1 h2 hk
  · refine m_l_kept (g3 o h1 h2 hk) (fun j hj => ?_)
    rw [List.length_map] at hj
    have := im_len hi hk
    exact he _ (by omega)
  · rw [he _ (by omega)]; exact g4 b hb hu r hr
  · rw [he _ (by omega)]; exact g5 o h1 h2 hk ht r hr
/-- one copy of a whole array -/
theorem cp1 {a b n : Nat} {k : z_S → Option (z_O × z_S)} (hn : n < 2 ^ 31) : z_gd (z_cok 0 0 (Int32.ofNat n) n n) (z_lt (z_ua S a (va_cpy (S.1 b) (S.1 a) (z_ix 0) (z_ix 0) (z_ix (Int32.ofNat n)))) k) = k (z_ua S a (va_cpy (S.1 b) (S.1 a) 0 0 n)) := by
  have hc : z_cok 0 0 (Int32.ofNat n) n n = true := m_cok (a := 0) (b := 0) (n := n) (by omega) (by omega) hn hn
  rw [m_gd hc, m_lt, show z_ix (0 : Int32) = 0 from rfl, show z_ix (Int32.ofNat n) = n from m_ix hn]
theorem cp_in {g h : Nat → Int32} {n j : Nat} (hj : j < n) : va_cpy g h 0 0 n j = g j := by
  rw [pk_cpy_in (by omega) (by omega)]
  congr 1
  omega
theorem c_T_cp {t u : Nat} (hB : B ≤ 96) (h : c_T B u S T) (h7 : ∀ k, 1 ≤ k → k ≤ 7 → ∀ b, b < B → S'.1 (t + k) b = S.1 (u + k) b) (h8 : ∀ j, j < 6 * B → S'.1 (t + 8) j = S.1 (u + 8) j) (h9 : ∀ k, 9 ≤ k → k ≤ 11 → ∀ j, j < 14 * B → S'.1 (t + k) j = S.1 (u + k) j) (h0 : S'.2.1 t 0 = nI B) (h12 : S'.2.1 t 12 = S.2.1 u 12) : c_T B t S' T := by
  obtain ⟨g0, g12, hU, hL, hN, hD⟩ := h
  refine ⟨h0, by rw [h12]; exact g12, fun b hb => by rw [h7 1 (by omega) (by omega) b hb]; exact hU b hb, fun b hb hu => ?_, fun b hb hu => ?_, fun b hb hu => ?_⟩
  · obtain ⟨q3, q4, q9, q10, q11, qn⟩ := hL b hb hu
    refine ⟨by rw [h7 3 (by omega) (by omega) b hb]; exact q3, by rw [h7 4 (by omega) (by omega) b hb]; exact q4, m_l_kept q9 (fun j hj => ?_), m_l_kept q10 (fun j hj => ?_), m_l_kept q11 (fun j hj => ?_), qn⟩
    · rw [List.length_map] at hj; exact h9 9 (by omega) (by omega) _ (by omega)
    · rw [List.length_map] at hj; exact h9 10 (by omega) (by omega) _ (by omega)
    · rw [List.length_map] at hj; exact h9 11 (by omega) (by omega) _ (by omega)
  · obtain ⟨q3, q4, q8, qn⟩ := hN b hb hu
    refine ⟨by rw [h7 3 (by omega) (by omega) b hb]; exact q3, by rw [h7 4 (by omega) (by omega) b hb]; exact q4, m_l_kept q8 (fun j hj => ?_), qn⟩
    rw [List.length_map] at hj; exact h8 _ (by omega)
  · obtain ⟨q2, q5, q6, q7⟩ := hD b hb hu
    exact ⟨by rw [h7 2 (by omega) (by omega) b hb]; exact q2, by rw [h7 5 (by omega) (by omega) b hb]; exact q5, by rw [h7 6 (by omega) (by omega) b hb]; exact q6, by rw [h7 7 (by omega) (by omega) b hb]; exact q7⟩
theorem C_copyT {t u : Nat} (hB : B ≤ 96) (hd : ∀ i j : Nat, i ≤ 11 → j ≤ 11 → ¬ u + i = t + j) (h0 : S.2.1 t 0 = nI B) : ∃ S', F_X4_copyFrom B t u S = some (.inl none, S') ∧ m_fr t S S' ∧ ∀ T, c_T B u S T → c_T B t S' T := by
  have b1 : B < 2 ^ 31 := by omega
  have b6 : 6 * B < 2 ^ 31 := by omega
  have b14 : 14 * B < 2 ^ 31 := by omega
  refine ⟨_, by
    unfold F_X4_copyFrom
    rw [cp1 b1, cp1 b1, cp1 b1, cp1 b1, cp1 b1, cp1 b1, cp1 b1, cp1 b6, cp1 b14, cp1 b14, cp1 b14, m_lt], ?_, fun T hT => ?_⟩
  · exact m_fr_tr (m_fr_tr (m_fr_tr (m_fr_tr (m_fr_tr (m_fr_tr (m_fr_tr (m_fr_tr (m_fr_tr (m_fr_tr (m_fr_tr (m_fr_ua (by omega)) (m_fr_ua (by omega))) (m_fr_ua (by omega))) (m_fr_ua (by omega))) (m_fr_ua (by omega))) (m_fr_ua (by omega))) (m_fr_ua (by omega))) (m_fr_ua (by omega))) (m_fr_ua (by omega))) (m_fr_ua (by omega))) (m_fr_ua (by omega))) m_fr_root
  · refine c_T_cp (S := S) (u := u) hB hT (fun k h1 h2 b hb => ?_) (fun j hj => ?_) (fun k h1 h2 j hj => ?_) ?_ ?_
    · obtain rfl | rfl | rfl | rfl | rfl | rfl | rfl : k = 1 ∨ k = 2 ∨ k = 3 ∨ k = 4 ∨ k = 5 ∨ k = 6 ∨ k = 7 := by omega
      all_goals simp [m_ui1, m_ua1, hd, cp_in hb]
    · simp [m_ui1, m_ua1, hd, cp_in hj]
    · obtain rfl | rfl | rfl : k = 9 ∨ k = 10 ∨ k = 11 := by omega
      all_goals simp [m_ui1, m_ua1, hd, cp_in hj]
    · rw [m_ui2, if_pos rfl, if_neg (by decide)]
      exact h0
    · rw [m_ui2, if_pos rfl, if_pos rfl]
      rfl
theorem c_O_cp {t u : Nat} (hB : B ≤ 96) (hi : m_im B T O) (h : c_O B u S T O) (h1 : ∀ k, 14 ≤ k → k ≤ 17 → ∀ o, o < 61 → S'.1 (t + k) o = S.1 (u + k) o) (h2 : ∀ j, j < 976 → S'.1 (t + 18) j = S.1 (u + 18) j) (h3 : ∀ j, j < 128 * B → S'.1 (t + 19) j = S.1 (u + 19) j) (h4 : ∀ j, j < 2440 → S'.1 (t + 20) j = S.1 (u + 20) j) : c_O B t S' T O := by
  obtain ⟨g1, g2, g3, g4, g5, g6⟩ := h
  refine ⟨fun o o1 o2 => ?_, fun o o1 o2 hk => ?_, fun o o1 o2 hk => ?_, fun o o1 o2 hk => ?_, fun b hb hu r hr => ?_, fun o o1 o2 hk r hr => ?_⟩
  · rw [h1 14 (by omega) (by omega) o (by omega)]; exact g1 o o1 o2
  · rw [h1 15 (by omega) (by omega) o (by omega), h1 16 (by omega) (by omega) o (by omega)]; exact g2 o o1 o2 hk
  · rw [h1 17 (by omega) (by omega) o (by omega)]; exact g3 o o1 o2 hk
  · refine m_l_kept (g4 o o1 o2 hk) (fun j hj => ?_)
    rw [List.length_map] at hj
    have := im_len hi hk
    exact h2 _ (by omega)
  · rw [h3 _ (by omega)]; exact g5 b hb hu r hr
  · have := tl_le (z := oZ O o)
    rw [h4 _ (by omega)]; exact g6 o o1 o2 hk r hr
/-- the image copied -/
theorem C_copyI {t u : Nat} (hB : B ≤ 96) (hd : ∀ i j : Nat, i ≤ 20 → j ≤ 20 → ¬ u + i = t + j) (h0 : S.2.1 (t + 1) 0 = nI B) :
    ∃ S', F_X0_copyFrom B t u S = some (.inl none, S') ∧ ((∀ a, (a ≤ t ∨ t + 20 < a) → S'.1 a = S.1 a) ∧ (∀ a k, ¬ (a = t + 1 ∧ k = 12) → S'.2.1 a k = S.2.1 a k) ∧ S'.2.2 = S.2.2) ∧ ∀ T O, m_im B T O → c_T B (u + 1) S T → c_O B u S T O → c_T B (t + 1) S' T ∧ c_O B t S' T O := by
  obtain ⟨S1, a1, f1, t1⟩ := C_copyT (S := S) (t := t + 1) (u := u + 1) hB (fun i j hi hj e => hd (1 + i) (1 + j) (by omega) (by omega) (by omega)) h0
  have b128 : 128 * B < 2 ^ 31 := by omega
  have hsrc : ∀ k, 14 ≤ k → k ≤ 20 → S1.1 (u + k) = S.1 (u + k) := fun k k1 k2 => f1.1 _ (by
    by_cases hc : u + k ≤ t + 1 ∨ t + 1 + 11 < u + k
    · exact hc
    · exfalso
      exact hd k (u + k - t) (by omega) (by omega) (by omega))
  refine ⟨_, by
    unfold F_X0_copyFrom
    rw [a1, m_bo, F_X2_copyFrom, cp1 (n := 61) (by decide), cp1 (n := 61) (by decide), cp1 (n := 61) (by decide), cp1 (n := 61) (by decide), cp1 (n := 976) (by decide), m_bo, cp1 b128, cp1 (n := 2440) (by decide)], ⟨fun a ha => ?_, fun a k ha => ?_, ?_⟩, fun T O hi hT hO => ⟨?_, ?_⟩⟩
  · simp only [m_ua1]
    rw [if_neg (by omega), if_neg (by omega), if_neg (by omega), if_neg (by omega), if_neg (by omega), if_neg (by omega), if_neg (by omega), f1.1 a (by omega)]
  · exact f1.2.1 a k ha
  · exact f1.2.2
  · refine c_T_cg (t1 T hT) (fun a h1 h2 => ?_) rfl rfl
    simp only [m_ua1]
    rw [if_neg (by omega), if_neg (by omega), if_neg (by omega), if_neg (by omega), if_neg (by omega), if_neg (by omega), if_neg (by omega)]
  · have hd2 : ∀ i j : Nat, i ≤ 7 → j ≤ 7 → ¬ u + 13 + i = t + 13 + j := fun i j hi hj e => hd (13 + i) (13 + j) (by omega) (by omega) (by omega)
    refine c_O_cp (S := S) (u := u) hB hi hO (fun k h1 h2 o ho => ?_) (fun j hj => ?_) (fun j hj => ?_) (fun j hj => ?_)
    · have hs := hsrc k (by omega) (by omega)
      obtain rfl | rfl | rfl | rfl : k = 14 ∨ k = 15 ∨ k = 16 ∨ k = 17 := by omega
      all_goals
        rw [← hs]
        simp [m_ua1, Nat.add_assoc, hd, cp_in ho]
    · have hs := hsrc 18 (by omega) (by omega)
      rw [← hs]
      simp [m_ua1, Nat.add_assoc, hd, cp_in hj]
    · have hs := hsrc 19 (by omega) (by omega)
      rw [← hs]
      simp [m_ua1, Nat.add_assoc, hd, cp_in hj]
    · have hs := hsrc 20 (by omega) (by omega)
      rw [← hs]
      simp [m_ua1, Nat.add_assoc, hd, cp_in hj]
end CPY
