/-! back and commit: class and reference answer alike. -/
section BK
variable {B J : Nat} {S S' : z_S} {A : m_A} {P : m_P} {ch : Nat → Bool}
def A_back (B : Nat) (A : m_A) (ch : Nat → Bool) : Nat × Int32 × m_A := if A.2.2.1 = 0 then (0, nI (p_cnt (fun b => i_b (ch b)) B 0), A.2.1, A.2.1, A.2.2) else (1, 0, A)
theorem G_back_a (hA : AI B J A) : AI B J (A_back B A ch).2.2 := by
  unfold A_back
  split
  · exact ⟨hA.1, hA.2.2.1, hA.2.2.1, hA.2.2.2⟩
  · exact hA
theorem G_back_c (h : CI B J S A) (hA : AI B J A) (hch : m_chd B A ch) : ∃ S1, F_X5_back B S = some (r_o [E_U] (A_back B A ch).1 (A_back B A ch).2.1, S1) ∧ CI B J S1 (A_back B A ch).2.2 ∧ z_cf S S1 := by
  unfold F_X5_back A_back
  rw [C_needPower h hA]
  by_cases e : A.2.2.1 = 0
  · obtain ⟨g, -, g2⟩ := C_markChanged h hA hch
    obtain ⟨S1, a1, c1, f1, -⟩ := C_nowFrom (CI_58 (g := g) h) hA
    rw [if_pos e, if_pos e, m_bv, g2, m_bn, a1, m_bo]
    exact ⟨S1, rfl, c1, z_cf_tr (z_cf_ua (by decide)) f1⟩
  · rw [if_neg e, if_neg e, m_bvx]
    exact ⟨S, rfl, h, z_cf_rf⟩
theorem G_back_k (h : KI B J S A) (hA : AI B J A) (hch : m_chd B A ch) : ∃ v S2, F_X6_back B S = some (.inl (some v), S2) ∧ KI B J S2 (A_back B A ch).2.2 ∧ z_kf S S2 ∧ S2.2.1 60 0 = nI (A_back B A ch).1 ∧ ((A_back B A ch).1 = 0 → v = (A_back B A ch).2.1) := by
  unfold F_X6_back A_back
  rw [h.2.2.2.1]
  by_cases e : A.2.2.1 = 0
  · have h0 := KI_thr (v := 0) h
    obtain ⟨g, a1, k1⟩ := K_nowFrom h0 hA
    rw [if_pos e, if_pos e, F_X6_back_13, m_lt, z_thr, if_pos (by decide), K_changed h0 hA hch, m_bn, a1, m_bo]
    exact ⟨_, _, rfl, k1, z_kf_tr (z_kf_ui (by decide)) (z_kf_ua (by decide)), z_thr, fun _ => rfl⟩
  · rw [if_neg e, if_neg e, F_X6_back_13, m_lt, z_thr, if_neg (by decide)]
    exact ⟨_, _, rfl, KI_thr h, z_kf_ui (by decide), z_thr, fun z => by cases z⟩
/-- the writes of a commit: the class -/
theorem C_takes_loop {h : Nat → Int32} (hB : B ≤ 96) : ∀ (m n i u : Nat) (S : z_S) (P : m_P), i + m = B → m < n → pC S P → (∀ b, b < B → S.1 58 b = h b) →
    ∃ S', pC S' (p_gos (p_cnt h m i + 1) P).2 ∧ z_pc S S' ∧ F_X1_takes_14 B 58 B n (nI u) (nI i) S = if (p_gos (p_cnt h m i + 1) P).1 = true then F_X1_takes_58 B 58 B z_n (nI (u + p_cnt h m i)) 0 S' else some (.inl (some 0), S')
  | 0, n, i, u, S, P, hi, hn, hp, hh => by
    obtain ⟨n, rfl⟩ : ∃ j, n = j + 1 := ⟨n - 1, by omega⟩
    obtain ⟨S1, a1, p1, f1⟩ := C_go (B := B) hp
    have e1 : (Int32.ofNat B) ≤ nI i := nI_le (a := B) (by omega) (by omega)
    rw [F_X1_takes_14, if_pos e1, a1, m_bn, p_cnt, p_gos]
    by_cases hg : (p_go P).1 = true
    · rw [if_pos hg]
      refine ⟨S1, p1, f1, ?_⟩
      rw [if_pos (show (p_gos 0 (p_go P).2).1 = true from rfl), hg, if_neg (by decide)]; rfl
    · rw [if_neg hg]
      refine ⟨S1, p1, f1, ?_⟩
      have hg' : (p_go P).1 = false := by simpa using hg
      rw [hg', if_pos (show i_b false = 0 from rfl), m_gd (by decide), if_neg (show ¬ (false, (p_go P).2).1 = true from Bool.false_ne_true)]
  | m + 1, n, i, u, S, P, hi, hn, hp, hh => by
    obtain ⟨n, rfl⟩ : ∃ j, n = j + 1 := ⟨n - 1, by omega⟩
    have e1 : ¬ (Int32.ofNat B) ≤ nI i := nI_ge (b := B) (by omega) (by omega)
    rw [F_X1_takes_14, if_neg e1, m_gd (m_inb (by omega) (by omega)), m_lt, m_ix (by omega), hh i (by omega), p_cnt]
    by_cases hz : h i = 0
    · rw [if_pos hz, if_pos hz, Nat.zero_add, F_X1_takes_40, nI_1]
      exact C_takes_loop hB m n (i + 1) u S P (by omega) (by omega) hp hh
    · obtain ⟨S1, a1, p1, f1⟩ := C_go (B := B) hp
      rw [if_neg hz, if_neg hz, a1, m_bn, show 1 + p_cnt h m (i + 1) + 1 = (p_cnt h m (i + 1) + 1) + 1 by omega, p_gos]
      by_cases hg : (p_go P).1 = true
      · rw [if_pos hg, hg, if_neg (by decide), F_X1_takes_40, nI_1, nI_1]
        obtain ⟨S2, p2, f2, a2⟩ := C_takes_loop (h := h) hB m n (i + 1) (u + 1) S1 (p_go P).2 (by omega) (by omega) p1 (by rw [f1.1]; exact hh)
        rw [show u + 1 + p_cnt h m (i + 1) = u + (1 + p_cnt h m (i + 1)) by omega] at a2
        exact ⟨S2, p2, z_pc_tr f1 f2, a2⟩
      · have hg' : (p_go P).1 = false := by simpa using hg
        rw [if_neg hg]
        exact ⟨S1, p1, f1, by rw [hg', if_pos (show i_b false = 0 from rfl), m_gd (by decide), if_neg (show ¬ (false, (p_go P).2).1 = true from Bool.false_ne_true)]⟩
/-- what the journal holds after a commit -/
def j_or (h : Nat → Int32) (ch : Nat → Bool) (b : Nat) : Int32 := if h b = 0 then i_b (ch b) else 1
theorem C_hold_loop {h : Nat → Int32} (hB : B ≤ 96) : ∀ (m n i u : Nat) (S : z_S), i + m = B → m < n → (∀ b, b < B → S.1 58 b = i_b (ch b)) → (∀ b, b < B → S.1 56 b = if b < i then j_or h ch b else h b) →
    ∃ g, (∀ b, b < B → g b = j_or h ch b) ∧ F_X1_takes_58 B 58 B n (nI u) (nI i) S = F_X1_takes_110 B 58 B (nI u) (z_ua S 56 g)
  | 0, n, i, u, S, hi, hn, hc, hz => by
    obtain ⟨n, rfl⟩ : ∃ j, n = j + 1 := ⟨n - 1, by omega⟩
    have e1 : (Int32.ofNat B) ≤ nI i := nI_le (a := B) (by omega) (by omega)
    refine ⟨S.1 56, fun b hb => by rw [hz b hb, if_pos (by omega)], ?_⟩
    rw [F_X1_takes_58, if_pos e1, z_ua_same]
  | m + 1, n, i, u, S, hi, hn, hc, hz => by
    obtain ⟨n, rfl⟩ : ∃ j, n = j + 1 := ⟨n - 1, by omega⟩
    have e1 : ¬ (Int32.ofNat B) ≤ nI i := nI_ge (b := B) (by omega) (by omega)
    have iz : z_inb (nI i) B = true := m_inb (by omega) (by omega)
    have xz : z_ix (nI i) = i := m_ix (by omega)
    have nar : ∀ c : Bool, vp_nar .boolean (i_b c) = i_b c := fun c => by cases c <;> decide
    have tail : ∀ v, v = j_or h ch i → vp_nar .boolean v = v → ∃ g, (∀ b, b < B → g b = j_or h ch b) ∧ F_X1_takes_103 B 58 B (F_X1_takes_58 B 58 B n) (nI u) (nI i) v (nI i) S = F_X1_takes_110 B 58 B (nI u) (z_ua S 56 g) := fun v hv hn' => by
      obtain ⟨g, g1, g2⟩ := C_hold_loop (h := h) hB m n (i + 1) u (z_ua S 56 (upd (S.1 56) i v)) (by omega) (by omega) (fun b hb => by rw [m_ua1, if_neg (by decide)]; exact hc b hb) (fun b hb => by
        rw [z_ua_at]
        by_cases e : b = i
        · rw [e, pk_us, if_pos (by omega), hv]
        · rw [pk_un e, hz b hb]
          by_cases e2 : b < i
          · rw [if_pos e2, if_pos (by omega)]
          · rw [if_neg e2, if_neg (by omega)])
      rw [z_ua_ua] at g2
      refine ⟨g, g1, ?_⟩
      rw [F_X1_takes_103, m_gd iz, m_lt, xz, hn', nI_1]
      exact g2
    have hzi : S.1 56 i = h i := by rw [hz i (by omega), if_neg (by omega)]
    rw [F_X1_takes_58, if_neg e1, if_neg e1, m_gd iz, m_lt, xz, hzi]
    by_cases e : h i = 0
    · rw [if_pos e, m_gd iz, m_lt, hc i (by omega)]
      cases hci : ch i with
      | false =>
        rw [if_pos (show i_b false = 0 from rfl)]
        exact tail 0 (by rw [j_or, if_pos e, hci]; rfl) (nar false)
      | true =>
        rw [if_neg (show ¬ i_b true = 0 by decide), F_X1_takes_98]
        exact tail 1 (by rw [j_or, if_pos e, hci]; rfl) (nar true)
    · rw [if_neg e, F_X1_takes_98]
      exact tail 1 (by rw [j_or, if_neg e]) (nar true)
/-- the committed image becomes the now one: the class -/
theorem C_comFrom (h : CI B J S A) (hB : B ≤ 96) (hi : m_im B A.1.1 A.1.2) : ∃ S1, F_X0_copyFrom B 22 1 S = some (.inl none, S1) ∧ CI B J S1 (A.1, A.1, A.2.2) ∧ z_cf S S1 ∧ (∀ a k, a ≠ 23 → S1.2.1 a k = S.2.1 a k) := by
  obtain ⟨⟨a1, a2, a3⟩, ⟨b1, b2⟩, ⟨c1, c2⟩, d1, d2, d3, d4, d5, d6⟩ := h
  obtain ⟨S1, w1, ⟨f1, f2, f3⟩, w2⟩ := C_copyI (S := S) (t := 22) (u := 1) hB (fun i j hi hj e => by omega) c1.1
  obtain ⟨t1, t2⟩ := w2 A.1.1 A.1.2 hi b1 b2
  refine ⟨S1, w1, ⟨⟨by rw [f2 _ _ (by omega)]; exact a1, by rw [f2 _ _ (by omega)]; exact a2, by rw [f2 _ _ (by omega)]; exact a3⟩, ⟨c_T_cg b1 (fun a _ _ => f1 a (by omega)) (f2 _ _ (by omega)) (f2 _ _ (by omega)), c_O_cg b2 (fun a _ _ => f1 a (by omega))⟩, ⟨t1, t2⟩, by rw [f2 _ _ (by omega)]; exact d1, by rw [f2 _ _ (by omega)]; exact d2, by rw [f2 _ _ (by omega)]; exact d3, by rw [f2 _ _ (by omega)]; exact d4, by rw [f2 _ _ (by omega)]; exact d5, fun b hb => by rw [f1 _ (by omega)]; exact d6 b hb⟩, ⟨fun a ha => f1 a (by omega), fun a k ha => f2 a k (by omega), f3⟩, fun a k ha => f2 a k (fun z => ha z.1)⟩
theorem K_comFrom (h : KI B J S A) (hB : B ≤ 96) (hi : m_im B A.1.1 A.1.2) : ∃ g, F_X6_keep B 61 25366 63 25366 S = some (.inl none, z_ua S 63 g) ∧ KI B J (z_ua S 63 g) (A.1, A.1, A.2.2) := by
  obtain ⟨g, g1, g2⟩ := K_keep (B := B) (S := S) (a1 := 61) (a2 := 63) (by decide)
  obtain ⟨a, ⟨b1, b2⟩, -, d1, d2, d3, d4, d5, d6⟩ := h
  have e63 : (z_ua S 63 g).1 63 = g := z_ua_at
  have e61 : (z_ua S 63 g).1 61 = S.1 61 := by rw [m_ua1, if_neg (by decide)]
  refine ⟨g, g2, a, ⟨by rw [e61]; exact b1, by rw [e61]; exact b2⟩, ⟨?_, ?_⟩, d1, d2, d3, d4, d5, d6⟩
  · rw [e63]; exact k_T_cg hB b1 g1
  · rw [e63]; exact k_O_cg hB hi b2 (fun j hj => g1 j (by omega))
/-- a commit, once there is room in the journal -/
def A_take (B n : Nat) (A : m_A) (ch : Nat → Bool) : m_A := if (p_gos (n + 2) A.2.2).1 = true then (A.1, A.1, (p_gos (n + 2) A.2.2).2.1, (p_gos (n + 2) A.2.2).2.2.1, (p_gos (n + 2) A.2.2).2.2.2.1, A.2.2.2.2.2.1 + (n + 2), A.2.2.2.2.2.2.1 + 1, fun b => if b < B then j_or A.2.2.2.2.2.2.2 ch b else 0) else (A.1, A.2.1, (p_gos (n + 2) A.2.2).2)
theorem A_take_w {n : Nat} : (A_take B n A ch).2.2.2.2.1 = (p_gos (n + 2) A.2.2).2.2.2.1 := by unfold A_take; split <;> rfl
theorem C_take {n : Nat} {v3 : Int32} (h : CI B J S A) (hA : AI B J A) (hm : ∀ b, b < B → S.1 58 b = i_b (ch b)) (hn : n = p_cnt (fun b => i_b (ch b)) B 0) :
    ∃ S1, (z_bn (F_X1_takes B 58 B S) fun r1 S2 => (if r1 = 0 then F_X5_commit_122 B v3 S2 else z_bo (F_X0_copyFrom B 22 1 S2) fun S5 => (F_X5_commit_122 B v3 S5))) = F_X5_commit_122 B v3 S1 ∧ CI B J S1 (A_take B n A ch) ∧ z_cf S S1 := by
  have hB := hA.1.2.1
  obtain ⟨hp, h2, h3, h4⟩ := CI_jC h
  obtain ⟨S1, a1, p1, f1⟩ := C_go (B := B) hp
  have hh := gos_hold (n := n + 2) (P := A.2.2)
  unfold F_X1_takes A_take
  rw [a1, m_bn, show n + 2 = (n + 1) + 1 by omega, p_gos]
  rw [show n + 2 = (n + 1) + 1 by omega, p_gos] at hh
  by_cases hg : (p_go A.2.2).1 = true
  · rw [if_pos hg] at hh
    rw [if_pos hg, hg, if_neg (by decide)]
    obtain ⟨S2, p2, f2, a2⟩ := C_takes_loop (h := fun b => i_b (ch b)) hB B z_n 0 2 S1 (p_go A.2.2).2 (by omega) (by unfold z_n; omega) p1 (by rw [f1.1]; exact hm)
    rw [← hn] at p2 a2
    have a2' : F_X1_takes_14 B 58 B z_n 2 0 S1 = _ := a2
    have f12 := z_pc_tr f1 f2
    rw [a2']
    by_cases hg2 : (p_gos (n + 1) (p_go A.2.2).2).1 = true
    · rw [if_pos hg2, if_pos hg2]
      obtain ⟨g, g1, g2⟩ := C_hold_loop (ch := ch) (h := A.2.2.2.2.2.2.2) hB B z_n 0 (2 + n) S2 (by omega) (by unfold z_n; omega) (by rw [f12.1]; exact hm) (fun b hb => by rw [f12.1, if_neg (by omega)]; exact h4 b hb)
      have g2' : F_X1_takes_58 B 58 B z_n (nI (2 + n)) 0 S2 = _ := g2
      rw [g2', F_X1_takes_110, m_lt, m_lt, m_gd (by decide), m_bn, if_neg (by decide)]
      have u2 : (z_ua S2 56 g).2.1 55 2 = nI A.2.2.2.2.2.1 := by
        show S2.2.1 55 2 = _
        rw [f12.2.2 _ _ (by decide)]; exact h2
      have u3 : S2.2.1 55 3 = A.2.2.2.2.2.2.1 := by rw [f12.2.2 _ _ (by decide)]; exact h3
      have hC : CI B J (z_ui (z_ui (z_ua S2 56 g) 55 2 ((z_ua S2 56 g).2.1 55 2 + nI (2 + n))) 55 3 ((z_ui (z_ua S2 56 g) 55 2 ((z_ua S2 56 g).2.1 55 2 + nI (2 + n))).2.1 55 3 + 1)) (A.1, A.2.1, (p_gos (n + 1) (p_go A.2.2).2).2.1, (p_gos (n + 1) (p_go A.2.2).2).2.2.1, (p_gos (n + 1) (p_go A.2.2).2).2.2.2.1, A.2.2.2.2.2.1 + (n + 2), A.2.2.2.2.2.2.1 + 1, fun b => if b < B then j_or A.2.2.2.2.2.2.2 ch b else 0) := by
        refine CI_P h ⟨⟨?_, ?_, ?_⟩, ?_, ?_, fun b hb => ?_⟩ ⟨fun a ha => ?_, ?_, fun a k ha hk => ?_⟩
        · rw [m_ui2, if_neg (by decide), m_ui2, if_neg (by decide)]; exact p2.1
        · rw [m_ui2, if_neg (by decide), m_ui2, if_neg (by decide)]; exact p2.2.1
        · rw [m_ui2, if_neg (by decide), m_ui2, if_neg (by decide)]; exact p2.2.2
        · rw [m_ui2, if_pos rfl, if_neg (by decide), m_ui2, if_pos rfl, if_pos rfl, u2, nI_add]
          show _ = nI (A.2.2.2.2.2.1 + (n + 2))
          congr 1
          omega
        · rw [m_ui2, if_pos rfl, if_pos rfl, m_ui2, if_pos rfl, if_neg (by decide)]
          show S2.2.1 55 3 + 1 = _
          rw [u3]
        · show (z_ua S2 56 g).1 56 b = if b < B then j_or A.2.2.2.2.2.2.2 ch b else 0
          rw [z_ua_at, if_pos hb]; exact g1 b hb
        · show (z_ua S2 56 g).1 a = S.1 a
          rw [m_ua1, if_neg ha, f12.1]
        · show S2.2.2 = _
          exact f12.2.1
        · rw [m_ui2]
          by_cases e1 : a = 55
          · subst e1
            rw [if_pos rfl, if_neg (by omega), m_ui2, if_pos rfl, if_neg (by omega)]
            exact f12.2.2 _ _ (by decide)
          · rw [if_neg e1, m_ui2, if_neg e1]
            exact f12.2.2 _ _ ha
      obtain ⟨S3, w1, w2, w3, -⟩ := C_comFrom hC hB hA.2.1.2
      rw [w1, m_bo]
      refine ⟨S3, rfl, w2, z_cf_tr (z_cf_jc (z_jc_pc f12)) (z_cf_tr (z_cf_tr (z_cf_ua (by decide)) (z_cf_tr (z_cf_ui (by decide)) (z_cf_ui (by decide)))) w3)⟩
    · rw [if_neg hg2, if_neg hg2, m_bn, if_pos rfl]
      refine ⟨S2, rfl, CI_P h ⟨p2, ?_, ?_, fun b hb => ?_⟩ (z_jc_pc f12), z_cf_jc (z_jc_pc f12)⟩
      · rw [f12.2.2 _ _ (by decide), h2]
        show nI A.2.2.2.2.2.1 = nI (p_gos (n + 1) (p_go A.2.2).2).2.2.2.2.1
        rw [hh]
      · rw [f12.2.2 _ _ (by decide), h3]
        show A.2.2.2.2.2.2.1 = (p_gos (n + 1) (p_go A.2.2).2).2.2.2.2.2.1
        rw [hh]
      · rw [f12.1, h4 b hb]
        show A.2.2.2.2.2.2.2 b = (p_gos (n + 1) (p_go A.2.2).2).2.2.2.2.2.2 b
        rw [hh]
  · have hg' : (p_go A.2.2).1 = false := by simpa using hg
    rw [if_neg hg] at hh
    rw [if_neg hg, if_neg (show ¬ (false, (p_go A.2.2).2).1 = true from Bool.false_ne_true), hg', if_pos (show i_b false = 0 from rfl), m_gd (by decide), m_bn, if_pos rfl]
    have hh' : (p_go A.2.2).2.2.2.2 = A.2.2.2.2.2 := go_hold
    refine ⟨S1, rfl, CI_P h ⟨p1, ?_, ?_, fun b hb => ?_⟩ (z_jc_pc f1), z_cf_jc (z_jc_pc f1)⟩
    · rw [f1.2.2 _ _ (by decide), h2]
      show nI A.2.2.2.2.2.1 = nI (p_go A.2.2).2.2.2.2.1
      rw [hh']
    · rw [f1.2.2 _ _ (by decide), h3]
      show A.2.2.2.2.2.2.1 = (p_go A.2.2).2.2.2.2.2.1
      rw [hh']
    · rw [f1.1, h4 b hb]
      show A.2.2.2.2.2.2.2 b = (p_go A.2.2).2.2.2.2.2.2 b
      rw [hh']
/-- the writes of a commit: the reference -/
theorem K_goes_loop {c : Int32} {n : Nat} (hn : n < 1000) : ∀ (m k i : Nat) (S : z_S) (P : m_P), i + m = n + 2 → m < k → pK S P c →
    ∃ S', pK S' (p_gos m P).2 c ∧ z_pk S S' ∧ F_X6_commit_97 B k (nI n) (nI i) S = if (p_gos m P).1 = true then F_X6_commit_124 B z_n (nI n) 0 S' else some (.inl (some (S'.2.1 60 12)), S')
  | 0, k, i, S, P, hi, hk, hp => by
    obtain ⟨k, rfl⟩ : ∃ j, k = j + 1 := ⟨k - 1, by omega⟩
    have e1 : nI n + 2 ≤ nI i := by rw [m_c2, nI_add]; exact nI_le (by omega) (by omega)
    refine ⟨S, hp, z_pk_rf, ?_⟩
    rw [F_X6_commit_97, if_pos e1, if_pos (show (p_gos 0 P).1 = true from rfl)]
  | m + 1, k, i, S, P, hi, hk, hp => by
    obtain ⟨k, rfl⟩ : ∃ j, k = j + 1 := ⟨k - 1, by omega⟩
    have e1 : ¬ nI n + 2 ≤ nI i := by rw [m_c2, nI_add]; exact nI_ge (by omega) (by omega)
    obtain ⟨S1, a1, p1, f1⟩ := K_go (B := B) hp
    rw [F_X6_commit_97, if_neg e1, a1, m_bn, p_gos]
    by_cases hg : (p_go P).1 = true
    · rw [if_pos hg, hg, if_neg (by decide), nI_1]
      obtain ⟨S2, p2, f2, a2⟩ := K_goes_loop hn m k (i + 1) S1 (p_go P).2 (by omega) (by omega) p1
      exact ⟨S2, p2, z_pk_tr f1 f2, a2⟩
    · have hg' : (p_go P).1 = false := by simpa using hg
      rw [if_neg hg]
      exact ⟨S1, p1, f1, by rw [hg', if_pos (show i_b false = 0 from rfl), if_neg (show ¬ (false, (p_go P).2).1 = true from Bool.false_ne_true)]⟩
theorem KI_65 {g : Nat → Int32} {P' : m_P} (h : KI B J S A) (h1 : S.2.1 60 10 = P'.1) (h2 : S.2.1 60 11 = P'.2.1) (h3 : S.2.1 60 13 = P'.2.2.1) (h4 : S.2.1 60 9 = nI P'.2.2.2.1) (h5 : S.2.1 60 14 = P'.2.2.2.2.1) (h6 : ∀ b, b < 96 → g b = P'.2.2.2.2.2 b) : KI B J (z_ua S 65 g) (A.1, A.2.1, P') := by
  obtain ⟨a, ⟨b1, b2⟩, ⟨c1, c2⟩, -⟩ := h
  have f1 : ∀ x, x ≠ 65 → (z_ua S 65 g).1 x = S.1 x := fun x hx => by rw [m_ua1, if_neg hx]
  exact ⟨a, ⟨by rw [f1 61 (by decide)]; exact b1, by rw [f1 61 (by decide)]; exact b2⟩, ⟨by rw [f1 63 (by decide)]; exact c1, by rw [f1 63 (by decide)]; exact c2⟩, h1, h2, h3, h4, h5, fun b hb => by rw [z_ua_at]; exact h6 b hb⟩
theorem K_hold_loop {n : Nat} {h : Nat → Int32} (hA : AI B J A) (hch : m_chd B A ch) : ∀ (m k i : Nat) (S : z_S), (k_T B 0 0 (S.1 61) A.1.1 ∧ k_O B (S.1 61) A.1.1 A.1.2) → (k_T B 0 0 (S.1 63) A.2.1.1 ∧ k_O B (S.1 63) A.2.1.1 A.2.1.2) → S.2.1 60 1 = nI B → i + m = B → m < k → (∀ b, b < 96 → S.1 65 b = if b < i then j_or h ch b else h b) →
    ∃ g, (∀ b, b < 96 → g b = if b < B then j_or h ch b else h b) ∧ F_X6_commit_124 B k (nI n) (nI i) S = (z_lt (z_ui (z_ua S 65 g) 60 9 (S.2.1 60 9 + (nI n + 2))) fun S1 => (z_lt (z_ui S1 60 14 ((S1.2.1 60 14) + 1)) fun S2 => (z_bo (F_X6_keep B 61 25366 63 25366 S2) fun S4 => (some (.inl (some (S4.2.1 60 12)), S4)))))
  | 0, k, i, S, k1, k2, hb1, hi, hk, hz => by
    obtain ⟨k, rfl⟩ : ∃ j, k = j + 1 := ⟨k - 1, by omega⟩
    have hB := hA.1.2.1
    refine ⟨S.1 65, fun b hb => by rw [hz b hb, show i = B by omega], ?_⟩
    rw [F_X6_commit_124, hb1, if_pos (nI_le (by omega) (by omega)), z_ua_same]
  | m + 1, k, i, S, k1, k2, hb1, hi, hk, hz => by
    obtain ⟨k, rfl⟩ : ∃ j, k = j + 1 := ⟨k - 1, by omega⟩
    have hB := hA.1.2.1
    have hiB : i < B := by omega
    have iz : z_inb (nI i) 96 = true := m_inb (by omega) (by omega)
    have xz : z_ix (nI i) = i := m_ix (by omega)
    have nar : ∀ c : Bool, vp_nar .boolean (i_b c) = i_b c := fun c => by cases c <;> decide
    have hzi : S.1 65 i = h i := by rw [hz i (by omega), if_neg (by omega)]
    have tail : ∀ v, v = j_or h ch i → vp_nar .boolean v = v → ∃ g, (∀ b, b < 96 → g b = if b < B then j_or h ch b else h b) ∧ F_X6_commit_159 B (F_X6_commit_124 B k) (nI n) (nI i) v (nI i) S = (z_lt (z_ui (z_ua S 65 g) 60 9 (S.2.1 60 9 + (nI n + 2))) fun S1 => (z_lt (z_ui S1 60 14 ((S1.2.1 60 14) + 1)) fun S2 => (z_bo (F_X6_keep B 61 25366 63 25366 S2) fun S4 => (some (.inl (some (S4.2.1 60 12)), S4))))) := fun v hv hn' => by
      have f1 : ∀ x, x ≠ 65 → (z_ua S 65 (upd (S.1 65) i v)).1 x = S.1 x := fun x hx => by rw [m_ua1, if_neg hx]
      obtain ⟨g, g1, g2⟩ := K_hold_loop (n := n) (h := h) hA hch m k (i + 1) (z_ua S 65 (upd (S.1 65) i v)) (by rw [f1 61 (by decide)]; exact k1) (by rw [f1 63 (by decide)]; exact k2) hb1 (by omega) (by omega) (fun b hb => by
        rw [z_ua_at]
        by_cases e : b = i
        · rw [e, pk_us, if_pos (by omega), hv]
        · rw [pk_un e, hz b hb]
          by_cases e2 : b < i
          · rw [if_pos e2, if_pos (by omega)]
          · rw [if_neg e2, if_neg (by omega)])
      rw [z_ua_ua] at g2
      refine ⟨g, g1, ?_⟩
      rw [F_X6_commit_159, m_gd iz, m_lt, xz, hn', nI_1]
      exact g2
    rw [F_X6_commit_124, hb1, if_neg (nI_ge hiB (by omega)), m_gd iz, m_lt, xz, hzi]
    by_cases e : h i = 0
    · rw [if_pos e, K_isCh k1.1 k1.2 k2.1 k2.2 hA hch hiB, m_bn]
      cases hci : ch i with
      | false =>
        rw [if_pos (show i_b false = 0 from rfl)]
        exact tail 0 (by rw [j_or, if_pos e, hci]; rfl) (nar false)
      | true =>
        rw [if_neg (show ¬ i_b true = 0 by decide), F_X6_commit_154]
        exact tail 1 (by rw [j_or, if_pos e, hci]; rfl) (nar true)
    · rw [if_neg e, F_X6_commit_154]
      exact tail 1 (by rw [j_or, if_neg e]) (nar true)
/-- the reference's commit, once there is room in the journal -/
theorem K_take {n : Nat} {c : Int32} (h : KI B J S A) (hA : AI B J A) (hch : m_chd B A ch) (hn : n < 1000) (hp : pK S A.2.2 c) :
    ∃ S1, F_X6_commit_95 B (nI n) S = some (.inl (some ((A_take B n A ch).2.2.2.2.1 - c)), S1) ∧ KI B J S1 (A_take B n A ch) ∧ z_kf S S1 ∧ S1.2.1 60 0 = S.2.1 60 0 := by
  have hB := hA.1.2.1
  obtain ⟨S1, p1, f1, a1⟩ := K_goes_loop (B := B) hn (n + 2) z_n 0 S A.2.2 (by omega) (by unfold z_n; omega) hp
  have a1' : F_X6_commit_97 B z_n (nI n) 0 S = _ := a1
  have hh := gos_hold (n := n + 2) (P := A.2.2)
  have k1 : KI B J S1 (A.1, A.2.1, (p_gos (n + 2) A.2.2).2) := by
    refine KI_P h ⟨p1, ?_, ?_, fun b hb => ?_⟩ (z_jk_pk f1)
    · rw [f1.2.2 _ _ (by decide), h.2.2.2.2.2.2.1]
      show nI A.2.2.2.2.2.1 = nI (p_gos (n + 2) A.2.2).2.2.2.2.1
      rw [hh]
    · rw [f1.2.2 _ _ (by decide), h.2.2.2.2.2.2.2.1]
      show A.2.2.2.2.2.2.1 = (p_gos (n + 2) A.2.2).2.2.2.2.2.1
      rw [hh]
    · rw [f1.1, h.2.2.2.2.2.2.2.2 b hb]
      show A.2.2.2.2.2.2.2 b = (p_gos (n + 2) A.2.2).2.2.2.2.2.2 b
      rw [hh]
  unfold F_X6_commit_95
  rw [a1', A_take_w]
  unfold A_take
  by_cases hg : (p_gos (n + 2) A.2.2).1 = true
  · rw [if_pos hg, if_pos hg]
    have hz6 : ∀ b, b < 96 → S1.1 65 b = if b < 0 then j_or A.2.2.2.2.2.2.2 ch b else A.2.2.2.2.2.2.2 b := fun b hb => by rw [if_neg (by omega), f1.1]; exact h.2.2.2.2.2.2.2.2 b hb
    obtain ⟨g, g1, g2⟩ := K_hold_loop (n := n) hA hch B z_n 0 S1 ⟨k1.2.1.1, k1.2.1.2⟩ ⟨k1.2.2.1.1, k1.2.2.1.2⟩ k1.1.1 (by omega) (by unfold z_n; omega) hz6
    have g2' : F_X6_commit_124 B z_n (nI n) 0 S1 = _ := g2
    have hR : KI B J (z_ui (z_ui (z_ua S1 65 g) 60 9 (S1.2.1 60 9 + (nI n + 2))) 60 14 ((z_ui (z_ua S1 65 g) 60 9 (S1.2.1 60 9 + (nI n + 2))).2.1 60 14 + 1)) (A.1, A.2.1, (p_gos (n + 2) A.2.2).2.1, (p_gos (n + 2) A.2.2).2.2.1, (p_gos (n + 2) A.2.2).2.2.2.1, A.2.2.2.2.2.1 + (n + 2), A.2.2.2.2.2.2.1 + 1, fun b => if b < B then j_or A.2.2.2.2.2.2.2 ch b else 0) := by
      refine KI_P (S := S1) (A := (A.1, A.2.1, (p_gos (n + 2) A.2.2).2)) (c := c) k1 ⟨⟨?_, ?_, ?_, ?_⟩, ?_, ?_, fun b hb => ?_⟩ ⟨fun a ha => ?_, rfl, fun a k ha => ?_⟩
      · rw [m_ui2, if_pos rfl, if_neg (by decide), m_ui2, if_pos rfl, if_neg (by decide)]; exact p1.1
      · rw [m_ui2, if_pos rfl, if_neg (by decide), m_ui2, if_pos rfl, if_neg (by decide)]; exact p1.2.1
      · rw [m_ui2, if_pos rfl, if_neg (by decide), m_ui2, if_pos rfl, if_neg (by decide)]; exact p1.2.2.1
      · rw [m_ui2, if_pos rfl, if_neg (by decide), m_ui2, if_pos rfl, if_neg (by decide)]; exact p1.2.2.2
      · rw [m_ui2, if_pos rfl, if_neg (by decide), m_ui2, if_pos rfl, if_pos rfl, f1.2.2 _ _ (by decide), h.2.2.2.2.2.2.1, m_c2, nI_add, nI_add]
      · rw [m_ui2, if_pos rfl, if_pos rfl, m_ui2, if_pos rfl, if_neg (by decide)]
        show S1.2.1 60 14 + 1 = _
        rw [f1.2.2 _ _ (by decide), h.2.2.2.2.2.2.2.1]
      · show (z_ua S1 65 g).1 65 b = if b < B then j_or A.2.2.2.2.2.2.2 ch b else 0
        rw [z_ua_at, g1 b hb]
        by_cases e : b < B
        · rw [if_pos e, if_pos e]
        · rw [if_neg e, if_neg e]; exact hA.2.2.2.2.2.2 b (by omega)
      · show (z_ua S1 65 g).1 a = S1.1 a
        rw [m_ua1, if_neg ha]
      · rw [m_ui2]
        by_cases e1 : a = 60
        · subst e1
          rw [if_pos rfl, if_neg (by omega), m_ui2, if_pos rfl, if_neg (by omega)]
          rfl
        · rw [if_neg e1, m_ui2, if_neg e1]
          rfl
    obtain ⟨g3, w1, w2⟩ := K_comFrom hR hB hA.2.1.2
    rw [g2', m_lt, m_lt, w1, m_bo]
    refine ⟨_, ?_, w2, z_kf_tr (z_kf_jk (z_jk_pk f1)) (z_kf_tr (z_kf_ua (by decide)) (z_kf_tr (z_kf_ui (by decide)) (z_kf_tr (z_kf_ui (by decide)) (z_kf_ua (by decide))))), ?_⟩
    · have : (z_ua (z_ui (z_ui (z_ua S1 65 g) 60 9 (S1.2.1 60 9 + (nI n + 2))) 60 14 ((z_ui (z_ua S1 65 g) 60 9 (S1.2.1 60 9 + (nI n + 2))).2.1 60 14 + 1)) 63 g3).2.1 60 12 = (p_gos (n + 2) A.2.2).2.2.2.1 - c := by
        show (z_ui (z_ui (z_ua S1 65 g) 60 9 (S1.2.1 60 9 + (nI n + 2))) 60 14 ((z_ui (z_ua S1 65 g) 60 9 (S1.2.1 60 9 + (nI n + 2))).2.1 60 14 + 1)).2.1 60 12 = _
        rw [m_ui2, if_pos rfl, if_neg (by decide), m_ui2, if_pos rfl, if_neg (by decide)]; exact p1.2.2.2
      rw [this]
    · show (z_ui (z_ui (z_ua S1 65 g) 60 9 (S1.2.1 60 9 + (nI n + 2))) 60 14 ((z_ui (z_ua S1 65 g) 60 9 (S1.2.1 60 9 + (nI n + 2))).2.1 60 14 + 1)).2.1 60 0 = _
      rw [m_ui2, if_pos rfl, if_neg (by decide), m_ui2, if_pos rfl, if_neg (by decide)]
      exact f1.2.2 _ _ (by decide)
  · rw [if_neg hg, if_neg hg]
    exact ⟨S1, by rw [p1.2.2.2], k1, z_kf_jk (z_jk_pk f1), f1.2.2 _ _ (by decide)⟩
/-- commit -/
def A_commit (B J : Nat) (A : m_A) (ch : Nat → Bool) : Nat × Int32 × m_A :=
  if A.2.2.1 = 0 then (if p_cnt (fun b => i_b (ch b)) B 0 = 0 then (0, 0, A) else if p_cnt (fun b => i_b (ch b)) B 0 + 2 ≤ J then
    (if A.2.2.2.2.2.1 + p_cnt (fun b => i_b (ch b)) B 0 + 2 ≤ J then (0, (A_take B (p_cnt (fun b => i_b (ch b)) B 0) A ch).2.2.2.2.1 - A.2.2.2.2.1, A_take B (p_cnt (fun b => i_b (ch b)) B 0) A ch)
     else if (p_home B A.2.2).1 = true then (0, (A_take B (p_cnt (fun b => i_b (ch b)) B 0) (A.1, A.2.1, (p_home B A.2.2).2) ch).2.2.2.2.1 - A.2.2.2.2.1, A_take B (p_cnt (fun b => i_b (ch b)) B 0) (A.1, A.2.1, (p_home B A.2.2).2) ch)
     else (0, (p_home B A.2.2).2.2.2.1 - A.2.2.2.2.1, A.1, A.2.1, (p_home B A.2.2).2)) else (2, 0, A)) else (1, 0, A)
theorem home_0 (h : (p_home B P).1 = true) : (p_home B P).2.2.2.2.1 = 0 := by
  unfold p_home at h ⊢
  split
  · assumption
  · rename_i h1
    rw [if_neg h1] at h
    split
    · rfl
    · rename_i h2
      rw [if_neg h2] at h
      cases h
theorem AI_take {n : Nat} (hA : AI B J A) (hn : A.2.2.2.2.2.1 + n + 2 ≤ J) : AI B J (A_take B n A ch) := by
  obtain ⟨hb, h1, h2, o1, o2, o3, o4⟩ := hA
  have hh := gos_hold (n := n + 2) (P := A.2.2)
  unfold A_take
  split
  · refine ⟨hb, h1, h1, gos_off o1, ?_, fun b => ?_, fun b hB => ?_⟩
    · show A.2.2.2.2.2.1 + (n + 2) ≤ J
      omega
    · show (if b < B then j_or A.2.2.2.2.2.2.2 ch b else 0) = 0 ∨ (if b < B then j_or A.2.2.2.2.2.2.2 ch b else 0) = 1
      split
      · unfold j_or
        split
        · cases ch b
          · exact Or.inl rfl
          · exact Or.inr rfl
        · exact Or.inr rfl
      · exact Or.inl rfl
    · show (if b < B then j_or A.2.2.2.2.2.2.2 ch b else 0) = 0
      rw [if_neg (by omega)]
  · refine ⟨hb, h1, h2, gos_off o1, ?_, ?_, ?_⟩
    · show (p_gos (n + 2) A.2.2).2.2.2.2.1 ≤ J
      rw [hh]; exact o2
    · show ∀ b, (p_gos (n + 2) A.2.2).2.2.2.2.2.2 b = 0 ∨ _
      rw [hh]; exact o3
    · show ∀ b, B ≤ b → (p_gos (n + 2) A.2.2).2.2.2.2.2.2 b = 0
      rw [hh]; exact o4
theorem G_commit_a (hA : AI B J A) : AI B J (A_commit B J A ch).2.2 := by
  unfold A_commit
  split
  · split
    · exact hA
    · split
      · split
        · exact AI_take hA (by assumption)
        · split
          · rename_i h1 h2 h3
            exact AI_take (A := (A.1, A.2.1, (p_home B A.2.2).2)) (AI_home hA) (by
              show (p_home B A.2.2).2.2.2.2.1 + _ + 2 ≤ J
              rw [home_0 h3]; omega)
          · exact AI_home hA
      · exact hA
  · exact hA
theorem cnt_b : p_cnt (fun b => i_b (ch b)) B 0 ≤ B := cnt_le
theorem G_commit_c (h : CI B J S A) (hA : AI B J A) (hch : m_chd B A ch) : ∃ S1, F_X5_commit B S = some (r_o [E_U, E_S] (A_commit B J A ch).1 (A_commit B J A ch).2.1, S1) ∧ CI B J S1 (A_commit B J A ch).2.2 ∧ z_cf S S1 := by
  obtain ⟨⟨hB1, hB2, hJ1, hJ2⟩, -, -, -, o2, -⟩ := id hA
  have hcb := cnt_b (B := B) (ch := ch)
  unfold F_X5_commit A_commit
  rw [C_needPower h hA]
  by_cases e : A.2.2.1 = 0
  · obtain ⟨g, g1, g2⟩ := C_markChanged h hA hch
    have h5 := CI_58 (g := g) h
    rw [if_pos e, if_pos e, m_bv, g2, m_bn]
    generalize hn : p_cnt (fun b => i_b (ch b)) B 0 = n at *
    have m5 : ∀ b, b < B → (z_ua S 58 g).1 58 b = i_b (ch b) := fun b hb => by rw [z_ua_at]; exact g1 b hb
    by_cases n0 : n = 0
    · rw [if_pos (show nI n = 0 by rw [n0]; rfl), if_pos n0]
      exact ⟨_, rfl, h5, z_cf_ua (by decide)⟩
    · have n0' : ¬ nI n = 0 := fun z => n0 ((nI_eq (by omega) (by omega)).mp (z.trans m_c0))
      rw [if_neg n0', if_neg n0, show (z_ua S 58 g).2.1 55 0 = nI J from h5.1.2.2, m_c2, nI_add]
      by_cases hJ : n + 2 ≤ J
      · rw [if_pos (nI_le hJ (by omega)), if_pos hJ, show (z_ua S 58 g).2.1 55 2 = nI A.2.2.2.2.2.1 from h5.2.2.2.2.2.2.1, pk_sub o2, show (z_ua S 58 g).2.1 57 2 = A.2.2.2.2.1 from h5.2.2.2.2.2.1]
        by_cases hf : A.2.2.2.2.2.1 + n + 2 ≤ J
        · obtain ⟨S1, w1, w2, w3⟩ := C_take (n := n) (v3 := A.2.2.2.2.1) h5 hA m5 hn.symm
          rw [if_pos (nI_le (by omega) (by omega)), if_pos hf, F_X5_commit_81, F_X5_commit_86, if_neg (by decide), w1, F_X5_commit_122, w2.2.2.2.2.2.1]
          exact ⟨S1, rfl, w2, z_cf_tr (z_cf_ua (by decide)) w3⟩
        · obtain ⟨S1, a1, j1, f1⟩ := C_empties (P := A.2.2) hB2 (by omega) (CI_jC h5)
          have c1 := CI_P h5 j1 f1
          have f1' := z_cf_tr (z_cf_ua (by decide)) (z_cf_jc f1)
          rw [if_neg (nI_ge (by omega) (by omega)), if_neg hf, a1, m_bn]
          by_cases hg : (p_home B A.2.2).1 = true
          · obtain ⟨S2, w1, w2, w3⟩ := C_take (n := n) (v3 := A.2.2.2.2.1) (A := (A.1, A.2.1, (p_home B A.2.2).2)) c1 (AI_home hA) (fun b hb => by rw [f1.1 58 (by decide)]; exact m5 b hb) hn.symm
            rw [hg, if_neg (show ¬ i_b true = 0 by decide), if_pos rfl, F_X5_commit_81, F_X5_commit_86, if_neg (by decide), w1, F_X5_commit_122, w2.2.2.2.2.2.1]
            exact ⟨S2, rfl, w2, z_cf_tr f1' w3⟩
          · have hg' : (p_home B A.2.2).1 = false := by simpa using hg
            rw [hg', if_pos (show i_b false = 0 from rfl), if_neg (by simp), F_X5_commit_86, if_pos rfl, F_X5_commit_122, c1.2.2.2.2.2.1]
            exact ⟨S1, rfl, c1, f1'⟩
      · rw [if_neg (nI_ge (by omega) (by omega)), if_neg hJ]
        exact ⟨_, rfl, h5, z_cf_ua (by decide)⟩
  · rw [if_neg e, if_neg e, m_bvx]
    exact ⟨S, rfl, h, z_cf_rf⟩
theorem KI_12 (h : KI B J S A) : KI B J (z_ui S 60 12 0) A := by
  obtain ⟨⟨a1, a2⟩, b, c, d1, d2, d3, d4, d5, d6⟩ := h
  have e : ∀ k, k ≠ 12 → (z_ui S 60 12 0).2.1 60 k = S.2.1 60 k := fun k hk => by rw [m_ui2, if_pos rfl, if_neg hk]
  exact ⟨⟨by rw [e _ (by decide)]; exact a1, by rw [e _ (by decide)]; exact a2⟩, b, c, by rw [e _ (by decide)]; exact d1, by rw [e _ (by decide)]; exact d2, by rw [e _ (by decide)]; exact d3, by rw [e _ (by decide)]; exact d4, by rw [e _ (by decide)]; exact d5, d6⟩
theorem G_commit_k (h : KI B J S A) (hA : AI B J A) (hch : m_chd B A ch) : ∃ v S2, F_X6_commit B S = some (.inl (some v), S2) ∧ KI B J S2 (A_commit B J A ch).2.2 ∧ z_kf S S2 ∧ S2.2.1 60 0 = nI (A_commit B J A ch).1 ∧ ((A_commit B J A ch).1 = 0 → v = (A_commit B J A ch).2.1) := by
  obtain ⟨⟨hB1, hB2, hJ1, hJ2⟩, -, -, -, o2, -⟩ := id hA
  have hcb := cnt_b (B := B) (ch := ch)
  unfold F_X6_commit A_commit
  rw [h.2.2.2.1]
  by_cases e : A.2.2.1 = 0
  · rw [if_pos e, if_pos e, K_changed h hA hch, m_bn, F_X6_commit_15, h.2.2.2.1, if_pos e, h.1.2]
    generalize hn : p_cnt (fun b => i_b (ch b)) B 0 = n at *
    have h0 := KI_thr (v := 0) h
    by_cases n0 : n = 0
    · rw [if_pos (show nI n ≤ 0 by rw [n0]; decide), if_pos n0, F_X6_commit_46, F_X6_commit_47, m_lt, z_thr, if_neg (by decide), if_pos (show nI n = 0 by rw [n0]; rfl), F_X6_commit_61]
      exact ⟨_, _, rfl, h0, z_kf_ui (by decide), z_thr, fun _ => rfl⟩
    · have n0' : ¬ nI n = 0 := fun z => n0 ((nI_eq (by omega) (by omega)).mp (z.trans m_c0))
      have n1 : ¬ nI n ≤ 0 := by rw [m_c0]; exact nI_ge (by omega) (by omega)
      rw [if_neg n1, if_neg n0, m_c2, nI_add]
      by_cases hJ : n + 2 ≤ J
      · have h12 := KI_12 h0
        have hjk := KI_jK h0
        rw [if_pos (nI_le hJ (by omega)), if_pos hJ, F_X6_commit_46, F_X6_commit_47, m_lt, z_thr, if_neg (by decide), if_neg n0', m_lt, show (z_ui (z_ui S 60 0 0) 60 12 0).2.1 60 9 = nI A.2.2.2.2.2.1 from h12.2.2.2.2.2.2.1, show (z_ui (z_ui S 60 0 0) 60 12 0).2.1 60 2 = nI J from h12.1.2, m_c2, nI_add, nI_add]
        have t12 : (z_ui (z_ui S 60 0 0) 60 12 0).2.1 60 0 = 0 := by rw [z_uin (by decide), z_thr]
        by_cases hf : A.2.2.2.2.2.1 + n + 2 ≤ J
        · obtain ⟨S1, w1, w2, w3, w4⟩ := K_take (n := n) h12 hA hch (by omega) hjk.1
          rw [if_pos (nI_le hf (by omega)), if_pos hf, w1]
          exact ⟨_, S1, rfl, w2, z_kf_tr (z_kf_tr (z_kf_ui (by decide)) (z_kf_ui (by decide))) w3, by rw [w4, t12]; rfl, fun _ => rfl⟩
        · obtain ⟨S1, r, a1, hr, j1, k1, f1, v1, q1⟩ := K_homeA h0 hA
          have t1 : S1.2.1 60 0 = 0 := by rw [q1.2.2 _ _ (by omega), t12]
          rw [if_neg (nI_ge (by omega) (by omega)), if_neg hf, a1, m_bn, hr]
          by_cases hg : (p_home B A.2.2).1 = true
          · obtain ⟨S2, w1, w2, w3, w4⟩ := K_take (n := n) (A := (A.1, A.2.1, (p_home B A.2.2).2)) k1 (AI_home hA) hch (by omega) j1.1
            rw [hg, if_neg (show ¬ i_b true = 0 by decide), if_pos rfl, w1]
            exact ⟨_, S2, rfl, w2, z_kf_tr (z_kf_ui (by decide)) (z_kf_tr f1 w3), by rw [w4, t1]; rfl, fun _ => rfl⟩
          · have hg' : (p_home B A.2.2).1 = false := by simpa using hg
            rw [hg', if_pos (show i_b false = 0 from rfl), if_neg (by simp)]
            exact ⟨_, S1, rfl, k1, z_kf_tr (z_kf_ui (by decide)) f1, by rw [t1]; rfl, fun _ => v1⟩
      · rw [if_neg (nI_ge (by omega) (by omega)), if_neg hJ, F_X6_commit_47, m_lt, z_thr, if_pos (by decide), F_X6_commit_61]
        exact ⟨_, _, rfl, KI_thr h, z_kf_ui (by decide), z_thr, fun z => by cases z⟩
  · rw [if_neg e, if_neg e, F_X6_commit_15, h.2.2.2.1, if_neg e, F_X6_commit_47, m_lt, z_thr, if_pos (by decide), F_X6_commit_61]
    exact ⟨_, _, rfl, KI_thr h, z_kf_ui (by decide), z_thr, fun z => by cases z⟩
end BK
