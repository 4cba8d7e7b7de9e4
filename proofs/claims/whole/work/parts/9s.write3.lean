/-! write, fill in the reference; cut. -/
section WT
variable {B J : Nat} {S S' S0 S1 S2 : z_S} {A : m_A} {T T' T1 T2 : m_T} {O O' : m_O} {f f' g : Nat → Int32}
theorem G_write_k {p1 p2 p5 : Int32} {p3 : Int64} (h : KI B J S A) (hA : AI B J A) : ∃ v S2, F_X6_write B p1 p2 p3 p5 S = some (.inl (some v), S2) ∧ KI B J S2 (A_file B A p1 p2 p5 (nI 8) (b_w p3)).2.2 ∧ z_kf S S2 ∧ S2.2.1 60 0 = nI (A_file B A p1 p2 p5 (nI 8) (b_w p3)).1 ∧ ((A_file B A p1 p2 p5 (nI 8) (b_w p3)).1 = 0 → v = (A_file B A p1 p2 p5 (nI 8) (b_w p3)).2.1) := by
  have hB := hA.1.2.1
  have hi := hA.2.1.2
  have bad : ∀ (c : Int32) (n : Nat) (w : Int32), c = nI n → n ≠ 0 → n < 5 → ∃ v S2, (z_lt (z_ui S 60 0 c) fun S4 => (if (S4.2.1 60 0) ≤ 0 then z_bo (F_X6_begin B S4) fun S6 => (z_bo (F_X6_gather B p1 S6) fun S9 => (F_X6_write_35 B z_n p1 p2 p3 p5 0 S9)) else some (.inl (some 0), S4))) = some (.inl (some v), S2) ∧ KI B J S2 A ∧ z_kf S S2 ∧ S2.2.1 60 0 = nI n ∧ (n = 0 → v = w) := fun c n w hc hn hn5 => by
    have hc0 : ¬ c ≤ 0 := fun z => by
      rw [hc, m_c0] at z
      exact absurd z (nI_nle (by omega) (by omega))
    rw [m_lt, z_thr, if_neg hc0]
    exact ⟨_, _, rfl, KI_thr h, z_kf_ui (by decide), by rw [z_thr, hc], fun z => absurd z hn⟩
  unfold F_X6_write A_file
  rw [K_refused h hA, m_bn, show (8 : Int32) = nI 8 from rfl]
  by_cases e : A.2.2.1 = 0
  · rw [if_pos e, if_pos e]
    by_cases e1 : d_k A.1.2 p1 = 2
    · rw [if_pos e1, if_pos e1]
      by_cases g1 : 0 ≤ p2 ∧ p2 ≤ nI (oZ A.1.2 p1.toNatClampNeg)
      · rw [if_pos g1, if_pos g1]
        by_cases g2 : 1 ≤ p5 ∧ p5 ≤ nI 8
        · rw [if_pos g2, if_pos g2]
          by_cases g3 : p2 + p5 ≤ 2048
          · rw [if_pos g3, if_pos g3]
            obtain ⟨o, a, l, rfl, o1, o2, hk, rfl, ha, rfl, l1, l2, hal, hz⟩ := file_pre hA (by omega) e1 g1 g2 g3
            simp only [nI_clamp (show o < 2 ^ 31 by omega), nI_clamp (show a < 2 ^ 31 by omega), nI_clamp (show l < 2 ^ 31 by omega)]
            obtain ⟨S1, b1, b2, b3, b4, b5⟩ := K_begin (B := B) (z_ui S 60 0 0)
            have hI := KI_thr (v := 0) h
            have e61 : S1.1 61 = S.1 61 := b3
            obtain ⟨g, c1, c2⟩ := K_gather (S := S1) hB hi (by rw [e61]; exact h.2.1.2) o1 o2 hk
            obtain ⟨g', d1, d2⟩ := K_write_loop (B := B) (S := S1) (o := o) (v := p3) (W := o_W A.1.2 o) hal l z_n 0 g (by omega) (by unfold z_n; omega) (fun k hk => by rw [w_put_nil]; exact c2 k (by omega))
            have d1' : F_X6_write_35 B z_n (nI o) (nI a) p3 (nI l) 0 (z_ua S1 64 g) = _ := d1
            rw [m_lt, z_thr, if_pos (show (0 : Int32) ≤ 0 by decide), b1, m_bo, c1, m_bo, d1']
            obtain ⟨v, S2, q1, q2, q3, q4⟩ := K_chg_end (S := z_ua S1 64 g') hI hA (rK_64 b2) (by rw [m_ua1, if_neg (by decide)]; exact b3) b4 (by show S1.2.1 60 0 = 0; rw [b5, z_thr]) hk o1 o2 hal hz (by rw [z_ua_at]; exact d2) w_put_0
            exact ⟨v, S2, q1, q2, z_kf_tr (z_kf_ui (by decide)) q3, q4⟩
          · rw [if_neg g3, if_neg g3]; exact bad _ 3 _ rfl (by omega) (by omega)
        · rw [if_neg g2, if_neg g2]; exact bad _ 3 _ rfl (by omega) (by omega)
      · rw [if_neg g1, if_neg g1]; exact bad _ 2 _ rfl (by omega) (by omega)
    · rw [if_neg e1, if_neg e1]; exact bad _ 2 _ rfl (by omega) (by omega)
  · rw [if_neg e, if_neg e]; exact bad _ 1 _ rfl (by omega) (by omega)
theorem G_fill_k {p1 p2 p3 p4 : Int32} (h : KI B J S A) (hA : AI B J A) : ∃ v S2, F_X6_fill B p1 p2 p3 p4 S = some (.inl (some v), S2) ∧ KI B J S2 (A_file B A p1 p2 p4 (nI 512) (b_f p3)).2.2 ∧ z_kf S S2 ∧ S2.2.1 60 0 = nI (A_file B A p1 p2 p4 (nI 512) (b_f p3)).1 ∧ ((A_file B A p1 p2 p4 (nI 512) (b_f p3)).1 = 0 → v = (A_file B A p1 p2 p4 (nI 512) (b_f p3)).2.1) := by
  have hB := hA.1.2.1
  have hi := hA.2.1.2
  have bad : ∀ (c : Int32) (n : Nat) (w : Int32), c = nI n → n ≠ 0 → n < 5 → ∃ v S2, (z_lt (z_ui S 60 0 c) fun S4 => (if (S4.2.1 60 0) ≤ 0 then z_bo (F_X6_begin B S4) fun S6 => (z_bo (F_X6_gather B p1 S6) fun S9 => (F_X6_fill_36 B z_n p1 p2 p3 p4 0 S9)) else some (.inl (some 0), S4))) = some (.inl (some v), S2) ∧ KI B J S2 A ∧ z_kf S S2 ∧ S2.2.1 60 0 = nI n ∧ (n = 0 → v = w) := fun c n w hc hn hn5 => by
    have hc0 : ¬ c ≤ 0 := fun z => by
      rw [hc, m_c0] at z
      exact absurd z (nI_nle (by omega) (by omega))
    rw [m_lt, z_thr, if_neg hc0]
    exact ⟨_, _, rfl, KI_thr h, z_kf_ui (by decide), by rw [z_thr, hc], fun z => absurd z hn⟩
  unfold F_X6_fill A_file
  rw [K_refused h hA, m_bn, m_c512]
  by_cases e : A.2.2.1 = 0
  · rw [if_pos e, if_pos e]
    by_cases e1 : d_k A.1.2 p1 = 2
    · rw [if_pos e1, if_pos e1]
      by_cases g1 : 0 ≤ p2 ∧ p2 ≤ nI (oZ A.1.2 p1.toNatClampNeg)
      · rw [if_pos g1, if_pos g1]
        by_cases g2 : 1 ≤ p4 ∧ p4 ≤ nI 512
        · rw [if_pos g2, if_pos g2]
          by_cases g3 : p2 + p4 ≤ 2048
          · rw [if_pos g3, if_pos g3]
            obtain ⟨o, a, l, rfl, o1, o2, hk, rfl, ha, rfl, l1, l2, hal, hz⟩ := file_pre hA (by omega) e1 g1 g2 g3
            simp only [nI_clamp (show o < 2 ^ 31 by omega), nI_clamp (show a < 2 ^ 31 by omega), nI_clamp (show l < 2 ^ 31 by omega)]
            obtain ⟨S1, b1, b2, b3, b4, b5⟩ := K_begin (B := B) (z_ui S 60 0 0)
            have hI := KI_thr (v := 0) h
            have e61 : S1.1 61 = S.1 61 := b3
            obtain ⟨g, c1, c2⟩ := K_gather (S := S1) hB hi (by rw [e61]; exact h.2.1.2) o1 o2 hk
            obtain ⟨g', d1, d2⟩ := K_fill_loop (B := B) (S := S1) (o := o) (v := p3) (W := o_W A.1.2 o) hal l z_n 0 g (by omega) (by unfold z_n; omega) (fun k hk => by rw [w_put_nil]; exact c2 k (by omega))
            have d1' : F_X6_fill_36 B z_n (nI o) (nI a) p3 (nI l) 0 (z_ua S1 64 g) = _ := d1
            rw [m_lt, z_thr, if_pos (show (0 : Int32) ≤ 0 by decide), b1, m_bo, c1, m_bo, d1']
            obtain ⟨v, S2, q1, q2, q3, q4⟩ := K_chg_end (S := z_ua S1 64 g') hI hA (rK_64 b2) (by rw [m_ua1, if_neg (by decide)]; exact b3) b4 (by show S1.2.1 60 0 = 0; rw [b5, z_thr]) hk o1 o2 hal hz (by rw [z_ua_at]; exact d2) w_put_0
            exact ⟨v, S2, q1, q2, z_kf_tr (z_kf_ui (by decide)) q3, q4⟩
          · rw [if_neg g3, if_neg g3]; exact bad _ 3 _ rfl (by omega) (by omega)
        · rw [if_neg g2, if_neg g2]; exact bad _ 3 _ rfl (by omega) (by omega)
      · rw [if_neg g1, if_neg g1]; exact bad _ 2 _ rfl (by omega) (by omega)
    · rw [if_neg e1, if_neg e1]; exact bad _ 2 _ rfl (by omega) (by omega)
  · rw [if_neg e, if_neg e]; exact bad _ 1 _ rfl (by omega) (by omega)
theorem cut_pre {p1 p2 : Int32} (hA : AI B J A) (e1 : d_k A.1.2 p1 = 2) (g1 : 0 ≤ p2 ∧ p2 ≤ nI (oZ A.1.2 p1.toNatClampNeg)) : ∃ o a, p1 = nI o ∧ 1 ≤ o ∧ o ≤ 60 ∧ oK A.1.2 o = 2 ∧ p2 = nI a ∧ a ≤ oZ A.1.2 o ∧ oZ A.1.2 o ≤ 2048 := by
  obtain ⟨o, ho, o1, o2, o3⟩ := dk_some (O := A.1.2) (p := p1) (by omega)
  subst ho
  have hk : oK A.1.2 o = 2 := o3.trans e1
  have hz := im_z hA.2.1.2 hk
  rw [nI_clamp (by omega)] at g1
  obtain ⟨a, ha, a1, a2⟩ := m_in (p := p2) (lo := 0) (hi := oZ A.1.2 o) (by rw [← m_c0]; exact g1.1) g1.2 (by omega) (by omega)
  exact ⟨o, a, rfl, o1, o2, hk, ha, a2, hz⟩
theorem w_cut_0 {W : Nat → Int32} {z : Nat} : ∀ k, z ≤ k → k < 2048 → w_cut W z k = 0 := fun k hk _ => if_neg (by omega)
theorem G_cut_a {p1 p2 : Int32} (hA : AI B J A) : AI B J (A_cut B A p1 p2).2.2 := by
  unfold A_cut
  split
  · split
    · rename_i e1
      split
      · rename_i g1
        obtain ⟨o, a, rfl, o1, o2, hk, rfl, ha, hz⟩ := cut_pre hA e1 g1
        rw [nI_clamp (by omega), nI_clamp (by omega)]
        exact chg_a hA hk o1 o2 (by omega)
      · exact hA
    · exact hA
  · exact hA
theorem G_cut_z {p1 p2 : Int32} (hA : AI B J A) (hZ : AZ A) : AZ (A_cut B A p1 p2).2.2 := by
  unfold A_cut
  split
  · split
    · rename_i e1
      split
      · rename_i g1
        obtain ⟨o, a, rfl, o1, o2, hk, rfl, ha, hz⟩ := cut_pre hA e1 g1
        rw [nI_clamp (by omega), nI_clamp (by omega)]
        exact chg_z hA hZ hk (by omega) w_cut_0
      · exact hZ
    · exact hZ
  · exact hZ
theorem C_cutf_loop {o z Z : Nat} {W : Nat → Int32} (hZ : Z ≤ 2048) : ∀ (m n i : Nat) (g : Nat → Int32), i + m = Z → m < n → z ≤ i → (∀ k, k < 2048 → rB (g k) (if z ≤ k ∧ k < i then 0 else W k)) → (∀ k, Z ≤ k → k < 2048 → W k = 0) → ∃ g', F_X5_cut_56 B n (nI o) (nI z) (nI Z) (nI i) (z_ua S 59 g) = z_bv (F_X5_changeFile B (nI o) (nI z) (z_ua S 59 g')) (fun S2 => (z_bn (F_X5_dataBlocks B (nI z) S2) fun r4 S5 => (some (.inl (some r4), S5)))) ∧ ∀ k, k < 2048 → rB (g' k) (w_cut W z k)
  | 0, n, i, g, hm, hn, hzi, hg, hW => by
    obtain ⟨n, rfl⟩ : ∃ j, n = j + 1 := ⟨n - 1, by omega⟩
    refine ⟨g, by rw [F_X5_cut_56, if_pos (nI_le (by omega) (by omega))], fun k hk => ?_⟩
    have := hg k hk
    unfold w_cut
    by_cases e : k < z
    · rw [if_neg (by omega)] at this; rw [if_pos e]; exact this
    · rw [if_neg e]
      by_cases e2 : k < i
      · rw [if_pos (by omega)] at this; exact this
      · rw [if_neg (by omega), hW k (by omega) hk] at this; exact this
  | m + 1, n, i, g, hm, hn, hzi, hg, hW => by
    obtain ⟨n, rfl⟩ : ∃ j, n = j + 1 := ⟨n - 1, by omega⟩
    obtain ⟨g', a1, a2⟩ := C_cutf_loop (o := o) (z := z) hZ m n (i + 1) (upd g i 0) (by omega) (by omega) (by omega) (fun k hk => by
      by_cases e : k = i
      · rw [e, pk_us, if_pos (by omega)]; exact rB_0
      · rw [pk_un e]
        have := hg k hk
        by_cases e2 : z ≤ k ∧ k < i
        · rw [if_pos e2] at this; rw [if_pos (by omega)]; exact this
        · rw [if_neg e2] at this; rw [if_neg (by omega)]; exact this) hW
    refine ⟨g', ?_, a2⟩
    rw [F_X5_cut_56, if_neg (nI_ge (by omega) (by omega)), m_gd (m_inb (by omega) (by omega)), m_lt, m_ix (by omega), z_ua_at, z_ua_ua, nI_1, show vp_nar .byte 0 = 0 from rfl]
    exact a1
theorem G_cut_c {p1 p2 : Int32} (h : CI B J S A) (hA : AI B J A) (hZ : AZ A) : ∃ S1, F_X5_cut B p1 p2 S = some (r_o [E_U, E_I, E_A, E_S] (A_cut B A p1 p2).1 (A_cut B A p1 p2).2.1, S1) ∧ CI B J S1 (A_cut B A p1 p2).2.2 ∧ z_cf S S1 := by
  have hB := hA.1.2.1
  have hi := hA.2.1.2
  unfold F_X5_cut A_cut
  rw [C_needPower h hA]
  by_cases e : A.2.2.1 = 0
  · rw [if_pos e, if_pos e, m_bv, C_needFile hi h.2.1.2]
    by_cases e1 : d_k A.1.2 p1 = 2
    · rw [if_pos e1, if_pos e1, m_bv]
      by_cases g1 : 0 ≤ p2 ∧ p2 ≤ nI (oZ A.1.2 p1.toNatClampNeg)
      · obtain ⟨o, a, rfl, o1, o2, hk, rfl, ha, hz⟩ := cut_pre hA e1 g1
        rw [if_pos g1]
        simp only [nI_clamp (show o < 2 ^ 31 by omega), nI_clamp (show a < 2 ^ 31 by omega)]
        have hS : S.1 17 o = nI (oZ A.1.2 o) := (h.2.1.2.2.1 o o1 o2 (by omega)).2
        obtain ⟨g, c1, c2⟩ := C_gather hB hi h.2.1.2 hZ.1 o1 o2 hk
        obtain ⟨g', d1, d2⟩ := C_cutf_loop (B := B) (S := S) (o := o) (z := a) (W := o_W A.1.2 o) hz (oZ A.1.2 o - a) z_n a g (by omega) (by unfold z_n; omega) (by omega) (fun k hk => by rw [if_neg (by omega)]; exact c2 k hk) (fun k hk _ => if_neg (by omega))
        rw [m_gd (m_inb (by omega) (by omega)), m_lt, hS, if_neg (show ¬ nI a < 0 by rw [m_c0]; exact nI_nlt (by omega) (by omega)), if_pos (nI_le ha (by omega)), c1, m_bo, d1]
        obtain ⟨h9, f9⟩ := CI_59 (g := g') h
        obtain ⟨k1, k2⟩ := C_changeFile h9 hA hk o1 o2 (show a ≤ 2048 by omega) (W := w_cut (o_W A.1.2 o) a) (by rw [z_ua_at]; exact d2)
        unfold A_chg
        cases hq : a_chg B A.1.1 A.1.2 o a (w_cut (o_W A.1.2 o) a) with
        | none =>
          obtain ⟨S1, m1, m2, m3⟩ := k2 hq
          rw [m1, m_bvx]
          exact ⟨S1, rfl, m2, z_cf_tr f9 m3⟩
        | some q =>
          obtain ⟨S1, m1, m2, m3⟩ := k1 q hq
          rw [m1, m_bv, C_dataBlocks (by omega), m_bn]
          exact ⟨S1, rfl, m2, z_cf_tr f9 m3⟩
      · obtain ⟨o, ho, o1, o2, o3⟩ := dk_some (O := A.1.2) (p := p1) (by omega)
        subst ho
        have hS : S.1 17 o = nI (oZ A.1.2 o) := (h.2.1.2.2.1 o o1 o2 (by omega)).2
        rw [if_neg g1, m_gd (m_inb (by omega) (by omega)), m_lt, m_ix (by omega), hS]
        rw [nI_clamp (by omega)] at g1
        refine ⟨S, ?_, h, z_cf_rf⟩
        by_cases h1 : p2 < 0
        · rw [if_pos h1, F_X5_cut_31]; rfl
        · rw [if_neg h1, if_neg (fun w => g1 ⟨Int32.not_lt.mp h1, w⟩), F_X5_cut_31]; rfl
    · rw [if_neg e1, if_neg e1, m_bvx]; exact ⟨S, rfl, h, z_cf_rf⟩
  · rw [if_neg e, if_neg e, m_bvx]; exact ⟨S, rfl, h, z_cf_rf⟩
theorem G_cut_k {p1 p2 : Int32} (h : KI B J S A) (hA : AI B J A) : ∃ v S2, F_X6_cut B p1 p2 S = some (.inl (some v), S2) ∧ KI B J S2 (A_cut B A p1 p2).2.2 ∧ z_kf S S2 ∧ S2.2.1 60 0 = nI (A_cut B A p1 p2).1 ∧ ((A_cut B A p1 p2).1 = 0 → v = (A_cut B A p1 p2).2.1) := by
  have hB := hA.1.2.1
  have hi := hA.2.1.2
  have bad : ∀ (v1 v2 c : Int32) (n : Nat) (w : Int32), c = nI n → n ≠ 0 → n < 5 → ∃ v S2, F_X6_cut_47 B v1 v2 c S = some (.inl (some v), S2) ∧ KI B J S2 A ∧ z_kf S S2 ∧ S2.2.1 60 0 = nI n ∧ (n = 0 → v = w) := fun v1 v2 c n w hc hn hn5 => by
    have hc0 : ¬ c ≤ 0 := fun z => by
      rw [hc, m_c0] at z
      exact absurd z (nI_nle (by omega) (by omega))
    rw [F_X6_cut_47, m_lt, z_thr, if_neg hc0]
    exact ⟨_, _, rfl, KI_thr h, z_kf_ui (by decide), by rw [z_thr, hc], fun z => absurd z hn⟩
  unfold F_X6_cut A_cut
  rw [h.2.2.2.1]
  by_cases e : A.2.2.1 = 0
  · rw [if_pos e, if_pos e, K_isFile hi h.2.1.2, m_bn]
    by_cases e1 : d_k A.1.2 p1 = 2
    · obtain ⟨o, ho, o1, o2, o3⟩ := dk_some (O := A.1.2) (p := p1) (by omega)
      subst ho
      have e2 : (218 : Int32) + nI o = nI (218 + o) := by rw [m_c218, nI_add]
      have e3 : (279 : Int32) + nI o = nI (279 + o) := by rw [m_c279, nI_add]
      rw [if_pos e1, if_pos e1, if_neg (show ¬ (1 : Int32) = 0 by decide), e2, m_gd (m_inb (by omega) (by omega)), m_lt, m_ix (by omega), (h.2.1.2.2.1 o o1 o2 (by omega)).2.1, K_isIn, m_bn, nI_clamp (by omega)]
      by_cases g1 : 0 ≤ p2 ∧ p2 ≤ nI (oZ A.1.2 o)
      · obtain ⟨o', a, ho', -, -, hk', rfl, ha, hz⟩ := cut_pre hA e1 (by rw [nI_clamp (by omega)]; exact g1)
        have hk : oK A.1.2 o = 2 := o3.trans e1
        have hz2 := im_z hi hk
        have ha2 : a ≤ oZ A.1.2 o := by
          have := (nI_eq (by omega) (by have := hi.2.2.2.1 o'; by_cases w : o' = 0 ∨ 60 < o'; rw [this w] at hk'; cases hk'; omega)).mp ho'
          rw [this]; exact ha
        obtain ⟨S1, b1, b2, b3, b4, b5⟩ := K_begin (B := B) (z_ui S 60 0 0)
        have hI := KI_thr (v := 0) h
        have e61 : S1.1 61 = S.1 61 := b3
        obtain ⟨g, c1, c2⟩ := K_gather (S := S1) hB hi (by rw [e61]; exact h.2.1.2) o1 o2 hk
        obtain ⟨l1, l2⟩ := K_lay (S := z_ua S1 64 g) (z := a) (W := w_cut (o_W A.1.2 o) a) hI hA (rK_64 b2) (by rw [m_ua1, if_neg (by decide)]; exact b3) b4 hk o1 o2 (by omega) (fun k hk => by rw [z_ua_at, c2 k (by omega)]; exact (if_pos hk).symm) w_cut_0
        rw [if_pos g1, if_pos g1, if_neg (show ¬ (1 : Int32) = 0 by decide), F_X6_cut_47, m_lt, z_thr, if_pos (show (0 : Int32) ≤ 0 by decide), b1, m_bo, c1, m_bo, nI_clamp (show a < 2 ^ 31 by omega)]
        unfold A_chg
        cases hq : a_chg B A.1.1 A.1.2 o a (w_cut (o_W A.1.2 o) a) with
        | none =>
          obtain ⟨S3, a1, a2, a3⟩ := l2 hq
          obtain ⟨S4, q1, q2, q3, q4⟩ := K_ended_no hI hA a2 a3
          rw [a1, m_bo, q1, m_bn, if_pos rfl, F_X6_cut_96]
          exact ⟨_, _, rfl, q2, z_kf_tr (z_kf_ui (by decide)) q3, q4, fun z => (by cases z)⟩
        | some q =>
          obtain ⟨f', a1, a2, a3, a4, a5⟩ := l1 q hq
          have h7' : (z_ua (z_ua S1 64 g) 61 f').2.1 60 7 = 0 := b4
          rw [a1, m_bo, K_ended_ok h7', m_bn, if_neg (show ¬ (1 : Int32) = 0 by decide), e3, m_gd (m_inb (by omega) (by omega)), m_lt, m_ix (by omega), z_ua_at, a5, F_X6_cut_96]
          exact ⟨_, _, rfl, KI_rK hI (rK_ua (rK_64 b2)) (by rw [z_ua_at]; exact a2) (by rw [z_ua_at]; exact a3), z_kf_tr (z_kf_ui (by decide)) (rK_kf (rK_ua (rK_64 b2))), (show S1.2.1 60 0 = nI 0 by rw [b5, z_thr]; rfl), fun _ => rfl⟩
      · rw [if_neg g1, if_neg g1, if_pos rfl]
        exact bad _ _ _ 3 _ rfl (by omega) (by omega)
    · rw [if_neg e1, if_neg e1, if_pos rfl]
      exact bad _ _ _ 2 _ rfl (by omega) (by omega)
  · rw [if_neg e, if_neg e]
    exact bad _ _ _ 1 _ rfl (by omega) (by omega)
end WT
