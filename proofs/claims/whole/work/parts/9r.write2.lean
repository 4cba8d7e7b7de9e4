/-! write, fill, cut: the calls. -/
def w_cut (W : Nat → Int32) (z : Nat) : Nat → Int32 := fun k => if k < z then W k else 0
def A_cut (B : Nat) (A : m_A) (p1 p2 : Int32) : Nat × Int32 × m_A := if A.2.2.1 = 0 then (if d_k A.1.2 p1 = 2 then (if 0 ≤ p2 ∧ p2 ≤ nI (oZ A.1.2 p1.toNatClampNeg) then A_chg B A p1.toNatClampNeg p2.toNatClampNeg (w_cut (o_W A.1.2 p1.toNatClampNeg) p2.toNatClampNeg) (nI (m_dt p2.toNatClampNeg)) else (3, 0, A)) else (2, 0, A)) else (1, 0, A)
section WS
variable {B J : Nat} {S S' S0 S1 S2 : z_S} {A : m_A} {T T' T1 T2 : m_T} {O O' : m_O} {f f' g : Nat → Int32}
theorem file_pre {p1 p2 p3 : Int32} {M : Nat} (hA : AI B J A) (hM : M ≤ 512) (e1 : d_k A.1.2 p1 = 2) (g1 : 0 ≤ p2 ∧ p2 ≤ nI (oZ A.1.2 p1.toNatClampNeg)) (g2 : 1 ≤ p3 ∧ p3 ≤ nI M) (g3 : p2 + p3 ≤ 2048) : ∃ o a l, p1 = nI o ∧ 1 ≤ o ∧ o ≤ 60 ∧ oK A.1.2 o = 2 ∧ p2 = nI a ∧ a ≤ oZ A.1.2 o ∧ p3 = nI l ∧ 1 ≤ l ∧ l ≤ M ∧ a + l ≤ 2048 ∧ oZ A.1.2 o ≤ 2048 := by
  obtain ⟨o, ho, o1, o2, o3⟩ := dk_some (O := A.1.2) (p := p1) (by omega)
  subst ho
  have hk : oK A.1.2 o = 2 := o3.trans e1
  have hz := im_z hA.2.1.2 hk
  rw [nI_clamp (by omega)] at g1
  obtain ⟨a, ha, a1, a2⟩ := m_in (p := p2) (lo := 0) (hi := oZ A.1.2 o) (by rw [← m_c0]; exact g1.1) g1.2 (by omega) (by omega)
  obtain ⟨l, hl, l1, l2⟩ := m_in (p := p3) (lo := 1) (hi := M) (by rw [← m_c1]; exact g2.1) g2.2 (by omega) (by omega)
  subst ha; subst hl
  rw [nI_add, m_c2048, nI_leI (by omega) (by omega)] at g3
  exact ⟨o, a, l, rfl, o1, o2, hk, rfl, a2, rfl, l1, l2, g3, hz⟩
theorem file_mx {z a l : Nat} (hz : z ≤ 2048) (ha : a + l ≤ 2048) : (if nI z < nI a + nI l then nI a + nI l else nI z) = nI (m_mx z (a + l)) := by
  rw [nI_add]
  unfold m_mx
  by_cases e : z < a + l
  · rw [if_pos (nI_lt e (by omega)), if_pos e]
  · rw [if_neg (nI_nlt (by omega) (by omega)), if_neg e]
theorem G_file_a {p1 p2 p3 : Int32} {M : Nat} {by' : Nat → Int32} (hM : M ≤ 512) (hA : AI B J A) : AI B J (A_file B A p1 p2 p3 (nI M) by').2.2 := by
  unfold A_file
  split
  · split
    · rename_i e1
      split
      · rename_i g1
        split
        · rename_i g2
          split
          · rename_i g3
            obtain ⟨o, a, l, rfl, o1, o2, hk, rfl, ha, rfl, l1, l2, hal, hz⟩ := file_pre hA hM e1 g1 g2 g3
            simp only [nI_clamp (show o < 2 ^ 31 by omega), nI_clamp (show a < 2 ^ 31 by omega), nI_clamp (show l < 2 ^ 31 by omega)]
            exact chg_a hA hk o1 o2 (mx_le hz hal)
          · exact hA
        · exact hA
      · exact hA
    · exact hA
  · exact hA
theorem G_file_z {p1 p2 p3 : Int32} {M : Nat} {by' : Nat → Int32} (hM : M ≤ 512) (hA : AI B J A) (hZ : AZ A) : AZ (A_file B A p1 p2 p3 (nI M) by').2.2 := by
  unfold A_file
  split
  · split
    · rename_i e1
      split
      · rename_i g1
        split
        · rename_i g2
          split
          · rename_i g3
            obtain ⟨o, a, l, rfl, o1, o2, hk, rfl, ha, rfl, l1, l2, hal, hz⟩ := file_pre hA hM e1 g1 g2 g3
            simp only [nI_clamp (show o < 2 ^ 31 by omega), nI_clamp (show a < 2 ^ 31 by omega), nI_clamp (show l < 2 ^ 31 by omega)]
            exact chg_z hA hZ hk (mx_le hz hal) w_put_0
          · exact hZ
        · exact hZ
      · exact hZ
    · exact hZ
  · exact hZ
theorem G_write_c {p1 p2 p5 : Int32} {p3 : Int64} (h : CI B J S A) (hA : AI B J A) (hZ : AZ A) : ∃ S1, F_X5_write B p1 p2 p3 p5 S = some (r_o [E_U, E_I, E_A, E_S] (A_file B A p1 p2 p5 (nI 8) (b_w p3)).1 (A_file B A p1 p2 p5 (nI 8) (b_w p3)).2.1, S1) ∧ CI B J S1 (A_file B A p1 p2 p5 (nI 8) (b_w p3)).2.2 ∧ z_cf S S1 := by
  have hB := hA.1.2.1
  unfold F_X5_write A_file
  rw [C_sizeAfter h hA, show (8 : Int32) = nI 8 from rfl]
  by_cases e : A.2.2.1 = 0
  · rw [if_pos e, if_pos e]
    by_cases e1 : d_k A.1.2 p1 = 2
    · rw [if_pos e1, if_pos e1]
      by_cases g1 : 0 ≤ p2 ∧ p2 ≤ nI (oZ A.1.2 p1.toNatClampNeg)
      · rw [if_pos g1, if_pos g1]
        by_cases g2 : 1 ≤ p5 ∧ p5 ≤ nI 8
        · rw [if_pos g2, if_pos g2]
          by_cases g3 : p2 + p5 ≤ 2048
          · rw [if_pos g3, if_pos g3]
            obtain ⟨o, a, l, rfl, o1, o2, hk, rfl, ha, rfl, l1, l2, hal, hz⟩ := file_pre hA (by omega) e1 g1 g2 g3
            simp only [nI_clamp (show o < 2 ^ 31 by omega), nI_clamp (show a < 2 ^ 31 by omega), nI_clamp (show l < 2 ^ 31 by omega)]
            obtain ⟨g, c1, c2⟩ := C_gather hB hA.2.1.2 h.2.1.2 hZ.1 o1 o2 hk
            obtain ⟨g', d1, d2⟩ := C_write_loop (B := B) (S := S) (o := o) (z := m_mx (oZ A.1.2 o) (a + l)) (v := p3) (W := o_W A.1.2 o) hal l z_n 0 g (by omega) (by unfold z_n; omega) (fun k hk => by rw [w_put_nil]; exact c2 k hk)
            have d1' : F_X5_write_27 B z_n (nI o) (nI a) p3 (nI l) (nI (m_mx (oZ A.1.2 o) (a + l))) 0 (z_ua S 59 g) = _ := d1
            rw [m_bi, file_mx hz hal, c1, m_bo, d1']
            exact C_chg_end h hA hk o1 o2 (mx_le hz hal) d2
          · rw [if_neg g3, if_neg g3, m_bix]; exact ⟨S, rfl, h, z_cf_rf⟩
        · rw [if_neg g2, if_neg g2, m_bix]; exact ⟨S, rfl, h, z_cf_rf⟩
      · rw [if_neg g1, if_neg g1, m_bix]; exact ⟨S, rfl, h, z_cf_rf⟩
    · rw [if_neg e1, if_neg e1, m_bix]; exact ⟨S, rfl, h, z_cf_rf⟩
  · rw [if_neg e, if_neg e, m_bix]; exact ⟨S, rfl, h, z_cf_rf⟩
theorem G_fill_c {p1 p2 p3 p4 : Int32} (h : CI B J S A) (hA : AI B J A) (hZ : AZ A) : ∃ S1, F_X5_fill B p1 p2 p3 p4 S = some (r_o [E_U, E_I, E_A, E_S] (A_file B A p1 p2 p4 (nI 512) (b_f p3)).1 (A_file B A p1 p2 p4 (nI 512) (b_f p3)).2.1, S1) ∧ CI B J S1 (A_file B A p1 p2 p4 (nI 512) (b_f p3)).2.2 ∧ z_cf S S1 := by
  have hB := hA.1.2.1
  unfold F_X5_fill A_file
  rw [C_sizeAfter h hA, m_c512]
  by_cases e : A.2.2.1 = 0
  · rw [if_pos e, if_pos e]
    by_cases e1 : d_k A.1.2 p1 = 2
    · rw [if_pos e1, if_pos e1]
      by_cases g1 : 0 ≤ p2 ∧ p2 ≤ nI (oZ A.1.2 p1.toNatClampNeg)
      · rw [if_pos g1, if_pos g1]
        by_cases g2 : 1 ≤ p4 ∧ p4 ≤ nI 512
        · rw [if_pos g2, if_pos g2]
          by_cases g3 : p2 + p4 ≤ 2048
          · rw [if_pos g3, if_pos g3]
            obtain ⟨o, a, l, rfl, o1, o2, hk, rfl, ha, rfl, l1, l2, hal, hz⟩ := file_pre hA (by omega) e1 g1 g2 g3
            simp only [nI_clamp (show o < 2 ^ 31 by omega), nI_clamp (show a < 2 ^ 31 by omega), nI_clamp (show l < 2 ^ 31 by omega)]
            obtain ⟨g, c1, c2⟩ := C_gather hB hA.2.1.2 h.2.1.2 hZ.1 o1 o2 hk
            obtain ⟨g', d1, d2⟩ := C_fill_loop2 (B := B) (S := S) (o := o) (z := m_mx (oZ A.1.2 o) (a + l)) (v := p3) (W := o_W A.1.2 o) hal l z_n 0 g (by omega) (by unfold z_n; omega) (fun k hk => by rw [w_put_nil]; exact c2 k hk)
            have d1' : F_X5_fill_28 B z_n (nI o) (nI a) p3 (nI l) (nI (m_mx (oZ A.1.2 o) (a + l))) 0 (z_ua S 59 g) = _ := d1
            rw [m_bi, file_mx hz hal, c1, m_bo, d1']
            exact C_chg_end h hA hk o1 o2 (mx_le hz hal) d2
          · rw [if_neg g3, if_neg g3, m_bix]; exact ⟨S, rfl, h, z_cf_rf⟩
        · rw [if_neg g2, if_neg g2, m_bix]; exact ⟨S, rfl, h, z_cf_rf⟩
      · rw [if_neg g1, if_neg g1, m_bix]; exact ⟨S, rfl, h, z_cf_rf⟩
    · rw [if_neg e1, if_neg e1, m_bix]; exact ⟨S, rfl, h, z_cf_rf⟩
  · rw [if_neg e, if_neg e, m_bix]; exact ⟨S, rfl, h, z_cf_rf⟩
theorem K_refused {p1 p2 p3 p4 : Int32} (h : KI B J S A) (hA : AI B J A) : F_X6_refused B p1 p2 p3 p4 S = some (.inl (some (if A.2.2.1 = 0 then (if d_k A.1.2 p1 = 2 then (if 0 ≤ p2 ∧ p2 ≤ nI (oZ A.1.2 p1.toNatClampNeg) then (if 1 ≤ p3 ∧ p3 ≤ p4 then (if p2 + p3 ≤ 2048 then 0 else 3) else 3) else 2) else 2) else 1)), S) := by
  have hi := hA.2.1.2
  unfold F_X6_refused
  rw [h.2.2.2.1]
  by_cases e : A.2.2.1 = 0
  · rw [if_pos e, if_pos e, K_isFile hi h.2.1.2, m_bn]
    by_cases e1 : d_k A.1.2 p1 = 2
    · obtain ⟨o, ho, o1, o2, o3⟩ := dk_some (O := A.1.2) (p := p1) (by omega)
      subst ho
      have e2 : (218 : Int32) + nI o = nI (218 + o) := by rw [m_c218, nI_add]
      rw [if_pos e1, if_pos e1, if_neg (show ¬ (1 : Int32) = 0 by decide), e2, m_gd (m_inb (by omega) (by omega)), m_lt, m_ix (by omega), (h.2.1.2.2.1 o o1 o2 (by omega)).2.1, K_isIn, m_bn, nI_clamp (by omega)]
      by_cases g1 : 0 ≤ p2 ∧ p2 ≤ nI (oZ A.1.2 o)
      · rw [if_pos g1, if_pos g1, if_neg (show ¬ (1 : Int32) = 0 by decide), K_isIn, m_bn]
        by_cases g2 : 1 ≤ p3 ∧ p3 ≤ p4
        · rw [if_pos g2, if_pos g2, if_neg (show ¬ (1 : Int32) = 0 by decide)]
          by_cases g3 : p2 + p3 ≤ 2048
          · rw [if_pos g3, if_pos g3, F_X6_refused_65]
          · rw [if_neg g3, if_neg g3, F_X6_refused_60, F_X6_refused_65]
        · rw [if_neg g2, if_neg g2, if_pos rfl, F_X6_refused_60, F_X6_refused_65]
      · rw [if_neg g1, if_neg g1, if_pos rfl, F_X6_refused_37, F_X6_refused_65]
    · rw [if_neg e1, if_neg e1, if_pos rfl, F_X6_refused_37, F_X6_refused_65]
  · rw [if_neg e, if_neg e, F_X6_refused_65]
theorem rK_64 (h : rK S0 S) : rK S0 (z_ua S 64 g) := ⟨fun a h1 h2 h3 => by rw [m_ua1, if_neg h3]; exact h.1 a h1 h2 h3, h.2.1, h.2.2.1, fun j hj => by rw [m_ua1, if_neg (by decide)]; exact h.2.2.2 j hj⟩
/-- the reference's end of write and fill -/
theorem K_chg_end {o y : Nat} {W : Nat → Int32} (h : KI B J S0 A) (hA : AI B J A) (hr : rK S0 S) (e61 : S.1 61 = S0.1 61) (h7 : S.2.1 60 7 = 0) (h0 : S.2.1 60 0 = 0) (hk : oK A.1.2 o = 2) (o1 : 1 ≤ o) (o2 : o ≤ 60) (hy : y ≤ 2048) (hz : oZ A.1.2 o ≤ 2048) (hW : ∀ k, k < 2048 → S.1 64 k = W k) (hW0 : ∀ k, m_mx (oZ A.1.2 o) y ≤ k → k < 2048 → W k = 0) :
    ∃ v S2, z_bn (F_X6_change B (nI o) (nI y) S) (fun r1 S2 => some (.inl (some r1), S2)) = some (.inl (some v), S2) ∧ KI B J S2 (A_chg B A o (m_mx (oZ A.1.2 o) y) W (nI (m_mx (oZ A.1.2 o) y))).2.2 ∧ z_kf S0 S2 ∧ S2.2.1 60 0 = nI (A_chg B A o (m_mx (oZ A.1.2 o) y) W (nI (m_mx (oZ A.1.2 o) y))).1 ∧ ((A_chg B A o (m_mx (oZ A.1.2 o) y) W (nI (m_mx (oZ A.1.2 o) y))).1 = 0 → v = (A_chg B A o (m_mx (oZ A.1.2 o) y) W (nI (m_mx (oZ A.1.2 o) y))).2.1) := by
  have e2 : (218 : Int32) + nI o = nI (218 + o) := by rw [m_c218, nI_add]
  have hm := mx_le hz hy
  have qZ : S.1 61 (218 + o) = nI (oZ A.1.2 o) := by rw [e61]; exact (h.2.1.2.2.1 o o1 o2 (by omega)).2.1
  have ch : F_X6_change B (nI o) (nI y) S = F_X6_change_30 B (nI o) (nI (m_mx (oZ A.1.2 o) y)) (nI o) S := by
    unfold F_X6_change
    rw [e2, m_gd (m_inb (by omega) (by omega)), m_lt, m_ix (by omega), qZ]
    unfold m_mx
    by_cases e : oZ A.1.2 o < y
    · rw [if_neg (nI_ge e (by omega)), if_pos e]
    · rw [if_pos (nI_le (by omega) (by omega)), m_gd (m_inb (by omega) (by omega)), m_lt, if_neg e]
  obtain ⟨l1, l2⟩ := K_lay (W := W) h hA hr e61 h7 hk o1 o2 hm (fun k hk => hW k (by omega)) hW0
  rw [ch, F_X6_change_30]
  unfold A_chg
  cases hq : a_chg B A.1.1 A.1.2 o (m_mx (oZ A.1.2 o) y) W with
  | none =>
    obtain ⟨S1, a1, a2, a3⟩ := l2 hq
    obtain ⟨S3, b1, b2, b3, b4⟩ := K_ended_no h hA a2 a3
    rw [a1, m_bo, b1, m_bn, if_pos rfl, F_X6_change_55, m_bn]
    exact ⟨_, _, rfl, b2, b3, b4, fun z => (by cases z)⟩
  | some q =>
    obtain ⟨f', a1, a2, a3, a4, a5⟩ := l1 q hq
    have h7' : (z_ua S 61 f').2.1 60 7 = 0 := h7
    rw [a1, m_bo, K_ended_ok h7', m_bn, if_neg (show ¬ (1 : Int32) = 0 by decide), e2, m_gd (m_inb (by omega) (by omega)), m_lt, m_ix (by omega), z_ua_at, a4, F_X6_change_55, m_bn]
    exact ⟨_, _, rfl, KI_rK h (rK_ua hr) (by rw [z_ua_at]; exact a2) (by rw [z_ua_at]; exact a3), rK_kf (rK_ua hr), h0, fun _ => rfl⟩
end WS
