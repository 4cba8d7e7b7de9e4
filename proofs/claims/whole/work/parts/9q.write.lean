/-! write, fill, cut: class and reference answer alike. -/
def AZ (A : m_A) : Prop := m_z A.1.2 ∧ m_z A.2.1.2
/-- bytes put over a file's bytes -/
def w_put (W by' : Nat → Int32) (a l : Nat) : Nat → Int32 := fun k => if a ≤ k ∧ k < a + l then by' (k - a) else W k
def b_w (v : Int64) : Nat → Int32 := fun i => (((v >>> ((8 * nI i).toInt64 &&& 63)) &&& 255).toInt32)
def b_f (v : Int32) : Nat → Int32 := fun i => ((v + (7 * nI i)) &&& 255)
def m_mx (a b : Nat) : Nat := if a < b then b else a
/-- the answer, and what it leaves -/
def A_chg (B : Nat) (A : m_A) (o z : Nat) (W : Nat → Int32) (v : Int32) : Nat × Int32 × m_A := match a_chg B A.1.1 A.1.2 o z W with
  | none => (4, 0, A)
  | some q => (0, v, (q, A.2))
def A_file (B : Nat) (A : m_A) (p1 p2 p3 p4 : Int32) (by' : Nat → Int32) : Nat × Int32 × m_A := if A.2.2.1 = 0 then (if d_k A.1.2 p1 = 2 then (if 0 ≤ p2 ∧ p2 ≤ nI (oZ A.1.2 p1.toNatClampNeg) then (if 1 ≤ p3 ∧ p3 ≤ p4 then (if p2 + p3 ≤ 2048 then A_chg B A p1.toNatClampNeg (m_mx (oZ A.1.2 p1.toNatClampNeg) (p2.toNatClampNeg + p3.toNatClampNeg)) (w_put (o_W A.1.2 p1.toNatClampNeg) by' p2.toNatClampNeg p3.toNatClampNeg) (nI (m_mx (oZ A.1.2 p1.toNatClampNeg) (p2.toNatClampNeg + p3.toNatClampNeg))) else (3, 0, A)) else (3, 0, A)) else (2, 0, A)) else (2, 0, A)) else (1, 0, A)
section WR
variable {B J : Nat} {S S' S0 S1 S2 : z_S} {A : m_A} {T T' T1 T2 : m_T} {O O' : m_O} {f f' g : Nat → Int32}
theorem mx_le {a b c : Nat} (h1 : a ≤ c) (h2 : b ≤ c) : m_mx a b ≤ c := by unfold m_mx; split <;> omega
theorem mx_ge {a b : Nat} : a ≤ m_mx a b ∧ b ≤ m_mx a b := by unfold m_mx; split <;> omega
theorem chg_a {o z : Nat} {W : Nat → Int32} {v : Int32} (hA : AI B J A) (hk : oK A.1.2 o = 2) (o1 : 1 ≤ o) (o2 : o ≤ 60) (hz : z ≤ 2048) : AI B J (A_chg B A o z W v).2.2 := by
  unfold A_chg
  cases hq : a_chg B A.1.1 A.1.2 o z W with
  | none => exact hA
  | some q =>
    unfold a_chg at hq
    cases hd : a_data B A.1.1 (oP A.1.2 o) (m_dt z) with
    | none => rw [hd] at hq; cases hq
    | some q0 =>
      rw [hd] at hq
      obtain ⟨-, kk⟩ := chg_ok (W := W) hA.1.2.1 hA.2.1.1 hA.2.1.2 hk o1 o2 hz hd
      simp only [] at hq
      cases hs2 : a_shp B q0.1 (o * 4000 + 2000) (2 * (oP A.1.2 o).length) (2 * m_dt z) with
      | none => rw [hs2] at hq; cases hq
      | some T2 =>
        rw [hs2] at hq
        obtain ⟨-, ll⟩ := kk T2 hs2
        simp only [] at hq
        cases hs3 : a_shp B T2 (o * 4000 + 3000) (m_tl (oZ A.1.2 o)) (m_tl z) with
        | none => rw [hs3] at hq; cases hq
        | some T3 =>
          rw [hs3] at hq
          obtain ⟨n1, n2, -⟩ := ll T3 hs3
          have := Option.some.inj hq
          subst this
          exact AI_im hA n1 n2
theorem chg_z {o z : Nat} {W : Nat → Int32} {v : Int32} (hA : AI B J A) (hZ : AZ A) (hk : oK A.1.2 o = 2) (hz : z ≤ 2048) (hW : ∀ k, z ≤ k → k < 2048 → W k = 0) : AZ (A_chg B A o z W v).2.2 := by
  have hi := hA.2.1.2
  unfold A_chg
  cases hq : a_chg B A.1.1 A.1.2 o z W with
  | none => exact hZ
  | some q =>
    unfold a_chg at hq
    cases hd : a_data B A.1.1 (oP A.1.2 o) (m_dt z) with
    | none => rw [hd] at hq; cases hq
    | some q0 =>
      rw [hd] at hq
      simp only [] at hq
      obtain ⟨T1, P⟩ := q0
      obtain ⟨-, -, k3, k4, -, -, k7, -⟩ := data_ok hA.2.1.1 (hi.2.2.2.2.2.2.2.2.2.2.2.2.2.2.2.2.1 o hk) (hi.2.2.2.2.2.2.2.2.2.2.2.2.2.2.2.1 o hk) hd
      cases hs2 : a_shp B T1 (o * 4000 + 2000) (2 * (oP A.1.2 o).length) (2 * m_dt z) with
      | none => rw [hs2] at hq; cases hq
      | some T2 =>
        rw [hs2] at hq
        simp only [] at hq
        cases hs3 : a_shp B T2 (o * 4000 + 3000) (m_tl (oZ A.1.2 o)) (m_tl z) with
        | none => rw [hs3] at hq; cases hq
        | some T3 =>
          rw [hs3] at hq
          have := Option.some.inj hq
          subst this
          refine ⟨z_chg hZ.1 k3 hz k4 hW (fun x b hx hxo hb w => ?_), hZ.2⟩
          rcases k7 b w with e | e
          · exact hxo (hi.2.2.2.2.2.2.2.2.2.2.2.2.2.2.2.2.2 x o b hx hk hb e)
          · rw [(hi.2.2.2.2.2.2.2.2.2.2.2.2.2.2.2.1 x hx b hb).2.2] at e; cases e
theorem w_put_0 {o a l : Nat} {by' : Nat → Int32} : ∀ k, m_mx (oZ O o) (a + l) ≤ k → k < 2048 → w_put (o_W O o) by' a l k = 0 := fun k hk _ => by
  have := mx_ge (a := oZ O o) (b := a + l)
  unfold w_put o_W
  rw [if_neg (by omega), if_neg (by omega)]
theorem C_write_loop {o a l z : Nat} {v : Int64} {W : Nat → Int32} (hl : a + l ≤ 2048) : ∀ (m n i : Nat) (g : Nat → Int32), i + m = l → m < n → (∀ k, k < 2048 → rB (g k) (w_put W (b_w v) a i k)) → ∃ g', F_X5_write_27 B n (nI o) (nI a) v (nI l) (nI z) (nI i) (z_ua S 59 g) = z_bv (F_X5_changeFile B (nI o) (nI z) (z_ua S 59 g')) (fun S2 => some (.inl (some (nI z)), S2)) ∧ ∀ k, k < 2048 → rB (g' k) (w_put W (b_w v) a l k)
  | 0, n, i, g, hm, hn, hg => by
    obtain ⟨n, rfl⟩ : ∃ j, n = j + 1 := ⟨n - 1, by omega⟩
    have : i = l := by omega
    subst this
    exact ⟨g, by rw [F_X5_write_27, if_pos (nI_le (by omega) (by omega))], hg⟩
  | m + 1, n, i, g, hm, hn, hg => by
    obtain ⟨n, rfl⟩ : ∃ j, n = j + 1 := ⟨n - 1, by omega⟩
    have e1 : nI a + nI i = nI (a + i) := nI_add ..
    obtain ⟨g', a1, a2⟩ := C_write_loop (o := o) (z := z) hl m n (i + 1) (upd g (a + i) (vp_nar .byte (((v >>> ((8 * nI i).toInt64 &&& 63)).toInt32).toInt8.toInt32))) (by omega) (by omega) (fun k hk => by
      by_cases e : k = a + i
      · rw [e, pk_us]
        unfold w_put
        rw [if_pos (by omega), show a + i - a = i by omega]
        exact rB_l
      · rw [pk_un e]
        have := hg k hk
        unfold w_put at this ⊢
        by_cases e2 : a ≤ k ∧ k < a + i
        · rw [if_pos e2] at this; rw [if_pos (by omega)]; exact this
        · rw [if_neg e2] at this; rw [if_neg (by omega)]; exact this)
    refine ⟨g', ?_, a2⟩
    rw [F_X5_write_27, if_neg (nI_ge (by omega) (by omega)), e1, m_gd (m_inb (by omega) (by omega)), m_lt, m_ix (by omega), z_ua_at, z_ua_ua, nI_1]
    exact a1
theorem C_fill_loop2 {o a l z : Nat} {v : Int32} {W : Nat → Int32} (hl : a + l ≤ 2048) : ∀ (m n i : Nat) (g : Nat → Int32), i + m = l → m < n → (∀ k, k < 2048 → rB (g k) (w_put W (b_f v) a i k)) → ∃ g', F_X5_fill_28 B n (nI o) (nI a) v (nI l) (nI z) (nI i) (z_ua S 59 g) = z_bv (F_X5_changeFile B (nI o) (nI z) (z_ua S 59 g')) (fun S2 => some (.inl (some (nI z)), S2)) ∧ ∀ k, k < 2048 → rB (g' k) (w_put W (b_f v) a l k)
  | 0, n, i, g, hm, hn, hg => by
    obtain ⟨n, rfl⟩ : ∃ j, n = j + 1 := ⟨n - 1, by omega⟩
    have : i = l := by omega
    subst this
    exact ⟨g, by rw [F_X5_fill_28, if_pos (nI_le (by omega) (by omega))], hg⟩
  | m + 1, n, i, g, hm, hn, hg => by
    obtain ⟨n, rfl⟩ : ∃ j, n = j + 1 := ⟨n - 1, by omega⟩
    have e1 : nI a + nI i = nI (a + i) := nI_add ..
    obtain ⟨g', a1, a2⟩ := C_fill_loop2 (o := o) (z := z) hl m n (i + 1) (upd g (a + i) (vp_nar .byte ((v + (7 * nI i)).toInt8.toInt32))) (by omega) (by omega) (fun k hk => by
      by_cases e : k = a + i
      · rw [e, pk_us]
        unfold w_put
        rw [if_pos (by omega), show a + i - a = i by omega]
        exact rB_n
      · rw [pk_un e]
        have := hg k hk
        unfold w_put at this ⊢
        by_cases e2 : a ≤ k ∧ k < a + i
        · rw [if_pos e2] at this; rw [if_pos (by omega)]; exact this
        · rw [if_neg e2] at this; rw [if_neg (by omega)]; exact this)
    refine ⟨g', ?_, a2⟩
    rw [F_X5_fill_28, if_neg (nI_ge (by omega) (by omega)), e1, m_gd (m_inb (by omega) (by omega)), m_lt, m_ix (by omega), z_ua_at, z_ua_ua, nI_1]
    exact a1
theorem K_write_loop {o a l : Nat} {v : Int64} {W : Nat → Int32} (hl : a + l ≤ 2048) : ∀ (m n i : Nat) (g : Nat → Int32), i + m = l → m < n → (∀ k, k < 2048 → g k = w_put W (b_w v) a i k) → ∃ g', F_X6_write_35 B n (nI o) (nI a) v (nI l) (nI i) (z_ua S 64 g) = z_bn (F_X6_change B (nI o) (nI (a + l)) (z_ua S 64 g')) (fun r1 S2 => some (.inl (some r1), S2)) ∧ ∀ k, k < 2048 → g' k = w_put W (b_w v) a l k
  | 0, n, i, g, hm, hn, hg => by
    obtain ⟨n, rfl⟩ : ∃ j, n = j + 1 := ⟨n - 1, by omega⟩
    have : i = l := by omega
    subst this
    exact ⟨g, by rw [F_X6_write_35, if_pos (nI_le (by omega) (by omega)), nI_add], hg⟩
  | m + 1, n, i, g, hm, hn, hg => by
    obtain ⟨n, rfl⟩ : ∃ j, n = j + 1 := ⟨n - 1, by omega⟩
    have e1 : nI a + nI i = nI (a + i) := nI_add ..
    obtain ⟨g', a1, a2⟩ := K_write_loop (o := o) hl m n (i + 1) (upd g (a + i) (b_w v i)) (by omega) (by omega) (fun k hk => by
      by_cases e : k = a + i
      · rw [e, pk_us]
        unfold w_put
        rw [if_pos (by omega), show a + i - a = i by omega]
      · rw [pk_un e, hg k hk]
        unfold w_put
        by_cases e2 : a ≤ k ∧ k < a + i
        · rw [if_pos e2, if_pos (by omega)]
        · rw [if_neg e2, if_neg (by omega)])
    refine ⟨g', ?_, a2⟩
    rw [F_X6_write_35, if_neg (nI_ge (by omega) (by omega)), e1, m_gd (m_inb (by omega) (by omega)), m_lt, m_ix (by omega), z_ua_at, z_ua_ua, nI_1]
    exact a1
theorem K_fill_loop {o a l : Nat} {v : Int32} {W : Nat → Int32} (hl : a + l ≤ 2048) : ∀ (m n i : Nat) (g : Nat → Int32), i + m = l → m < n → (∀ k, k < 2048 → g k = w_put W (b_f v) a i k) → ∃ g', F_X6_fill_36 B n (nI o) (nI a) v (nI l) (nI i) (z_ua S 64 g) = z_bn (F_X6_change B (nI o) (nI (a + l)) (z_ua S 64 g')) (fun r1 S2 => some (.inl (some r1), S2)) ∧ ∀ k, k < 2048 → g' k = w_put W (b_f v) a l k
  | 0, n, i, g, hm, hn, hg => by
    obtain ⟨n, rfl⟩ : ∃ j, n = j + 1 := ⟨n - 1, by omega⟩
    have : i = l := by omega
    subst this
    exact ⟨g, by rw [F_X6_fill_36, if_pos (nI_le (by omega) (by omega)), nI_add], hg⟩
  | m + 1, n, i, g, hm, hn, hg => by
    obtain ⟨n, rfl⟩ : ∃ j, n = j + 1 := ⟨n - 1, by omega⟩
    have e1 : nI a + nI i = nI (a + i) := nI_add ..
    obtain ⟨g', a1, a2⟩ := K_fill_loop (o := o) hl m n (i + 1) (upd g (a + i) (b_f v i)) (by omega) (by omega) (fun k hk => by
      by_cases e : k = a + i
      · rw [e, pk_us]
        unfold w_put
        rw [if_pos (by omega), show a + i - a = i by omega]
      · rw [pk_un e, hg k hk]
        unfold w_put
        by_cases e2 : a ≤ k ∧ k < a + i
        · rw [if_pos e2, if_pos (by omega)]
        · rw [if_neg e2, if_neg (by omega)])
    refine ⟨g', ?_, a2⟩
    rw [F_X6_fill_36, if_neg (nI_ge (by omega) (by omega)), e1, m_gd (m_inb (by omega) (by omega)), m_lt, m_ix (by omega), z_ua_at, z_ua_ua, nI_1]
    exact a1
theorem w_put_nil {W by' : Nat → Int32} {a k : Nat} : w_put W by' a 0 k = W k := by
  unfold w_put
  rw [if_neg (by omega)]
theorem CI_59 (h : CI B J S A) : CI B J (z_ua S 59 g) A ∧ z_cf S (z_ua S 59 g) := by
  have n : ∀ a, a ≠ 59 → (z_ua S 59 g).1 a = S.1 a := fun a ha => by rw [m_ua1, if_neg ha]
  obtain ⟨a1, ⟨b1, b2⟩, ⟨c1, c2⟩, p1, p2, p3, p4, p5, p6⟩ := h
  exact ⟨⟨a1, ⟨c_T_cg b1 (fun a h1 h2 => n a (by omega)) rfl rfl, c_O_cg b2 (fun a h1 h2 => n a (by omega))⟩, ⟨c_T_cg c1 (fun a h1 h2 => n a (by omega)) rfl rfl, c_O_cg c2 (fun a h1 h2 => n a (by omega))⟩, p1, p2, p3, p4, p5, fun b hb => by rw [n 56 (by decide)]; exact p6 b hb⟩, z_cf_ua (by decide)⟩
/-- the class's end of write and fill -/
theorem C_chg_end {o z : Nat} {W : Nat → Int32} (h : CI B J S A) (hA : AI B J A) (hk : oK A.1.2 o = 2) (o1 : 1 ≤ o) (o2 : o ≤ 60) (hz : z ≤ 2048) (hW : ∀ k, k < 2048 → rB (g k) (W k)) :
    ∃ S1, z_bv (F_X5_changeFile B (nI o) (nI z) (z_ua S 59 g)) (fun S2 => some (.inl (some (nI z)), S2)) = some (r_o [E_U, E_I, E_A, E_S] (A_chg B A o z W (nI z)).1 (A_chg B A o z W (nI z)).2.1, S1) ∧ CI B J S1 (A_chg B A o z W (nI z)).2.2 ∧ z_cf S S1 := by
  obtain ⟨h9, f9⟩ := CI_59 (g := g) h
  obtain ⟨c1, c2⟩ := C_changeFile h9 hA hk o1 o2 hz (W := W) (by rw [z_ua_at]; exact hW)
  unfold A_chg
  cases hq : a_chg B A.1.1 A.1.2 o z W with
  | none =>
    obtain ⟨S1, d1, d2, d3⟩ := c2 hq
    rw [d1, m_bvx]
    exact ⟨S1, rfl, d2, z_cf_tr f9 d3⟩
  | some q =>
    obtain ⟨S1, d1, d2, d3⟩ := c1 q hq
    rw [d1, m_bv]
    exact ⟨S1, rfl, d2, z_cf_tr f9 d3⟩
theorem C_sizeAfter {p1 p2 p3 p4 : Int32} (h : CI B J S A) (hA : AI B J A) : F_X5_sizeAfter B p1 p2 p3 p4 S = some ((if A.2.2.1 = 0 then (if d_k A.1.2 p1 = 2 then (if 0 ≤ p2 ∧ p2 ≤ nI (oZ A.1.2 p1.toNatClampNeg) then (if 1 ≤ p3 ∧ p3 ≤ p4 then (if p2 + p3 ≤ 2048 then .inl (some (if nI (oZ A.1.2 p1.toNatClampNeg) < p2 + p3 then p2 + p3 else nI (oZ A.1.2 p1.toNatClampNeg))) else .inr E_A) else .inr E_A) else .inr E_I) else .inr E_I) else .inr E_U), S) := by
  have hi := hA.2.1.2
  unfold F_X5_sizeAfter
  rw [C_needPower h hA]
  by_cases e : A.2.2.1 = 0
  · rw [if_pos e, if_pos e, m_bv, C_needFile hi h.2.1.2]
    by_cases e1 : d_k A.1.2 p1 = 2
    · obtain ⟨o, ho, o1, o2, o3⟩ := dk_some (O := A.1.2) (p := p1) (by omega)
      subst ho
      have hZ : S.1 17 o = nI (oZ A.1.2 o) := (h.2.1.2.2.1 o o1 o2 (by omega)).2
      rw [if_pos e1, if_pos e1, m_bv, m_gd (m_inb (by omega) (by omega)), m_lt, m_ix (by omega), hZ, nI_clamp (by omega)]
      by_cases h1 : p2 < 0
      · rw [if_pos h1, if_neg (fun w => Int32.not_lt.mpr w.1 h1), F_X5_sizeAfter_33]; rfl
      · rw [if_neg h1]
        by_cases h2 : p2 ≤ nI (oZ A.1.2 o)
        · have g1 : (0 : Int32) ≤ p2 ∧ p2 ≤ nI (oZ A.1.2 o) := ⟨Int32.not_lt.mp h1, h2⟩
          rw [if_pos h2, if_pos g1]
          by_cases h3 : p3 < 1
          · rw [if_pos h3, if_neg (fun w => Int32.not_lt.mpr w.1 h3), F_X5_sizeAfter_63]; rfl
          · rw [if_neg h3]
            by_cases h4 : p4 < p3
            · rw [if_pos h4, if_neg (fun w => Int32.not_lt.mpr w.2 h4), F_X5_sizeAfter_63]; rfl
            · have g3 : (1 : Int32) ≤ p3 ∧ p3 ≤ p4 := ⟨Int32.not_lt.mp h3, Int32.not_lt.mp h4⟩
              rw [if_neg h4, if_pos g3]
              by_cases h5 : p2 + p3 ≤ 2048
              · rw [if_pos h5, if_pos h5]
              · rw [if_neg h5, if_neg h5, F_X5_sizeAfter_63]; rfl
        · rw [if_neg h2, if_neg (fun w => h2 w.2), F_X5_sizeAfter_33]; rfl
    · rw [if_neg e1, if_neg e1, m_bvx]
  · rw [if_neg e, if_neg e, m_bvx]
end WR
