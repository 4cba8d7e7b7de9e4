/-! name: class and reference answer alike. -/
def E_d (F : List m_It) (d : Nat) : List m_It := F.filter (fun y => decide (y.1 / 1000 = d * 4 + 1))
theorem nE_len {F : List m_It} {d : Nat} : m_nE F d = (E_d F d).length := List.countP_eq_length_filter
theorem E_pre {c : Nat} : ∀ {Q : List m_It} {k : Nat} {y : m_It}, m_so Q → (∀ z ∈ Q, c ≤ z.1 / 1000) → (Q.filter (fun y => decide (y.1 / 1000 = c)))[k]? = some y → Q[k]? = some y
  | [], k, y, _, _, h => by simp at h
  | a :: Q, k, y, hs, hl, h => by
    obtain ⟨h1, h2⟩ := List.pairwise_cons.mp hs
    by_cases e : a.1 / 1000 = c
    · rw [List.filter_cons, if_pos (decide_eq_true e)] at h
      cases k with
      | zero => exact h
      | succ k =>
        rw [List.getElem?_cons_succ] at h ⊢
        exact E_pre h2 (fun z hz => hl z (List.mem_cons_of_mem _ hz)) h
    · exfalso
      rw [List.filter_cons, decide_eq_false e] at h
      have hall : Q.filter (fun y => decide (y.1 / 1000 = c)) = [] := by
        rw [List.filter_eq_nil_iff]
        intro z hz
        have g1 := h1 z hz
        have g2 := hl a List.mem_cons_self
        have g3 : a.1 / 1000 ≤ z.1 / 1000 := by omega
        simp
        omega
      simp [hall] at h
def A_name (A : m_A) (p1 p2 : Int32) : Nat × Int32 := if A.2.2.1 = 0 then (if d_k A.1.2 p1 = 1 then (if 0 ≤ p2 ∧ p2 < nI (oZ A.1.2 p1.toNatClampNeg) then (0, nI (((E_d (flat A.1.1) p1.toNatClampNeg).getD p2.toNatClampNeg (0, 0, none)).1 % 1000)) else (2, 0)) else (2, 0)) else (1, 0)
section CL6
variable {B J : Nat} {S S' : z_S} {A : m_A} {T : m_T} {O : m_O} {f : Nat → Int32}
/-- the items behind an object's STAT are its entries, as many as they are -/
theorem name_at {o k : Nat} {y : m_It} (h : m_ok B T) (hi : m_im B T O) (ho : oK O o ≠ 0) (hy : (E_d (flat T) o)[k]? = some y) :
    ∃ C, tR T 0 = (tR T 0).takeWhile (fun b => decide (b ≠ a_leaf T (o * 4000))) ++ a_leaf T (o * 4000) :: C ∧ ((a_leaf T (o * 4000) :: C).flatMap (tI T))[m_bef (tI T (a_leaf T (o * 4000))) (o * 4000) + (k + 1)]? = some y := by
  obtain ⟨A, C, h1, h2, h3, h4, h5⟩ := leaf_split (k := o * 4000) h
  have hA : (tR T 0).takeWhile (fun b => decide (b ≠ a_leaf T (o * 4000))) = A := by
    rw [h1, List.takeWhile_append_of_pos (fun b hb => by
      have : b ≠ a_leaf T (o * 4000) := fun e => h4 (e ▸ hb)
      simpa using this)]
    simp
  refine ⟨C, by rw [hA]; exact h1, ?_⟩
  obtain ⟨hl, -, FA, FC, hF, hU, hA', hC, hso, hin⟩ := leaf_ok (k := o * 4000) h
  have hst := hi.2.2.2.2.2.1 o ho
  obtain ⟨x, hx, hxk⟩ := bef_at hso (hin ⟨_, hst, rfl⟩)
  generalize hG : (a_leaf T (o * 4000) :: C).flatMap (tI T) = G
  generalize hm : m_bef (tI T (a_leaf T (o * 4000))) (o * 4000) = m at *
  have hml := (List.getElem?_eq_some_iff.mp hx).1
  have hGx : G[m]? = some x := by rw [← hG, List.flatMap_cons, List.getElem?_append_left hml]; exact hx
  have hflat : flat T = A.flatMap (tI T) ++ G := by unfold flat; rw [h1, List.flatMap_append, hG]
  have hsof := h.2.2.2
  unfold m_so at hsof
  rw [hflat] at hsof
  have hsG := (List.pairwise_append.mp hsof).2.1
  have hGm := (List.getElem?_eq_some_iff.mp hGx).1
  have hsplit : G = G.take m ++ x :: G.drop (m + 1) := by
    have e1 : G[m] = x := by rw [List.getElem?_eq_getElem hGm] at hGx; exact Option.some.inj hGx
    rw [← e1, List.getElem_cons_drop]
    exact (List.take_append_drop m G).symm
  have hsG' := hsG
  rw [hsplit] at hsG'
  obtain ⟨s1, s2, s3⟩ := List.pairwise_append.mp hsG'
  obtain ⟨s4, s5⟩ := List.pairwise_cons.mp s2
  have e1 : (A.flatMap (tI T)).filter (fun y => decide (y.1 / 1000 = o * 4 + 1)) = [] := by
    rw [List.filter_eq_nil_iff]
    intro z hz
    have := h2 z hz
    simp
    omega
  have e2 : (G.take m).filter (fun y => decide (y.1 / 1000 = o * 4 + 1)) = [] := by
    rw [List.filter_eq_nil_iff]
    intro z hz
    have := s3 z hz x List.mem_cons_self
    simp
    omega
  have e3 : E_d (flat T) o = (G.drop (m + 1)).filter (fun y => decide (y.1 / 1000 = o * 4 + 1)) := by
    unfold E_d
    rw [hflat, List.filter_append, e1, List.nil_append]
    conv => lhs; rw [hsplit]
    rw [List.filter_append, e2, List.nil_append, List.filter_cons, if_neg (by simp; omega)]
  rw [e3] at hy
  have hlow : ∀ z ∈ G.drop (m + 1), o * 4 + 1 ≤ z.1 / 1000 := fun z hz => by
    have g1 := s4 z hz
    have hzf : z ∈ flat T := by rw [hflat]; exact List.mem_append_right _ (List.mem_of_mem_drop hz)
    have hit := hi.2.2.2.2.1 z hzf
    by_cases hc : o * 4 + 1 ≤ z.1 / 1000
    · exact hc
    · exfalso
      have hz0 : z.1 / 1000 % 4 = 0 := by omega
      have := congrArg Prod.fst (hit.2.2.1 hz0)
      simp only [] at this
      omega
  have := E_pre s5 hlow hy
  rw [List.getElem?_drop] at this
  rw [show m + (k + 1) = m + 1 + k by omega]
  exact this
theorem G_name_c {p1 p2 : Int32} (h : CI B J S A) (hA : AI B J A) : F_X5_name B p1 p2 S = some (r_o [E_U, E_I] (A_name A p1 p2).1 (A_name A p1 p2).2, S) := by
  have hok := hA.2.1.1
  have hi := hA.2.1.2
  have hB := hA.1.2.1
  have hT := h.2.1.1
  have bad : ∀ v1 v2, F_X5_name_33 B (F_X5_name_34 B) v1 v2 S = some (.inr E_I, S) := fun v1 v2 => by
    rw [F_X5_name_33, F_X5_name_34, if_pos rfl, F_X5_name_62, if_pos rfl]; rfl
  unfold F_X5_name A_name
  rw [C_needPower h hA]
  by_cases e : A.2.2.1 = 0
  · rw [if_pos e, if_pos e, m_bv, C_needDirectory hi h.2.1.2]
    by_cases e1 : d_k A.1.2 p1 = 1
    · obtain ⟨o, ho, o1, o2, o3⟩ := dk_some (O := A.1.2) (p := p1) (by omega)
      subst ho
      have hk : oK A.1.2 o = 1 := o3.trans e1
      have hz := (hi.2.2.2.2.2.2.2.2.2.1 o hk).2
      have hfew := flat_few hok hB
      have hEl : m_nE (flat A.1.1) o ≤ (flat A.1.1).length := List.countP_le_length
      rw [if_pos e1, if_pos e1, m_bv, nI_clamp (by omega)]
      by_cases h1 : p2 < 0
      · have g1 : ¬ ((0 : Int32) ≤ p2 ∧ p2 < nI (oZ A.1.2 o)) := fun w => Int32.not_lt.mpr w.1 h1
        rw [if_pos h1, bad, if_neg g1]; rfl
      · rw [if_neg h1, m_gd (m_inb (by omega) (by omega)), m_lt, m_ix (by omega), show S.1 17 o = nI (oZ A.1.2 o) from (h.2.1.2.2.1 o o1 o2 (by omega)).2]
        by_cases h2 : p2 < nI (oZ A.1.2 o)
        · obtain ⟨k, hk2, hkz⟩ := m_below (Int32.not_lt.mp h1) h2 (by omega)
          subst hk2
          have g1 : (0 : Int32) ≤ nI k ∧ nI k < nI (oZ A.1.2 o) := ⟨Int32.not_lt.mp h1, h2⟩
          rw [if_neg (nI_ge hkz (by omega)), if_pos g1, nI_clamp (by omega)]
          have hkE : k < (E_d (flat A.1.1) o).length := by rw [← nE_len]; omega
          have hyE : (E_d (flat A.1.1) o)[k]? = some (E_d (flat A.1.1) o)[k] := List.getElem?_eq_getElem hkE
          have hyd : (E_d (flat A.1.1) o).getD k (0, 0, none) = (E_d (flat A.1.1) o)[k] := by rw [List.getD_eq_getElem?_getD, hyE]; rfl
          generalize hy0 : (E_d (flat A.1.1) o)[k] = y at hyE hyd
          obtain ⟨C, hR, hG⟩ := name_at hok hi (by omega) hyE
          have hst := hi.2.2.2.2.2.1 o (by omega)
          obtain ⟨e1s, x, hx, hxk⟩ := C_slot hB hok hT (k := o * 4000) (by omega) ⟨_, hst, rfl⟩
          have hml := (List.getElem?_eq_some_iff.mp hx).1
          have hlf := (leaf_ok (k := o * 4000) hok).1
          obtain ⟨l2, l4, -, -, -⟩ := ok_row hok _ hlf
          have ln : (tI A.1.1 (a_leaf A.1.1 (o * 4000))).length ≤ 14 := (hT.2.2.2.1 _ l2 l4).2.2.2.2.2
          have hc := C_keyOf (B := B) (S := S) (o := o) (k := 0) (n := 0)
          have hc' : F_X5_keyOf B (nI o) 0 0 S = some (.inl (some (nI (o * 4000))), S) := by
            rw [show (o * 4 + 0) * 1000 + 0 = o * 4000 by omega] at hc
            exact hc
          have sF := C_slotFrom (S := S) (k := m_bef (tI A.1.1 (a_leaf A.1.1 (o * 4000))) (o * 4000) + (k + 1)) hB hok hT hR (by omega)
          have ed : nI (a_leaf A.1.1 (o * 4000) * 14 + m_bef (tI A.1.1 (a_leaf A.1.1 (o * 4000))) (o * 4000)) / 14 = nI (a_leaf A.1.1 (o * 4000)) := by
            rw [m_c14, pk_div (by omega) (by omega) (by omega)]
            congr 1
            omega
          have em : nI (a_leaf A.1.1 (o * 4000) * 14 + m_bef (tI A.1.1 (a_leaf A.1.1 (o * 4000))) (o * 4000)) - nI (a_leaf A.1.1 (o * 4000)) * 14 + (nI k + 1) = nI (m_bef (tI A.1.1 (a_leaf A.1.1 (o * 4000))) (o * 4000) + (k + 1)) := by
            rw [m_c14, pk_mul, pk_sub (by omega), nI_1, nI_add]
            congr 1
            omega
          cases hd : d_i A.1.1 (a_leaf A.1.1 (o * 4000) :: C) (m_bef (tI A.1.1 (a_leaf A.1.1 (o * 4000))) (o * 4000) + (k + 1)) with
          | none =>
            have := di_none hd
            have := (List.getElem?_eq_some_iff.mp hG).1
            omega
          | some q =>
            obtain ⟨b, j⟩ := q
            obtain ⟨bm, y', hy', hyf⟩ := di_some hd
            have ey : y' = y := by rw [hG] at hyf; exact (Option.some.inj hyf).symm
            subst ey
            have bm' : b ∈ tR A.1.1 0 := by rw [hR]; exact List.mem_append_right _ bm
            obtain ⟨b2, b4, -, -, -⟩ := ok_row hok b bm'
            obtain ⟨q3, q4, q9, q10, q11, qn⟩ := hT.2.2.2.1 b b2 b4
            have hjl := (List.getElem?_eq_some_iff.mp hy').1
            have hky := ok_keys hok b bm' y' (List.mem_of_getElem? hy')
            have v9 : S.1 11 (b * 14 + j) = nI y'.1 := q9 j _ (by rw [List.getElem?_map, hy']; rfl)
            rw [F_X5_name_34, if_neg (by decide), hc', m_bn, F_X4_slotBehind, e1s, m_bn, if_neg (m_ne1 (by omega)), ed, em, sF, m_bn, F_X4_slotBehind_29, m_bn, hd, show d_is (some (b, j)) = nI (b * 14 + j) from rfl, F_X5_name_62, if_neg (m_ne1 (by omega)), m_gd (m_inb (by omega) (by omega)), m_lt, m_ix (by omega), v9, C_nameOf hky, m_bn, hyd]; rfl
        · have g1 : ¬ ((0 : Int32) ≤ p2 ∧ p2 < nI (oZ A.1.2 o)) := fun w => h2 w.2
          rw [if_pos (Int32.not_lt.mp h2), bad, if_neg g1]; rfl
    · rw [if_neg e1, if_neg e1, m_bvx]; rfl
  · rw [if_neg e, if_neg e, m_bvx]; rfl
theorem K_name_in {d l i : Nat} {k53 : Int32 → Int32 → Int32 → z_S → Option (z_O × z_S)} (hB : B ≤ 96) (hT : k_T B 0 0 (S.1 61) T) (hl : l < B) (ul : tU T l = 2) (hd : d ≤ 60) (hb : ∀ z ∈ tI T l, z.1 < 244000) : ∀ (m n j k : Nat), j + m = (tI T l).length → m < n → k < 2 ^ 31 →
    (∀ y, (E_d ((tI T l).drop j) d)[k]? = some y → F_X6_name_89 B k53 n (nI d) (nI k) (nI i) (nI l) (nI j) S = some (.inl (some (nI (y.1 % 1000))), S)) ∧ ((E_d ((tI T l).drop j) d).length ≤ k → F_X6_name_89 B k53 n (nI d) (nI k) (nI i) (nI l) (nI j) S = k53 (nI d) (nI (k - (E_d ((tI T l).drop j) d).length)) (nI (i + 1)) S)
  | 0, n, j, k, hj, hn, hk => by
    obtain ⟨n, rfl⟩ : ∃ j, n = j + 1 := ⟨n - 1, by omega⟩
    have ln : (tI T l).length ≤ 16 := (hT.2.2.1 l hl ul).2.2
    have e2 : (3852 : Int32) + nI l = nI (3852 + l) := by rw [m_c3852, nI_add]
    have ed : (tI T l).drop j = [] := List.drop_eq_nil_of_le (by omega)
    rw [ed, F_X6_name_89, e2, m_gd (m_inb (by omega) (by omega)), m_lt, m_ix (by omega), K_cntL hT hl ul, if_pos (nI_le (by omega) (by omega)), nI_1]
    exact ⟨fun y hy => by simp [E_d] at hy, fun _ => by simp [E_d]⟩
  | m + 1, n, j, k, hj, hn, hk => by
    obtain ⟨n, rfl⟩ : ∃ j, n = j + 1 := ⟨n - 1, by omega⟩
    have ln : (tI T l).length ≤ 16 := (hT.2.2.1 l hl ul).2.2
    have e2 : (3852 : Int32) + nI l = nI (3852 + l) := by rw [m_c3852, nI_add]
    have hjl : j < (tI T l).length := by omega
    have ed : (tI T l).drop j = (tI T l)[j] :: (tI T l).drop (j + 1) := List.drop_eq_getElem_cons hjl
    have hy : (tI T l)[j]? = some (tI T l)[j] := List.getElem?_eq_getElem hjl
    have at' : ∀ a, a < 5 → S.1 61 (4620 + 1536 * a + (16 * l + j)) = k_c a (tI T l)[j] := fun a ha => (hT.2.2.1 l hl ul).2.1 a ha j _ (by rw [List.getElem?_map, hy]; rfl)
    have hyb := hb _ (List.getElem_mem hjl)
    generalize (tI T l)[j] = y at ed at' hyb
    have a0 : S.1 61 (4620 + 16 * l + j) = nI (y.1 / 4000) := by rw [show 4620 + 16 * l + j = 4620 + 1536 * 0 + (16 * l + j) by omega]; exact at' 0 (by omega)
    have a1 : S.1 61 (6156 + 16 * l + j) = nI (y.1 / 1000 % 4) := by rw [show 6156 + 16 * l + j = 4620 + 1536 * 1 + (16 * l + j) by omega]; exact at' 1 (by omega)
    have a2 : S.1 61 (7692 + 16 * l + j) = nI (y.1 % 1000) := by rw [show 7692 + 16 * l + j = 4620 + 1536 * 2 + (16 * l + j) by omega]; exact at' 2 (by omega)
    have x0 : (4620 : Int32) + 16 * nI l + nI j = nI (4620 + 16 * l + j) := by rw [m_c4620, m_c16, pk_mul, nI_add, nI_add]
    have x1 : (6156 : Int32) + 16 * nI l + nI j = nI (6156 + 16 * l + j) := by rw [m_c6156, m_c16, pk_mul, nI_add, nI_add]
    have x2 : (7692 : Int32) + 16 * nI l + nI j = nI (7692 + 16 * l + j) := by rw [m_c7692, m_c16, pk_mul, nI_add, nI_add]
    have ih := fun k hk => K_name_in (k53 := k53) (i := i) hB hT hl ul hd hb m n (j + 1) k (by omega) (by omega) hk
    rw [ed]
    unfold E_d at ih ⊢
    rw [F_X6_name_89, e2, m_gd (m_inb (by omega) (by omega)), m_lt, m_ix (i := 3852 + l) (by omega), K_cntL hT hl ul, if_neg (nI_ge hjl (by omega)), x0, m_gd (m_inb (by omega) (by omega)), m_lt, m_ix (i := 4620 + 16 * l + j) (by omega), a0]
    by_cases c1 : y.1 / 4000 = d
    · rw [if_pos (by rw [c1]), x1, m_gd (m_inb (by omega) (by omega)), m_lt, m_ix (i := 6156 + 16 * l + j) (by omega), a1]
      by_cases c2 : y.1 / 1000 % 4 = 1
      · have hp : y.1 / 1000 = d * 4 + 1 := by omega
        rw [if_pos (by rw [c2]; rfl), List.filter_cons, if_pos (decide_eq_true hp)]
        cases k with
        | zero =>
          rw [if_pos (show nI 0 = 0 from rfl), x2, m_gd (m_inb (by omega) (by omega)), m_lt, m_ix (i := 7692 + 16 * l + j) (by omega), a2]
          refine ⟨fun z hz => ?_, fun hz => by simp at hz⟩
          rw [List.getElem?_cons_zero] at hz
          rw [Option.some.inj hz]
        | succ k =>
          have hk0 : ¬ nI (k + 1) = 0 := fun z => by have := (nI_eq hk (by omega)).mp (z.trans m_c0); omega
          rw [if_neg hk0, F_X6_name_172, nI_1, show nI (k + 1) + -1 = nI k from pk_m1 k]
          obtain ⟨i1, i2⟩ := ih k (by omega)
          refine ⟨fun z hz => ?_, fun hz => ?_⟩
          · rw [List.getElem?_cons_succ] at hz
            exact i1 z hz
          · rw [List.length_cons] at hz ⊢
            rw [i2 (by omega), show k + 1 - (List.length _ + 1) = k - List.length _ from Nat.add_sub_add_right k 1 _]
      · have hp : ¬ y.1 / 1000 = d * 4 + 1 := by omega
        have c2' : ¬ nI (y.1 / 1000 % 4) = 1 := fun z => c2 ((nI_eq (by omega) (by omega)).mp (z.trans m_c1))
        rw [if_neg c2', F_X6_name_172, nI_1, List.filter_cons, decide_eq_false hp]
        exact ih k hk
    · have hp : ¬ y.1 / 1000 = d * 4 + 1 := by omega
      rw [if_neg (fun z => c1 ((nI_eq (by omega) (by omega)).mp z)), F_X6_name_172, nI_1, List.filter_cons, decide_eq_false hp]
      exact ih k hk
theorem K_name_loop {d : Nat} {y : m_It} (hB : B ≤ 96) (h : m_ok B T) (hT : k_T B 0 0 (S.1 61) T) (hd : d ≤ 60) (h0 : S.2.1 60 0 = 0) : ∀ (L pre : List Nat) (n k : Nat), tR T 0 = pre ++ L → L.length < n → k < 2 ^ 31 → (E_d (L.flatMap (tI T)) d)[k]? = some y → F_X6_name_53 B n (nI d) (nI k) (nI pre.length) S = some (.inl (some (nI (y.1 % 1000))), S)
  | [], pre, n, k, hR, hn, hk, hy => by simp [E_d] at hy
  | l :: L, pre, n, k, hR, hn, hk, hy => by
    obtain ⟨n, rfl⟩ : ∃ j, n = j + 1 := ⟨n - 1, by omega⟩
    rw [List.length_cons] at hn
    have hbm : l ∈ tR T 0 := by rw [hR]; simp
    obtain ⟨b1, b2, b3, b4, b5⟩ := ok_row h l hbm
    obtain ⟨r1, r2, r3⟩ := hT.2.2.2.2.2.1 0 (by omega)
    have hbi : (tR T 0)[pre.length]? = some l := by rw [hR]; simp
    have hil : pre.length < (tR T 0).length := (List.getElem?_eq_some_iff.mp hbi).1
    have eb : S.1 61 (12300 + pre.length) = nI l := by
      have := r2 pre.length (nI l) (by rw [List.getElem?_map, hbi]; rfl)
      simpa using this
    have r1' : S.1 61 13068 = nI (tR T 0).length := r1
    have e1 : (12300 : Int32) + nI pre.length = nI (12300 + pre.length) := by rw [m_c12300, nI_add]
    have ln : (tI T l).length ≤ 16 := (hT.2.2.1 l b1 b2).2.2
    obtain ⟨i1, i2⟩ := K_name_in (S := S) (d := d) (l := l) (i := pre.length) (k53 := F_X6_name_53 B n) hB hT b1 b2 hd (fun z hz => (fl_ig h.2.2.1 hbm z hz).2.2.1) (tI T l).length z_n 0 k (by omega) (by unfold z_n; omega) hk
    rw [List.drop_zero] at i1 i2
    rw [F_X6_name_53, if_pos h0, m_gd (by decide), m_lt, show z_ix (13068 : Int32) = 13068 from m_ix (i := 13068) (by omega), r1', if_neg (nI_ge hil (by omega)), e1, m_gd (m_inb (by omega) (by omega)), m_lt, m_ix (i := 12300 + pre.length) (by omega), eb]
    unfold E_d at hy i1 i2
    rw [List.flatMap_cons, List.filter_append] at hy
    by_cases hc : k < ((tI T l).filter (fun y => decide (y.1 / 1000 = d * 4 + 1))).length
    · rw [List.getElem?_append_left hc] at hy
      exact i1 y hy
    · rw [List.getElem?_append_right (by omega)] at hy
      have := i2 (by omega)
      have this' : F_X6_name_89 B (F_X6_name_53 B n) z_n (nI d) (nI k) (nI pre.length) (nI l) 0 S = _ := this
      rw [this']
      have ih := K_name_loop hB h hT hd h0 L (pre ++ [l]) n (k - ((tI T l).filter (fun y => decide (y.1 / 1000 = d * 4 + 1))).length) (by rw [hR]; simp) (by omega) (by omega) hy
      rw [List.length_append, List.length_singleton] at ih
      exact ih
theorem G_name_k {p1 p2 : Int32} (h : KI B J S A) (hA : AI B J A) : ∃ v S2, F_X6_name B p1 p2 S = some (.inl (some v), S2) ∧ KI B J S2 A ∧ z_kf S S2 ∧ S2.2.1 60 0 = nI (A_name A p1 p2).1 ∧ ((A_name A p1 p2).1 = 0 → v = (A_name A p1 p2).2) := by
  have hok := hA.2.1.1
  have hi := hA.2.1.2
  have hB := hA.1.2.1
  have bad : ∀ (v1 v2 c : Int32) (n : Nat) (w : Int32), c = nI n → n ≠ 0 → n < 5 → ∃ v S2, F_X6_name_45 B v1 v2 c S = some (.inl (some v), S2) ∧ KI B J S2 A ∧ z_kf S S2 ∧ S2.2.1 60 0 = nI n ∧ (n = 0 → v = w) := fun v1 v2 c n w hc hn hn5 => by
    have hc0 : ¬ c = 0 := fun z => by
      rw [hc] at z
      have := (nI_eq (by omega) (by omega)).mp (z.trans m_c0)
      omega
    have hz : z_n = 99999 + 1 := rfl
    rw [F_X6_name_45, m_lt, hz, F_X6_name_53, z_thr, if_neg hc0, F_X6_name_184]
    exact ⟨_, _, rfl, KI_thr h, z_kf_ui (by decide), by rw [z_thr, hc], fun z => absurd z hn⟩
  unfold F_X6_name A_name
  rw [h.2.2.2.1]
  by_cases e : A.2.2.1 = 0
  · rw [if_pos e, if_pos e, K_isDirectory hi h.2.1.2, m_bn]
    by_cases e1 : d_k A.1.2 p1 = 1
    · obtain ⟨o, ho, o1, o2, o3⟩ := dk_some (O := A.1.2) (p := p1) (by omega)
      subst ho
      have hk : oK A.1.2 o = 1 := o3.trans e1
      have hz := (hi.2.2.2.2.2.2.2.2.2.1 o hk).2
      have hfew := flat_few hok hB
      have hEl : m_nE (flat A.1.1) o ≤ (flat A.1.1).length := List.countP_le_length
      have e2 : (218 : Int32) + nI o = nI (218 + o) := by rw [m_c218, nI_add]
      rw [if_pos e1, if_pos e1, if_neg (by decide), nI_clamp (by omega), e2, m_gd (m_inb (by omega) (by omega)), m_lt, m_ix (by omega), (h.2.1.2.2.1 o o1 o2 (by omega)).2.1, K_isIn, m_bn]
      by_cases h1 : 0 ≤ p2
      · by_cases h2 : p2 < nI (oZ A.1.2 o)
        · obtain ⟨k, hk2, hkz⟩ := m_below h1 h2 (by omega)
          subst hk2
          have g1 : (0 : Int32) ≤ nI k ∧ nI k ≤ nI (oZ A.1.2 o) - 1 := ⟨h1, (m_le1 (by omega) h1).mpr h2⟩
          have g2 : (0 : Int32) ≤ nI k ∧ nI k < nI (oZ A.1.2 o) := ⟨h1, h2⟩
          have hkE : k < (E_d (flat A.1.1) o).length := by rw [← nE_len]; omega
          have hyE : (E_d (flat A.1.1) o)[k]? = some (E_d (flat A.1.1) o)[k] := List.getElem?_eq_getElem hkE
          have hyd : (E_d (flat A.1.1) o).getD k (0, 0, none) = (E_d (flat A.1.1) o)[k] := by rw [List.getD_eq_getElem?_getD, hyE]; rfl
          have hlen := sk_len hok.1 (h := 0)
          have a1 := K_name_loop (S := z_ui S 60 0 0) hB hok h.2.1.1 o2 z_thr (tR A.1.1 0) [] z_n k rfl (by unfold z_n; omega) (by omega) hyE
          have a1' : F_X6_name_53 B z_n (nI o) (nI k) 0 (z_ui S 60 0 0) = _ := a1
          rw [if_pos g1, if_neg (show ¬ (1 : Int32) = 0 by decide), if_pos g2, nI_clamp (by omega), F_X6_name_45, m_lt, a1', hyd]
          exact ⟨_, _, rfl, KI_thr h, z_kf_ui (by decide), z_thr, fun _ => rfl⟩
        · have g1 : ¬ ((0 : Int32) ≤ p2 ∧ p2 ≤ nI (oZ A.1.2 o) - 1) := fun w => h2 ((m_le1 (by omega) h1).mp w.2)
          have g2 : ¬ ((0 : Int32) ≤ p2 ∧ p2 < nI (oZ A.1.2 o)) := fun w => h2 w.2
          rw [if_neg g1, if_pos rfl, if_neg g2, F_X6_name_40]
          exact bad _ _ 2 2 _ rfl (by omega) (by omega)
      · have g1 : ¬ ((0 : Int32) ≤ p2 ∧ p2 ≤ nI (oZ A.1.2 o) - 1) := fun w => h1 w.1
        have g2 : ¬ ((0 : Int32) ≤ p2 ∧ p2 < nI (oZ A.1.2 o)) := fun w => h1 w.1
        rw [if_neg g1, if_pos rfl, if_neg g2, F_X6_name_40]
        exact bad _ _ 2 2 _ rfl (by omega) (by omega)
    · rw [if_neg e1, if_neg e1, if_pos rfl, F_X6_name_40]
      exact bad _ _ 2 2 _ rfl (by omega) (by omega)
  · rw [if_neg e, if_neg e]
    exact bad _ _ 1 1 _ rfl (by omega) (by omega)
end CL6
