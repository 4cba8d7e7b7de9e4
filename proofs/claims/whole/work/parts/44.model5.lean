/-! The reference's leaves over lists: an item dropped, an item carried. -/
/-- the five numbers of an item: object, kind, name, bytes, told -/
def k_c (a : Nat) (x : m_It) : Int32 := match a with
  | 0 => nI (x.1 / 4000)
  | 1 => nI (x.1 / 1000 % 4)
  | 2 => nI (x.1 % 1000)
  | 3 => nI x.2.1
  | _ => nI (x.2.2.getD 0)
def k_v (f : Nat → Int32) (a : Nat) : Nat → Int32 := fun r => f (4620 + 1536 * a + r)
def k_lf (f : Nat → Int32) (b : Nat) (L : List m_It) : Prop := f (3852 + b) = nI L.length ∧ (∀ a, a < 5 → m_l (k_v f a) (16 * b) (L.map (k_c a))) ∧ L.length ≤ 16
theorem k_l_op {f f' f'' : Nat → Int32} {G : (Nat → Int32) → Nat → Int32} {a o : Nat} {L : List Int32} (h : k_op f f' G) (h2 : ∀ j, 4620 ≤ j → f'' j = f' j) (ha : a < 5) (ho : o + L.length ≤ 1536) (hl : m_l (G (k_v f a)) o L) : m_l (k_v f'' a) o L := by
  intro i x hx
  have hi := (List.getElem?_eq_some_iff.mp hx).1
  show f'' (4620 + 1536 * a + (o + i)) = x
  rw [h2 _ (by omega), h.1 a (o + i) ha (by omega)]
  exact hl i x hx
section KM5
variable {B : Nat} {S : z_S}
theorem K_dropL {b i : Nat} {L : List m_It} (hb : b < 96) (hL : k_lf (S.1 61) b L) (hi : i < L.length) : ∃ f', F_X6_drop B (nI b) (nI i) S = some (.inl none, z_ua S 61 f') ∧ k_lf f' b (L.eraseIdx i) ∧ (∀ c M, c ≠ b → c < 96 → k_lf (S.1 61) c M → k_lf f' c M) ∧ ∀ j, (j < 4620 ∨ 12300 ≤ j) → j ≠ 3852 + b → f' j = S.1 61 j := by
  obtain ⟨l3, lv, ln⟩ := hL
  obtain ⟨f1, hF, hop⟩ := K_drop (B := B) hb ln hi l3
  have hlen : (L.eraseIdx i).length = L.length - 1 := List.length_eraseIdx_of_lt hi
  refine ⟨_, hF, ⟨?_, fun a ha => ?_, by omega⟩, fun c M hc hc9 hM => ⟨?_, fun a ha => ?_, hM.2.2⟩, fun j hj hjb => ?_⟩
  · rw [pk_us, hlen]
  · refine k_l_op hop (fun j hj => pk_un (by omega)) ha (by rw [List.length_map, hlen]; omega) ?_
    rw [m_map_del]
    have := m_l_del (i := i) (lv a ha) (by simpa using hi)
    have e : L.length - i - 1 = L.length - 1 - i := by omega
    rw [List.length_map, e] at this
    exact this
  · rw [pk_un (by omega), hop.2 _ (by omega)]; exact hM.1
  · refine k_l_op hop (fun j hj => pk_un (by omega)) ha (by rw [List.length_map]; have := hM.2.2; omega) (m_l_kept (hM.2.1 a ha) (fun j hj => ?_))
    rw [List.length_map] at hj
    have := hM.2.2
    exact pk_cpy_out (by omega)
  · rw [pk_un hjb]; exact hop.2 j hj
theorem K_carry_loop {g i b pl n : Nat} (hg : g < 96) (hb : b < 96) (hn : n ≤ 15) (hp : pl ≤ n) (f : Nat → Int32) : ∀ (m k : Nat) (S : z_S) (h : Nat → Int32), m < k → pl + m ≤ n → k_op f h (fun v => va_cpy v v (16 * b + (pl + m)) (16 * b + (pl + m) + 1) (n - (pl + m))) →
    ∃ (h' : Nat → Int32) (k' : Nat), F_X6_carry_12 B k (nI g) (nI i) (nI b) (nI pl) (nI (pl + m)) (z_ua S 61 h) = F_X6_carry_12 B (k' + 1) (nI g) (nI i) (nI b) (nI pl) (nI pl) (z_ua S 61 h') ∧ k_op f h' (fun v => va_cpy v v (16 * b + pl) (16 * b + pl + 1) (n - pl))
  | 0, k, S, h, hk, hm, hop => by
    obtain ⟨k, rfl⟩ : ∃ j, k = j + 1 := ⟨k - 1, by omega⟩
    exact ⟨h, k, rfl, hop⟩
  | m + 1, k, S, h, hk, hm, hop => by
    obtain ⟨k, rfl⟩ : ∃ j, k = j + 1 := ⟨k - 1, by omega⟩
    have g1 : ¬ nI (pl + (m + 1)) ≤ nI pl := nI_ge (by omega) (by omega)
    have e : (16 : Int32) * nI b + nI (pl + (m + 1)) = nI (16 * b + (pl + (m + 1))) := by rw [m_c16, pk_mul, nI_add]
    have e1 : nI (16 * b + (pl + (m + 1))) - 1 = nI (16 * b + (pl + (m + 1)) - 1) := by rw [m_c1]; exact pk_sub (by omega)
    have y : nI (pl + (m + 1)) + -1 = nI (pl + m) := pk_m1 (pl + m)
    obtain ⟨h2, hF2, hop2⟩ := K_copy (B := B) (S := z_ua S 61 h) (p := 16 * b + (pl + (m + 1)) - 1) (q := 16 * b + (pl + (m + 1))) (by omega) (by omega)
    rw [z_ua_at] at hop2
    rw [z_ua_ua] at hF2
    have hop3 := k_op_eq (k_op_cp (by omega) hop hop2) (H := fun v => va_cpy v v (16 * b + (pl + m)) (16 * b + (pl + m) + 1) (n - (pl + m))) (fun v r hr => by
      have := m_shup (f := v) (o := 16 * b) (j := pl + (m + 1)) (n := n) (by omega) hm
      have e9 : pl + (m + 1) - 1 = pl + m := by omega
      rw [e9] at this
      rw [← this, pk_cpy_out (by omega)])
    obtain ⟨h', k', hF', hop'⟩ := K_carry_loop hg hb hn hp f m k S h2 (by omega) (by omega) hop3
    refine ⟨h', k', ?_, hop'⟩
    rw [F_X6_carry_12]
    simp only [g1, if_false, e, e1, hF2, z_bo, y]
    exact hF'
/-- an item from one leaf to another -/
theorem K_carry {g i b pl : Nat} {L M : List m_It} {x : m_It} (hg : g < 96) (hb : b < 96) (hgb : g ≠ b) (hL : k_lf (S.1 61) g L) (hM : k_lf (S.1 61) b M) (hx : L[i]? = some x) (hp : pl ≤ M.length) (hn : M.length ≤ 15) :
    ∃ f', F_X6_carry B (nI g) (nI i) (nI b) (nI pl) S = some (.inl none, z_ua S 61 f') ∧ k_lf f' g (L.eraseIdx i) ∧ k_lf f' b (M.insertIdx pl x) ∧ (∀ c N, c ≠ g → c ≠ b → c < 96 → k_lf (S.1 61) c N → k_lf f' c N) ∧ ∀ j, (j < 4620 ∨ 12300 ≤ j) → j ≠ 3852 + g → j ≠ 3852 + b → f' j = S.1 61 j := by
  have hil : i < L.length := (List.getElem?_eq_some_iff.mp hx).1
  obtain ⟨l3, lv, ln⟩ := id hL
  obtain ⟨m3, mv, mn⟩ := id hM
  have e2 : (3852 : Int32) + nI b = nI (3852 + b) := by rw [m_c3852, nI_add]
  have i2 : z_inb (nI (3852 + b)) 25366 = true := m_inb (by omega) (by omega)
  have x2 : (nI (3852 + b)).toNatClampNeg = 3852 + b := nI_clamp (by omega)
  obtain ⟨h1, k1, hF1, hop1⟩ := K_carry_loop (B := B) (g := g) (i := i) hg hb hn hp (S.1 61) (M.length - pl) z_n S (S.1 61) (by unfold z_n; omega) (by omega) (k_op_eq k_op_rf (fun v r hr => by rw [show M.length - (pl + (M.length - pl)) = 0 by omega, m_cpy0]))
  rw [show pl + (M.length - pl) = M.length by omega, z_ua_same] at hF1
  obtain ⟨h2, hF2, hop2⟩ := K_copy (B := B) (S := z_ua S 61 h1) (p := 16 * g + i) (q := 16 * b + pl) (by omega) (by omega)
  rw [z_ua_at] at hop2
  rw [z_ua_ua] at hF2
  have hop3 := k_op_cp (by omega) hop1 hop2
  have r2 : h2 (3852 + b) = nI M.length := by rw [hop2.2 _ (by omega), hop1.2 _ (by omega)]; exact m3
  have hlen : (M.insertIdx pl x).length = M.length + 1 := List.length_insertIdx_of_le_length hp x
  -- the state ahead of the drop
  obtain ⟨h3, e3⟩ : ∃ h3, h3 = upd h2 (3852 + b) (nI (M.length + 1)) := ⟨_, rfl⟩
  have h3g : ∀ j, 4620 ≤ j → h3 j = h2 j := fun j hj => by rw [e3]; exact pk_un (by omega)
  have kL : k_lf h3 g L := by
    refine ⟨by rw [e3, pk_un (by omega), hop2.2 _ (by omega), hop1.2 _ (by omega)]; exact l3, fun a ha => k_l_op hop3 h3g ha (by rw [List.length_map]; omega) (m_l_kept (lv a ha) (fun j hj => ?_)), ln⟩
    rw [List.length_map] at hj
    show upd (va_cpy (k_v (S.1 61) a) (k_v (S.1 61) a) _ _ _) _ _ _ = _
    rw [pk_un (by omega), pk_cpy_out (by omega)]
  have kM : k_lf h3 b (M.insertIdx pl x) := by
    refine ⟨by rw [e3, pk_us, hlen], fun a ha => k_l_op hop3 h3g ha (by rw [List.length_map, hlen]; omega) ?_, by omega⟩
    have hxv : va_cpy (k_v (S.1 61) a) (k_v (S.1 61) a) (16 * b + pl) (16 * b + pl + 1) (M.length - pl) (16 * g + i) = k_c a x := by
      rw [pk_cpy_out (by omega)]
      exact lv a ha i _ (by rw [List.getElem?_map, hx]; rfl)
    show m_l (upd (va_cpy (k_v (S.1 61) a) (k_v (S.1 61) a) (16 * b + pl) (16 * b + pl + 1) (M.length - pl)) (16 * b + pl) (va_cpy (k_v (S.1 61) a) (k_v (S.1 61) a) (16 * b + pl) (16 * b + pl + 1) (M.length - pl) (16 * g + i))) (16 * b) _
    rw [hxv, m_map_ins]
    have := m_l_ins (x := k_c a x) (i := pl) (mv a ha) (by simpa using hp)
    rw [List.length_map] at this
    exact this
  have kN : ∀ c N, c ≠ g → c ≠ b → c < 96 → k_lf (S.1 61) c N → k_lf h3 c N := by
    intro c N c1 c2 c3 hN
    refine ⟨by rw [e3, pk_un (by omega), hop2.2 _ (by omega), hop1.2 _ (by omega)]; exact hN.1, fun a ha => k_l_op hop3 h3g ha (by rw [List.length_map]; have := hN.2.2; omega) (m_l_kept (hN.2.1 a ha) (fun j hj => ?_)), hN.2.2⟩
    rw [List.length_map] at hj
    have := hN.2.2
    show upd (va_cpy (k_v (S.1 61) a) (k_v (S.1 61) a) _ _ _) _ _ _ = _
    rw [pk_un (by omega), pk_cpy_out (by omega)]
  obtain ⟨f', hF4, d1, d2, d3⟩ := K_dropL (B := B) (S := z_ua S 61 h3) (L := L) hg (by rw [z_ua_at]; exact kL) hil
  rw [z_ua_ua] at hF4
  rw [z_ua_at] at d2 d3
  have g9 : nI pl ≤ nI pl := nI_le (Nat.le_refl _) (by omega)
  have e16 : (16 : Int32) * nI g + nI i = nI (16 * g + i) := by rw [m_c16, pk_mul, nI_add]
  have e17 : (16 : Int32) * nI b + nI pl = nI (16 * b + pl) := by rw [m_c16, pk_mul, nI_add]
  have y1 : nI M.length + 1 = nI (M.length + 1) := nI_1 _
  refine ⟨f', ?_, d1, d2 b _ (Ne.symm hgb) hb kM, fun c N c1 c2 c3 hN => d2 c N c1 c3 (kN c N c1 c2 c3 hN), fun j hj j1 j2 => ?_⟩
  · simp only [F_X6_carry, z_lt, z_gd, e2, i2, x2, m3, if_true]
    rw [hF1, F_X6_carry_12]
    simp only [g9, if_true, e16, e17, hF2, z_bo, z_lt, z_gd, e2, i2, x2, z_ua_at, z_ua_ua, r2, y1]
    rw [← e3, hF4]
  · rw [d3 j hj j1, e3, pk_un j2, hop2.2 j hj, hop1.2 j hj]
end KM5
