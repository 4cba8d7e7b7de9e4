/-! The class's tree over lists: items and children taken out, shifted; rows. -/
section CT2
variable {B t : Nat} {S S' : z_S} {T : m_T}
theorem c_T_its {l : Nat} {L' : List m_It} (h : c_T B t S T) (hu : tU T l = 2) (hlf : c_lf t S' l L') (ho : ∀ b, b < B → b ≠ l → c_lf t S b (tI T b) → c_lf t S' b (tI T b)) (h3 : ∀ b, b ≠ l → S'.1 (t + 3) b = S.1 (t + 3) b) (h4 : ∀ b, b ≠ l → S'.1 (t + 4) b = S.1 (t + 4) b)
    (h1 : S'.1 (t + 1) = S.1 (t + 1)) (h2 : S'.1 (t + 2) = S.1 (t + 2)) (h5 : S'.1 (t + 5) = S.1 (t + 5)) (h6 : S'.1 (t + 6) = S.1 (t + 6)) (h7 : S'.1 (t + 7) = S.1 (t + 7)) (h8 : S'.1 (t + 8) = S.1 (t + 8)) (f2 : S'.2 = S.2) : c_T B t S' (tsI T l L') := by
  obtain ⟨g0, g12, hU, hL, hN, hD⟩ := h
  refine ⟨by rw [f2]; exact g0, by rw [f2]; exact g12, fun b hb => by rw [h1]; exact hU b hb, fun b hb hub => ?_, fun b hb hub => ?_, fun b hb hub => ?_⟩
  · have hub2 : tU T b = 2 := hub
    by_cases hbl : b = l
    · subst hbl
      have e : tI (tsI T b L') b = L' := by simp [tI, tsI, va_up]
      rw [e]; exact hlf
    · have e : tI (tsI T l L') b = tI T b := by simp [tI, tsI, va_up, hbl]
      rw [e]; exact ho b hb hbl (hL b hb hub2)
  · have hub2 : tU T b = 3 := hub
    have hbl : b ≠ l := fun e => by rw [e, hu] at hub2; cases hub2
    obtain ⟨q3, q4, q8, qn⟩ := hN b hb hub2
    exact ⟨by rw [h3 b hbl]; exact q3, by rw [h4 b hbl]; exact q4, by rw [h8]; exact q8, qn⟩
  · obtain ⟨q2, q5, q6, q7⟩ := hD b hb hub
    exact ⟨by rw [h2]; exact q2, by rw [h5]; exact q5, by rw [h6]; exact q6, by rw [h7]; exact q7⟩
theorem C_closeSlot0 {l i n bd u : Nat} (hB : B ≤ 96) (hl : l < B) (h3 : S.1 (t + 3) l = nI n) (hi : i < n) (hn : n ≤ 14) (h4 : S.1 (t + 4) l = nI u) (hb : S.1 (t + 10) (l * 14 + i) = nI bd) (hu : 8 + bd ≤ u) :
    ∃ S', F_X4_closeSlot B t (nI l) (nI i) S = some (.inl none, S') ∧ S'.1 (t + 9) = va_cpy (S.1 (t + 9)) (S.1 (t + 9)) (l * 14 + i + 1) (l * 14 + i) (n - i - 1) ∧ S'.1 (t + 10) = va_cpy (S.1 (t + 10)) (S.1 (t + 10)) (l * 14 + i + 1) (l * 14 + i) (n - i - 1) ∧ S'.1 (t + 11) = va_cpy (S.1 (t + 11)) (S.1 (t + 11)) (l * 14 + i + 1) (l * 14 + i) (n - i - 1) ∧
      S'.1 (t + 3) = upd (S.1 (t + 3)) l (nI (n - 1)) ∧ S'.1 (t + 4) = upd (S.1 (t + 4)) l (nI (u - (8 + bd))) ∧ (∀ a, a ≠ t + 3 → a ≠ t + 4 → a ≠ t + 9 → a ≠ t + 10 → a ≠ t + 11 → S'.1 a = S.1 a) ∧ S'.2 = S.2 := by
  have hA : z_inb (nI l) B = true := m_inb hl (by omega)
  have hx : nI l * 14 + nI i = nI (l * 14 + i) := by rw [m_c14, pk_mul, nI_add]
  have hx1 : nI (l * 14 + i) + 1 = nI (l * 14 + i + 1) := nI_1 _
  have hs : nI n - nI i = nI (n - i) := pk_sub (by omega)
  have hs1 : nI (n - i) - 1 = nI (n - i - 1) := by rw [m_c1]; exact pk_sub (by omega)
  have g1 : ¬ nI i < 0 := m_lt0 (by omega)
  have g2 : (0 : Int32) ≤ nI (n - i - 1) := m_ge0 (by omega)
  have hc : z_cok (nI (l * 14 + i + 1)) (nI (l * 14 + i)) (nI (n - i - 1)) (14 * B) (14 * B) = true := m_cok (by omega) (by omega) (by omega) (by omega)
  have hj : z_inb (nI (l * 14 + i)) (14 * B) = true := m_inb (by omega) (by omega)
  have x1 : (nI l).toNatClampNeg = l := nI_clamp (by omega)
  have x2 : (nI (l * 14 + i)).toNatClampNeg = l * 14 + i := nI_clamp (by omega)
  have x3 : (nI (l * 14 + i + 1)).toNatClampNeg = l * 14 + i + 1 := nI_clamp (by omega)
  have x4 : (nI (n - i - 1)).toNatClampNeg = n - i - 1 := nI_clamp (by omega)
  have y1 : nI n - 1 = nI (n - 1) := by rw [m_c1]; exact pk_sub (by omega)
  have y2 : nI u - (8 + nI bd) = nI (u - (8 + bd)) := by rw [m_c8, nI_add, pk_sub hu]
  refine ⟨_, by simp only [F_X4_closeSlot, z_lt, z_gd, hA, h3, h4, hb, hx, hx1, hs, hs1, g1, g2, hc, hj, x1, x2, x3, x4, m_ua1, if_true, if_false, Nat.reduceEqDiff, y1, y2]; rfl, ?_⟩
  refine ⟨?_, ?_, ?_, ?_, ?_, fun a a1 a2 a3 a4 a5 => ?_, rfl⟩
  · simp [m_ua1, h3, x1, y1]
  · simp [m_ua1, h3, x1, y1]
  · simp [m_ua1, h3, x1, y1]
  · simp [m_ua1, h3, x1, y1]
  · simp [m_ua1, h3, x1, y1]
  · simp [m_ua1, a1, a2, a3, a4, a5]
theorem m_cost_ge {L : List m_It} {i : Nat} {x : m_It} (h : L[i]? = some x) : 8 + x.2.1 ≤ m_cost L := by
  have := m_cost_del h
  omega
theorem C_closeSlot {l i : Nat} {x : m_It} (hB : B ≤ 96) (h : c_T B t S T) (hl : l < B) (hu : tU T l = 2) (hi : (tI T l)[i]? = some x) :
    ∃ S', F_X4_closeSlot B t (nI l) (nI i) S = some (.inl none, S') ∧ c_T B t S' (tsI T l ((tI T l).eraseIdx i)) ∧ m_fr t S S' := by
  obtain ⟨l3, l4, l9, l10, l11, ln⟩ := h.2.2.2.1 l hl hu
  have hil : i < (tI T l).length := (List.getElem?_eq_some_iff.mp hi).1
  have hb : S.1 (t + 10) (l * 14 + i) = nI x.2.1 := l10 i _ (by rw [List.getElem?_map, hi]; rfl)
  obtain ⟨S', hF, f9, f10, f11, f3, f4, fo, f2⟩ := C_closeSlot0 hB hl l3 hil ln l4 hb (m_cost_ge hi)
  refine ⟨S', hF, c_T_its h hu ⟨?_, ?_, ?_, ?_, ?_, ?_⟩ (fun b hb hbl hq => ?_) (fun b hbl => by rw [f3, pk_un hbl]) (fun b hbl => by rw [f4, pk_un hbl]) (fo _ (by omega) (by omega) (by omega) (by omega) (by omega)) (fo _ (by omega) (by omega) (by omega) (by omega) (by omega)) (fo _ (by omega) (by omega) (by omega) (by omega) (by omega)) (fo _ (by omega) (by omega) (by omega) (by omega) (by omega)) (fo _ (by omega) (by omega) (by omega) (by omega) (by omega)) (fo _ (by omega) (by omega) (by omega) (by omega) (by omega)) f2, fun a ha => fo a (by omega) (by omega) (by omega) (by omega) (by omega), fun a k _ => by rw [f2], by rw [f2]⟩
  · rw [f3, pk_us, List.length_eraseIdx_of_lt hil]
  · rw [f4, pk_us]
    have := m_cost_del hi
    congr 1
    omega
  · rw [f9, m_map_del]
    have := m_l_del (i := i) l9 (by simpa using hil)
    simpa using this
  · rw [f10, m_map_del]
    have := m_l_del (i := i) l10 (by simpa using hil)
    simpa using this
  · rw [f11, m_map_del]
    have := m_l_del (i := i) l11 (by simpa using hil)
    simpa using this
  · rw [List.length_eraseIdx_of_lt hil]; omega
  · obtain ⟨q3, q4, q9, q10, q11, qn⟩ := hq
    refine ⟨by rw [f3, pk_un hbl]; exact q3, by rw [f4, pk_un hbl]; exact q4, m_l_kept q9 (fun j hj => ?_), m_l_kept q10 (fun j hj => ?_), m_l_kept q11 (fun j hj => ?_), qn⟩
    · rw [f9]; rw [List.length_map] at hj; exact m_del_far (by omega) hil
    · rw [f10]; rw [List.length_map] at hj; exact m_del_far (by omega) hil
    · rw [f11]; rw [List.length_map] at hj; exact m_del_far (by omega) hil
theorem tI_ne {l b : Nat} {L : List m_It} (h : b ≠ l) : tI (tsI T l L) b = tI T b := by simp [tI, tsI, va_up, h]
theorem tI_eq {l : Nat} {L : List m_It} : tI (tsI T l L) l = L := by simp [tI, tsI, va_up]
theorem tU_tsI {l b : Nat} {L : List m_It} : tU (tsI T l L) b = tU T b := rfl
/-- an item from one leaf to another -/
theorem C_shiftItem {f i g j : Nat} {x : m_It} (hB : B ≤ 96) (h : c_T B t S T) (hf : f < B) (hg : g < B) (hfg : f ≠ g) (uf : tU T f = 2) (ug : tU T g = 2) (hi : (tI T f)[i]? = some x) (hj : j ≤ (tI T g).length) (hn : (tI T g).length < 14) :
    ∃ S', F_X4_shiftItem B t (nI f) (nI i) (nI g) (nI j) S = some (.inl none, S') ∧ c_T B t S' (tsI (tsI T g ((tI T g).insertIdx j x)) f ((tI T f).eraseIdx i)) ∧ m_fr t S S' := by
  obtain ⟨l3, l4, l9, l10, l11, ln⟩ := h.2.2.2.1 f hf uf
  have hil : i < (tI T f).length := (List.getElem?_eq_some_iff.mp hi).1
  have e9 : S.1 (t + 9) (f * 14 + i) = nI x.1 := l9 i _ (by rw [List.getElem?_map, hi]; rfl)
  have e10 : S.1 (t + 10) (f * 14 + i) = nI x.2.1 := l10 i _ (by rw [List.getElem?_map, hi]; rfl)
  have e11 : S.1 (t + 11) (f * 14 + i) = oI x.2.2 := l11 i _ (by rw [List.getElem?_map, hi]; rfl)
  obtain ⟨S1, hF1, hT1, fr1⟩ := C_openSlot (x := x) hB h hg ug hj hn
  obtain ⟨S2, hF2, hT2, fr2⟩ := C_closeSlot (i := i) (x := x) hB hT1 hf uf (by rw [tI_ne hfg]; exact hi)
  rw [tI_ne hfg] at hT2
  have hx : nI f * 14 + nI i = nI (f * 14 + i) := by rw [m_c14, pk_mul, nI_add]
  have hjn : z_inb (nI (f * 14 + i)) (14 * B) = true := m_inb (by omega) (by omega)
  have x2 : (nI (f * 14 + i)).toNatClampNeg = f * 14 + i := nI_clamp (by omega)
  exact ⟨S2, by simp only [F_X4_shiftItem, z_lt, z_gd, hx, hjn, x2, e9, e10, e11, if_true, hF1, hF2, z_bo], hT2, m_fr_tr fr1 fr2⟩
/-- an inner node's children change, and a node's parent -/
theorem c_T_kids {p : Nat} {L' : List Nat} (h : c_T B t S T) (hu : tU T p = 3) (hin : c_in t S' p L') (ho : ∀ b, b < B → b ≠ p → c_in t S b (tK T b) → c_in t S' b (tK T b)) (h3 : ∀ b, b ≠ p → S'.1 (t + 3) b = S.1 (t + 3) b)
    (h1 : S'.1 (t + 1) = S.1 (t + 1)) (h2 : S'.1 (t + 2) = S.1 (t + 2)) (h4 : S'.1 (t + 4) = S.1 (t + 4)) (h5 : S'.1 (t + 5) = S.1 (t + 5)) (h6 : S'.1 (t + 6) = S.1 (t + 6)) (h7 : S'.1 (t + 7) = S.1 (t + 7)) (h9 : S'.1 (t + 9) = S.1 (t + 9)) (h10 : S'.1 (t + 10) = S.1 (t + 10)) (h11 : S'.1 (t + 11) = S.1 (t + 11)) (f2 : S'.2 = S.2) : c_T B t S' (tsK T p L') := by
  obtain ⟨g0, g12, hU, hL, hN, hD⟩ := h
  refine ⟨by rw [f2]; exact g0, by rw [f2]; exact g12, fun b hb => by rw [h1]; exact hU b hb, fun b hb hub => ?_, fun b hb hub => ?_, fun b hb hub => ?_⟩
  · have hub2 : tU T b = 2 := hub
    have hbl : b ≠ p := fun e => by rw [e, hu] at hub2; cases hub2
    obtain ⟨q3, q4, q9, q10, q11, qn⟩ := hL b hb hub2
    exact ⟨by rw [h3 b hbl]; exact q3, by rw [h4]; exact q4, by rw [h9]; exact q9, by rw [h10]; exact q10, by rw [h11]; exact q11, qn⟩
  · have hub2 : tU T b = 3 := hub
    by_cases hbl : b = p
    · subst hbl
      have e : tK (tsK T b L') b = L' := by simp [tK, tsK, va_up]
      rw [e]; exact hin
    · have e : tK (tsK T p L') b = tK T b := by simp [tK, tsK, va_up, hbl]
      rw [e]; exact ho b hb hbl (hN b hb hub2)
  · obtain ⟨q2, q5, q6, q7⟩ := hD b hb hub
    exact ⟨by rw [h2]; exact q2, by rw [h5]; exact q5, by rw [h6]; exact q6, by rw [h7]; exact q7⟩
theorem c_T_par {c : Nat} {p : Option Nat} (h : c_T B t S T) (h5 : S'.1 (t + 5) = upd (S.1 (t + 5)) c (oI p)) (fo : ∀ a, a ≠ t + 5 → S'.1 a = S.1 a) (f2 : S'.2 = S.2) : c_T B t S' (tsP T c p) := by
  obtain ⟨g0, g12, hU, hL, hN, hD⟩ := h
  have e3 := fo (t + 3) (by omega); have e4 := fo (t + 4) (by omega); have e8 := fo (t + 8) (by omega); have e9 := fo (t + 9) (by omega); have e10 := fo (t + 10) (by omega); have e11 := fo (t + 11) (by omega)
  refine ⟨by rw [f2]; exact g0, by rw [f2]; exact g12, fun b hb => by rw [fo (t + 1) (by omega)]; exact hU b hb, fun b hb hub => ?_, fun b hb hub => ?_, fun b hb hub => ?_⟩
  · obtain ⟨q3, q4, q9, q10, q11, qn⟩ := hL b hb hub
    exact ⟨by rw [e3]; exact q3, by rw [e4]; exact q4, by rw [e9]; exact q9, by rw [e10]; exact q10, by rw [e11]; exact q11, qn⟩
  · obtain ⟨q3, q4, q8, qn⟩ := hN b hb hub
    exact ⟨by rw [e3]; exact q3, by rw [e4]; exact q4, by rw [e8]; exact q8, qn⟩
  · obtain ⟨q2, q5, q6, q7⟩ := hD b hb hub
    refine ⟨by rw [fo (t + 2) (by omega)]; exact q2, ?_, by rw [fo (t + 6) (by omega)]; exact q6, by rw [fo (t + 7) (by omega)]; exact q7⟩
    rw [h5]
    by_cases hbc : b = c
    · subst hbc
      rw [pk_us]
      simp [tP, tsP, va_up]
    · rw [pk_un hbc, q5]
      simp [tP, tsP, va_up, hbc]
theorem C_openChild {p i c : Nat} (hB : B ≤ 96) (h : c_T B t S T) (hp : p < B) (hu : tU T p = 3) (hc : c < B) (hi : i ≤ (tK T p).length) (hn : (tK T p).length < 6) :
    ∃ S', F_X4_openChild B t (nI p) (nI i) (nI c) S = some (.inl none, S') ∧ c_T B t S' (tsP (tsK T p ((tK T p).insertIdx i c)) c (some p)) ∧ m_fr t S S' := by
  obtain ⟨l3, l4, l8, ln⟩ := h.2.2.2.2.1 p hp hu
  obtain ⟨n, en⟩ : ∃ n, n = (tK T p).length := ⟨_, rfl⟩
  rw [← en] at l3 hi hn
  have hA : z_inb (nI p) B = true := m_inb hp (by omega)
  have hAc : z_inb (nI c) B = true := m_inb hc (by omega)
  have hx : nI p * 6 + nI i = nI (p * 6 + i) := by rw [m_c6, pk_mul, nI_add]
  have hx1 : nI (p * 6 + i) + 1 = nI (p * 6 + i + 1) := nI_1 _
  have hs : nI n - nI i = nI (n - i) := pk_sub hi
  have g1 : ¬ nI i < 0 := m_lt0 (by omega)
  have g2 : ¬ nI (n - i) < 0 := m_lt0 (by omega)
  have g3 : nI n < 6 := by rw [m_c6]; exact nI_lt hn (by omega)
  have hcc : z_cok (nI (p * 6 + i)) (nI (p * 6 + i + 1)) (nI (n - i)) (6 * B) (6 * B) = true := m_cok (by omega) (by omega) (by omega) (by omega)
  have hj : z_inb (nI (p * 6 + i)) (6 * B) = true := m_inb (by omega) (by omega)
  have x1 : (nI p).toNatClampNeg = p := nI_clamp (by omega)
  have x0 : (nI c).toNatClampNeg = c := nI_clamp (by omega)
  have x2 : (nI (p * 6 + i)).toNatClampNeg = p * 6 + i := nI_clamp (by omega)
  have x3 : (nI (p * 6 + i + 1)).toNatClampNeg = p * 6 + i + 1 := nI_clamp (by omega)
  have x4 : (nI (n - i)).toNatClampNeg = n - i := nI_clamp (by omega)
  have y1 : nI n + 1 = nI (n + 1) := nI_1 n
  obtain ⟨S', hF, f8, f3, f5, fo, f2⟩ : ∃ S', F_X4_openChild B t (nI p) (nI i) (nI c) S = some (.inl none, S') ∧ S'.1 (t + 8) = upd (va_cpy (S.1 (t + 8)) (S.1 (t + 8)) (p * 6 + i) (p * 6 + i + 1) (n - i)) (p * 6 + i) (nI c) ∧ S'.1 (t + 3) = upd (S.1 (t + 3)) p (nI (n + 1)) ∧ S'.1 (t + 5) = upd (S.1 (t + 5)) c (nI p) ∧ (∀ a, a ≠ t + 3 → a ≠ t + 5 → a ≠ t + 8 → S'.1 a = S.1 a) ∧ S'.2 = S.2 := by
    refine ⟨_, by simp only [F_X4_openChild, z_lt, z_gd, hA, hAc, l3, hx, hx1, hs, g1, g2, g3, hcc, hj, x0, x1, x2, x3, x4, m_ua1, if_true, if_false, Nat.reduceEqDiff, y1]; rfl, ?_⟩
    refine ⟨?_, ?_, ?_, fun a a1 a2 a3 => ?_, rfl⟩
    · simp [m_ua1, l3, x1, y1]
    · simp [m_ua1, l3, x1, y1]
    · simp [m_ua1, l3, x1, y1]
    · simp [m_ua1, a1, a2, a3]
  obtain ⟨S1, eS1⟩ : ∃ S1, S1 = z_ua (z_ua S (t + 8) (S'.1 (t + 8))) (t + 3) (S'.1 (t + 3)) := ⟨_, rfl⟩
  have k8 : S1.1 (t + 8) = S'.1 (t + 8) := by rw [eS1]; simp [m_ua1]
  have k3 : S1.1 (t + 3) = S'.1 (t + 3) := by rw [eS1]; simp [m_ua1]
  have ko : ∀ a, a ≠ t + 3 → a ≠ t + 8 → S1.1 a = S.1 a := fun a a1 a2 => by rw [eS1]; simp [m_ua1, a1, a2]
  have k2 : S1.2 = S.2 := by rw [eS1]; rfl
  have hlen : ((tK T p).insertIdx i c).length = n + 1 := by rw [List.length_insertIdx_of_le_length (by omega), en]
  have hT1 : c_T B t S1 (tsK T p ((tK T p).insertIdx i c)) := by
    refine c_T_kids h hu ⟨?_, ?_, ?_, by omega⟩ (fun b hb hbl hq => ?_) (fun b hbl => by rw [k3, f3, pk_un hbl]) (ko _ (by omega) (by omega)) (ko _ (by omega) (by omega)) (ko _ (by omega) (by omega)) (ko _ (by omega) (by omega)) (ko _ (by omega) (by omega)) (ko _ (by omega) (by omega)) (ko _ (by omega) (by omega)) (ko _ (by omega) (by omega)) (ko _ (by omega) (by omega)) k2
    · rw [k3, f3, pk_us, hlen]
    · rw [ko (t + 4) (by omega) (by omega)]; exact l4
    · rw [k8, f8, m_map_ins]
      have := m_l_ins (x := nI c) (i := i) l8 (by simpa [← en] using hi)
      simpa [← en] using this
    · obtain ⟨q3, q4, q8, qn⟩ := hq
      refine ⟨by rw [k3, f3, pk_un hbl]; exact q3, by rw [ko (t + 4) (by omega) (by omega)]; exact q4, m_l_kept q8 (fun j hj => ?_), qn⟩
      rw [k8, f8]; rw [List.length_map] at hj; exact m_ins_far (by omega) hi
  refine ⟨S', hF, c_T_par hT1 (by rw [f5, ko (t + 5) (by omega) (by omega)]; rfl) (fun a ha => ?_) (by rw [f2, k2]), fun a ha => fo a (by omega) (by omega) (by omega), fun a k _ => by rw [f2], by rw [f2]⟩
  by_cases h3a : a = t + 3
  · rw [h3a, k3]
  · by_cases h8a : a = t + 8
    · rw [h8a, k8]
    · rw [fo a h3a ha h8a, ko a h3a h8a]
theorem C_closeChild {p i c : Nat} (hB : B ≤ 96) (h : c_T B t S T) (hp : p < B) (hu : tU T p = 3) (hi : (tK T p)[i]? = some c) :
    ∃ S', F_X4_closeChild B t (nI p) (nI i) S = some (.inl none, S') ∧ c_T B t S' (tsK T p ((tK T p).eraseIdx i)) ∧ m_fr t S S' := by
  obtain ⟨l3, l4, l8, ln⟩ := h.2.2.2.2.1 p hp hu
  have hil : i < (tK T p).length := (List.getElem?_eq_some_iff.mp hi).1
  have hdl : ((tK T p).eraseIdx i).length = (tK T p).length - 1 := List.length_eraseIdx_of_lt hil
  have hml : m_l (va_cpy (S.1 (t + 8)) (S.1 (t + 8)) (p * 6 + i + 1) (p * 6 + i) ((tK T p).length - i - 1)) (p * 6) (((tK T p).eraseIdx i).map nI) := by
    rw [m_map_del]
    have := m_l_del (i := i) l8 (by simpa using hil)
    simpa using this
  obtain ⟨n, en⟩ : ∃ n, n = (tK T p).length := ⟨_, rfl⟩
  rw [← en] at l3 hil ln hdl hml
  have hA : z_inb (nI p) B = true := m_inb hp (by omega)
  have hx : nI p * 6 + nI i = nI (p * 6 + i) := by rw [m_c6, pk_mul, nI_add]
  have hx1 : nI (p * 6 + i) + 1 = nI (p * 6 + i + 1) := nI_1 _
  have hs : nI n - nI i = nI (n - i) := pk_sub (by omega)
  have hs1 : nI (n - i) - 1 = nI (n - i - 1) := by rw [m_c1]; exact pk_sub (by omega)
  have g1 : ¬ nI i < 0 := m_lt0 (by omega)
  have g2 : (0 : Int32) ≤ nI (n - i - 1) := m_ge0 (by omega)
  have hcc : z_cok (nI (p * 6 + i + 1)) (nI (p * 6 + i)) (nI (n - i - 1)) (6 * B) (6 * B) = true := m_cok (by omega) (by omega) (by omega) (by omega)
  have x1 : (nI p).toNatClampNeg = p := nI_clamp (by omega)
  have x2 : (nI (p * 6 + i)).toNatClampNeg = p * 6 + i := nI_clamp (by omega)
  have x3 : (nI (p * 6 + i + 1)).toNatClampNeg = p * 6 + i + 1 := nI_clamp (by omega)
  have x4 : (nI (n - i - 1)).toNatClampNeg = n - i - 1 := nI_clamp (by omega)
  have y1 : nI n - 1 = nI (n - 1) := by rw [m_c1]; exact pk_sub (by omega)
  obtain ⟨S', hF, f8, f3, fo, f2⟩ : ∃ S', F_X4_closeChild B t (nI p) (nI i) S = some (.inl none, S') ∧ S'.1 (t + 8) = va_cpy (S.1 (t + 8)) (S.1 (t + 8)) (p * 6 + i + 1) (p * 6 + i) (n - i - 1) ∧ S'.1 (t + 3) = upd (S.1 (t + 3)) p (nI (n - 1)) ∧ (∀ a, a ≠ t + 3 → a ≠ t + 8 → S'.1 a = S.1 a) ∧ S'.2 = S.2 := by
    refine ⟨_, by simp only [F_X4_closeChild, z_lt, z_gd, hA, l3, hx, hx1, hs, hs1, g1, g2, hcc, x1, x2, x3, x4, m_ua1, if_true, if_false, Nat.reduceEqDiff, y1]; rfl, ?_⟩
    refine ⟨?_, ?_, fun a a1 a2 => ?_, rfl⟩
    · simp [m_ua1, l3, x1, y1]
    · simp [m_ua1, l3, x1, y1]
    · simp [m_ua1, a1, a2]
  refine ⟨S', hF, c_T_kids h hu ⟨?_, ?_, ?_, by omega⟩ (fun b hb hbl hq => ?_) (fun b hbl => by rw [f3, pk_un hbl]) (fo _ (by omega) (by omega)) (fo _ (by omega) (by omega)) (fo _ (by omega) (by omega)) (fo _ (by omega) (by omega)) (fo _ (by omega) (by omega)) (fo _ (by omega) (by omega)) (fo _ (by omega) (by omega)) (fo _ (by omega) (by omega)) (fo _ (by omega) (by omega)) f2, fun a ha => fo a (by omega) (by omega), fun a k _ => by rw [f2], by rw [f2]⟩
  · rw [f3, pk_us, hdl]
  · rw [fo (t + 4) (by omega) (by omega)]; exact l4
  · rw [f8]; exact hml
  · obtain ⟨q3, q4, q8, qn⟩ := hq
    refine ⟨by rw [f3, pk_un hbl]; exact q3, by rw [fo (t + 4) (by omega) (by omega)]; exact q4, m_l_kept q8 (fun j hj => ?_), qn⟩
    rw [f8]; rw [List.length_map] at hj; exact m_del_far (by omega) hil
theorem tK_ne {l b : Nat} {L : List Nat} (h : b ≠ l) : tK (tsK T l L) b = tK T b := by simp [tK, tsK, va_up, h]
theorem tK_eq {l : Nat} {L : List Nat} : tK (tsK T l L) l = L := by simp [tK, tsK, va_up]
/-- a child from one node to another -/
theorem C_shiftChild {f i g j c : Nat} (hB : B ≤ 96) (h : c_T B t S T) (hf : f < B) (hg : g < B) (hc : c < B) (hfg : f ≠ g) (uf : tU T f = 3) (ug : tU T g = 3) (hi : (tK T f)[i]? = some c) (hj : j ≤ (tK T g).length) (hn : (tK T g).length < 6) :
    ∃ S', F_X4_shiftChild B t (nI f) (nI i) (nI g) (nI j) S = some (.inl none, S') ∧ c_T B t S' (tsP (tsK (tsK T f ((tK T f).eraseIdx i)) g ((tK T g).insertIdx j c)) c (some g)) ∧ m_fr t S S' := by
  obtain ⟨l3, l4, l8, ln⟩ := h.2.2.2.2.1 f hf uf
  have hil : i < (tK T f).length := (List.getElem?_eq_some_iff.mp hi).1
  have e8 : S.1 (t + 8) (f * 6 + i) = nI c := l8 i _ (by rw [List.getElem?_map, hi]; rfl)
  obtain ⟨S1, hF1, hT1, fr1⟩ := C_closeChild hB h hf uf hi
  have egn : tK (tsK T f ((tK T f).eraseIdx i)) g = tK T g := tK_ne (Ne.symm hfg)
  obtain ⟨S2, hF2, hT2, fr2⟩ := C_openChild (i := j) (c := c) hB hT1 hg ug hc (by rw [egn]; exact hj) (by rw [egn]; exact hn)
  rw [egn] at hT2
  have hx : nI f * 6 + nI i = nI (f * 6 + i) := by rw [m_c6, pk_mul, nI_add]
  have hjn : z_inb (nI (f * 6 + i)) (6 * B) = true := m_inb (by omega) (by omega)
  have x2 : (nI (f * 6 + i)).toNatClampNeg = f * 6 + i := nI_clamp (by omega)
  exact ⟨S2, by simp only [F_X4_shiftChild, z_lt, z_gd, hx, hjn, x2, e8, if_true, hF1, hF2, z_bo], hT2, m_fr_tr fr1 fr2⟩
end CT2
