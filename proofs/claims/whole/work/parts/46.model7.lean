/-! The reference's tree over lists, on: a child taken out, rows, a block taken and freed. -/
theorem va_up_same {α : Type} {f : Nat → α} {k : Nat} : va_up f k (f k) = f := by
  funext j
  simp only [va_up]
  by_cases h : j = k
  · rw [if_pos h, h]
  · rw [if_neg h]
theorem tsP_same {T : m_T} {c : Nat} : tsP T c (tP T c) = T := by
  simp only [tsP, tP]
  rw [va_up_same]
theorem insA_idx {n f : Nat} : ∀ {L : List Nat}, n ∈ L → m_insA n f L = L.insertIdx (L.idxOf n + 1) f
  | [], h => by cases h
  | a :: L, h => by
    simp only [m_insA]
    by_cases e : a = n
    · subst e
      rw [if_pos rfl, List.idxOf_cons_self]
      simp
    · have hn : n ∈ L := by
        rcases List.mem_cons.mp h with h | h
        · exact absurd h.symm e
        · exact h
      have hne : (a == n) = false := by simpa using e
      rw [if_neg e, insA_idx hn, List.idxOf_cons, hne]
      simp
theorem era_idx {n : Nat} : ∀ {L : List Nat}, n ∈ L → m_era n L = L.eraseIdx (L.idxOf n)
  | [], h => by cases h
  | a :: L, h => by
    simp only [m_era]
    by_cases e : a = n
    · subst e
      rw [if_pos rfl, List.idxOf_cons_self]
      simp
    · have hn : n ∈ L := by
        rcases List.mem_cons.mp h with h | h
        · exact absurd h.symm e
        · exact h
      have hne : (a == n) = false := by simpa using e
      rw [if_neg e, era_idx hn, List.idxOf_cons, hne]
      simp
section KM7
variable {B : Nat} {S : z_S} {T : m_T} {f f' : Nat → Int32}
theorem KT_takeChild {p i c : Nat} (hB : B ≤ 96) (hT : k_T B (S.1 61) T) (hp : p < B) (up : tU T p = 3) (hc : (tK T p)[i]? = some c) :
    ∃ f', F_X6_takeChild B (nI p) (nI i) S = some (.inl (some (nI c)), z_ua S 61 f') ∧ k_T B f' (tsK T p ((tK T p).eraseIdx i)) := by
  obtain ⟨q1, q2, q3⟩ := hT.2.2.2.1 p hp up
  have hil : i < (tK T p).length := (List.getElem?_eq_some_iff.mp hc).1
  have hlen : ((tK T p).eraseIdx i).length = (tK T p).length - 1 := List.length_eraseIdx_of_lt hil
  have e1 : S.1 61 (4044 + 6 * p + i) = nI c := q2 i _ (by rw [List.getElem?_map, hc]; rfl)
  have key := k_T_kids (f' := upd (va_cpy (S.1 61) (S.1 61) (4044 + 6 * p + i + 1) (4044 + 6 * p + i) ((tK T p).length - 1 - i)) (3852 + p) (nI ((tK T p).length - 1))) (L' := (tK T p).eraseIdx i) (c := p) (pc := tP T p) hB hT hp up ⟨?_, ?_, by omega⟩ (fun b hb => ?_) (fun j j1 j2 j3 => ?_)
  · have e9 : tsP (tsK T p ((tK T p).eraseIdx i)) p (tP T p) = tsK T p ((tK T p).eraseIdx i) := tsP_same (T := tsK T p ((tK T p).eraseIdx i))
    rw [e9] at key
    exact ⟨_, K_takeChild (by omega) q3 hil q1 e1, key⟩
  · rw [pk_us, hlen]
  · rw [m_map_del]
    have := m_l_del (i := i) q2 (by simpa using hil)
    rw [List.length_map, show (tK T p).length - i - 1 = (tK T p).length - 1 - i by omega] at this
    refine m_l_kept this (fun j hj => ?_)
    rw [pk_un (by omega)]
  · rw [pk_un (by omega), pk_cpy_out (by omega)]
    by_cases e : b = p
    · subst e; rw [if_pos rfl]; exact hT.2.2.2.2.1 b hb (Or.inr up)
    · rw [if_neg e]
  · rw [pk_un j1, pk_cpy_out (by omega)]
/-- only one row changes -/
theorem k_T_row {h : Nat} {L' : List Nat} (hB : B ≤ 96) (hT : k_T B f T) (h8 : h < 8) (hc : f' (13068 + h) = nI L'.length) (hl : m_l f' (12300 + 96 * h) (L'.map nI)) (hn : L'.length ≤ 96) (ho : ∀ j, j ≠ 13068 + h → (j < 12300 + 96 * h ∨ 12300 + 96 * h + 96 ≤ j) → f' j = f j) : k_T B f' (tsR T h L') := by
  obtain ⟨h1, h2, h3, h4, h5, h6, h7, h8'⟩ := hT
  refine ⟨fun b hb => ?_, fun b hb => ?_, fun b hb hu => ?_, fun b hb hu => ?_, fun b hb hu => ?_, fun g hg => ?_, ?_, ?_⟩
  · rw [ho b (by omega) (by omega)]; exact h1 b hb
  · rw [ho _ (by omega) (by omega)]; exact h2 b hb
  · obtain ⟨q1, q2, q3⟩ := h3 b hb hu
    refine ⟨by rw [ho _ (by omega) (by omega)]; exact q1, fun a ha => m_l_kept (q2 a ha) (fun j hj => ?_), q3⟩
    rw [List.length_map] at hj
    have q3' : (tI T b).length ≤ 16 := q3
    have hj' : j < (tI T b).length := hj
    exact ho _ (by omega) (by omega)
  · obtain ⟨q1, q2, q3⟩ := h4 b hb hu
    refine ⟨by rw [ho _ (by omega) (by omega)]; exact q1, m_l_kept q2 (fun j hj => ?_), q3⟩
    rw [List.length_map] at hj
    have q3' : (tK T b).length ≤ 6 := q3
    have hj' : j < (tK T b).length := hj
    exact ho _ (by omega) (by omega)
  · rw [ho _ (by omega) (by omega)]; exact h5 b hb hu
  · by_cases e : g = h
    · subst e
      have e1 : tR (tsR T g L') g = L' := by simp [tR, tsR, va_up]
      rw [e1]; exact ⟨hc, hl, hn⟩
    · have e1 : tR (tsR T h L') g = tR T g := by simp [tR, tsR, va_up, e]
      rw [e1]
      obtain ⟨q1, q2, q3⟩ := h6 g hg
      refine ⟨by rw [ho _ (by omega) (by omega)]; exact q1, m_l_kept q2 (fun j hj => ?_), q3⟩
      rw [List.length_map] at hj
      exact ho _ (by omega) (by omega)
  · rw [ho _ (by omega) (by omega)]; exact h7
  · rw [ho _ (by omega) (by omega)]; exact h8'
theorem KT_lineUp {x b h : Nat} (hB : B ≤ 96) (hT : k_T B (S.1 61) T) (hx : x < B) (hb : b < B) (kx : k_h T x = h + 1) (kb : k_h T b = h + 1) (h8 : h < 8) (hn : (tR T h).length < 96) (hr : ∀ y ∈ tR T h, y < 2 ^ 31) (hm : b ∈ tR T h) :
    ∃ f', F_X6_lineUp B (nI x) (nI b) S = some (.inl none, z_ua S 61 f') ∧ k_T B f' (tsR T h (m_insA b x (tR T h))) := by
  obtain ⟨q1, q2, q3⟩ := hT.2.2.2.2.2.1 h h8
  have hil : (tR T h).idxOf b < (tR T h).length := List.idxOf_lt_length_iff.mpr hm
  have hlen : (m_insA b x (tR T h)).length = (tR T h).length + 1 := by rw [insA_idx hm, List.length_insertIdx_of_le_length (by omega)]
  have hhx : S.1 61 (3756 + x) = nI (h + 1) := by rw [hT.2.1 x hx, kx]
  have hhb : S.1 61 (3756 + b) = nI (h + 1) := by rw [hT.2.1 b hb, kb]
  refine ⟨_, K_lineUp (by omega) (by omega) hhx hhb h8 q2 q1 hn hr hm, k_T_row hB hT h8 ?_ ?_ (by omega) (fun j j1 j2 => ?_)⟩
  · rw [pk_us, hlen]
  · rw [insA_idx hm, m_map_ins]
    have := m_l_ins (x := nI x) (i := (tR T h).idxOf b + 1) q2 (by rw [List.length_map]; omega)
    rw [List.length_map] at this
    refine m_l_kept this (fun j hj => ?_)
    rw [List.length_insertIdx_of_le_length (by rw [List.length_map]; omega), List.length_map] at hj
    rw [pk_un (by omega)]
  · rw [pk_un j1, pk_un (by omega), pk_cpy_out (by omega)]
theorem KT_lineOff {b h : Nat} (hB : B ≤ 96) (hT : k_T B (S.1 61) T) (hb : b < B) (kb : k_h T b = h + 1) (h8 : h < 8) (hr : ∀ y ∈ tR T h, y < 2 ^ 31) (hm : b ∈ tR T h) :
    ∃ f', F_X6_lineOff B (nI b) S = some (.inl none, z_ua S 61 f') ∧ k_T B f' (tsR T h (m_era b (tR T h))) := by
  obtain ⟨q1, q2, q3⟩ := hT.2.2.2.2.2.1 h h8
  have hil : (tR T h).idxOf b < (tR T h).length := List.idxOf_lt_length_iff.mpr hm
  have hlen : (m_era b (tR T h)).length = (tR T h).length - 1 := by rw [era_idx hm, List.length_eraseIdx_of_lt hil]
  have hhb : S.1 61 (3756 + b) = nI (h + 1) := by rw [hT.2.1 b hb, kb]
  refine ⟨_, K_lineOff (by omega) hhb h8 q2 q1 q3 hr hm, k_T_row hB hT h8 ?_ ?_ (by omega) (fun j j1 j2 => ?_)⟩
  · rw [pk_us, hlen]
  · rw [era_idx hm, m_map_del]
    have := m_l_del (i := (tR T h).idxOf b) q2 (by rw [List.length_map]; exact hil)
    rw [List.length_map, show (tR T h).length - (tR T h).idxOf b - 1 = (tR T h).length - 1 - (tR T h).idxOf b by omega] at this
    refine m_l_kept this (fun j hj => ?_)
    rw [List.length_eraseIdx_of_lt (by rw [List.length_map]; exact hil), List.length_map] at hj
    rw [pk_un (by omega)]
  · rw [pk_un j1, pk_cpy_out (by omega)]
theorem KT_next {b h : Nat} (hB : B ≤ 96) (hT : k_T B (S.1 61) T) (hb : b < B) (kb : k_h T b = h + 1) (h8 : h < 8) (hd : (tR T h).Nodup) (hr : ∀ y ∈ tR T h, y < 2 ^ 31) (hm : b ∈ tR T h) : F_X6_beside B (nI b) 1 S = some (.inl (some (oI (m_nx (tR T h) b))), S) := by
  obtain ⟨q1, q2, q3⟩ := hT.2.2.2.2.2.1 h h8
  exact K_beside_next (by omega) (by rw [hT.2.1 b hb, kb]) h8 q2 q1 q3 hd hr hm
theorem KT_prev {b h : Nat} (hB : B ≤ 96) (hT : k_T B (S.1 61) T) (hb : b < B) (kb : k_h T b = h + 1) (h8 : h < 8) (hd : (tR T h).Nodup) (hr : ∀ y ∈ tR T h, y < 2 ^ 31) (hm : b ∈ tR T h) : F_X6_beside B (nI b) (-1) S = some (.inl (some (oI (m_pv (tR T h) b))), S) := by
  obtain ⟨q1, q2, q3⟩ := hT.2.2.2.2.2.1 h h8
  exact K_beside_prev (by omega) (by rw [hT.2.1 b hb, kb]) h8 q2 q1 q3 hd hr hm
theorem KT_used {b : Nat} (hB : B ≤ 96) (hT : k_T B (S.1 61) T) (hb : b < B) (ub : tU T b = 2) : F_X6_used B (nI b) S = some (.inl (some (nI (m_cost (tI T b)))), S) := by
  obtain ⟨q1, q2, q3⟩ := hT.2.2.1 b hb ub
  refine K_used (by omega) q1 ?_ q3
  intro i x hx
  have := q2 3 (by omega) i x hx
  show S.1 61 (9228 + 16 * b + i) = x
  rw [show 9228 + 16 * b + i = 4620 + 1536 * 3 + (16 * b + i) by omega]
  exact this
end KM7
