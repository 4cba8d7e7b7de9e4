/-! The reference's tree over lists, on: a child taken out, rows, a block taken and freed. -/
theorem va_up_same {α : Type} {f : Nat → α} {k : Nat} : va_up f k (f k) = f := by
  funext j
  simp only [va_up]
  by_cases h : j = k
  · rw [if_pos h, h]
  · rw [if_neg h]
theorem tsP_same {T : m_T} {c : Nat} : tsP T c (tP T c) = T := by
  simp only [tsP, tP]
  rw [va_up_same]
theorem insA_idx {n f : Nat} : ∀ {L : List Nat}, n ∈ L → m_insA n f L = L.insertIdx (L.idxOf n + 1) f
  | [], h => by cases h
  | a :: L, h => by
    simp only [m_insA]
    by_cases e : a = n
    · subst e
      rw [if_pos rfl, List.idxOf_cons_self]
      simp
    · have hn : n ∈ L := by
        rcases List.mem_cons.mp h with h | h
        · exact absurd h.symm e
        · exact h
      have hne : (a == n) = false := by simpa using e
      rw [if_neg e, insA_idx hn, List.idxOf_cons, hne]
      simp
theorem era_idx {n : Nat} : ∀ {L : List Nat}, n ∈ L → m_era n L = L.eraseIdx (L.idxOf n)
  | [], h => by cases h
  | a :: L, h => by
    simp only [m_era]
    by_cases e : a = n
    · subst e
      rw [if_pos rfl, List.idxOf_cons_self]
      simp
    · have hn : n ∈ L := by
        rcases List.mem_cons.mp h with h | h
        · exact absurd h.symm e
        · exact h
      have hne : (a == n) = false := by simpa using e
      rw [if_neg e, era_idx hn, List.idxOf_cons, hne]
      simp
section KM7
variable {B X Y : Nat} {S : z_S} {T : m_T} {f f' : Nat → Int32}
theorem KT_takeChild {p i c : Nat} (hB : B ≤ 96) (hT : k_T B X Y f T) (hp : p < B) (hpY : p ≠ Y) (up : tU T p = 3) (hc : (tK T p)[i]? = some c) :
    ∃ f', F_X6_takeChild B (nI p) (nI i) (z_ua S 61 f) = some (.inl (some (nI c)), z_ua S 61 f') ∧ k_T B X Y f' (tsK T p ((tK T p).eraseIdx i)) ∧ k_fr f f' := by
  obtain ⟨q1, q2, q3⟩ := hT.2.2.2.1 p hp hpY up
  have ea : (z_ua S 61 f).1 61 = f := z_ua_at
  have hil : i < (tK T p).length := (List.getElem?_eq_some_iff.mp hc).1
  have hlen : ((tK T p).eraseIdx i).length = (tK T p).length - 1 := List.length_eraseIdx_of_lt hil
  have e1 : f (4044 + 6 * p + i) = nI c := q2 i _ (by rw [List.getElem?_map, hc]; rfl)
  have key := k_T_kids (f' := upd (va_cpy f f (4044 + 6 * p + i + 1) (4044 + 6 * p + i) ((tK T p).length - 1 - i)) (3852 + p) (nI ((tK T p).length - 1))) (L' := (tK T p).eraseIdx i) (c := B) (pc := tP T B) hB hT (Or.inl rfl) hp up ⟨?_, ?_, by omega⟩ (fun b hb => ?_) (fun j j1 j2 j3 => ?_)
  · have e9 : tsP (tsK T p ((tK T p).eraseIdx i)) B (tP T B) = tsK T p ((tK T p).eraseIdx i) := tsP_same (T := tsK T p ((tK T p).eraseIdx i))
    rw [e9] at key
    have hF := K_takeChild (B := B) (S := z_ua S 61 f) (p := p) (c := c) (by omega) q3 hil (by rw [ea]; exact q1) (by rw [ea]; exact e1)
    rw [ea, z_ua_ua] at hF
    exact ⟨_, hF, key, fun j hj => by rw [pk_un (by omega), pk_cpy_out (by omega)]⟩
  · rw [pk_us, hlen]
  · rw [m_map_del]
    have := m_l_del (i := i) q2 (by simpa using hil)
    rw [List.length_map, show (tK T p).length - i - 1 = (tK T p).length - 1 - i by omega] at this
    refine m_l_kept this (fun j hj => ?_)
    rw [pk_un (by omega)]
  · rw [pk_un (by omega), pk_cpy_out (by omega), if_neg (by omega)]
  · rw [pk_un j1, pk_cpy_out (by omega)]
/-- only one row changes -/
theorem k_T_row {h : Nat} {L' : List Nat} (hB : B ≤ 96) (hT : k_T B X Y f T) (h8 : h < 8) (hc : f' (13068 + h) = nI L'.length) (hl : m_l f' (12300 + 96 * h) (L'.map nI)) (hn : L'.length ≤ 96) (ho : ∀ j, j ≠ 13068 + h → (j < 12300 + 96 * h ∨ 12300 + 96 * h + 96 ≤ j) → f' j = f j) : k_T B X Y f' (tsR T h L') := by
  obtain ⟨h1, h2, h3, h4, h5, h6, h7, h8'⟩ := hT
  refine ⟨fun b hb => ?_, fun b hb => ?_, fun b hb hu => ?_, fun b hb hY hu => ?_, fun b hb hX0 hu => ?_, fun g hg => ?_, ?_, ?_⟩
  · rw [ho b (by omega) (by omega)]; exact h1 b hb
  · rw [ho _ (by omega) (by omega)]; exact h2 b hb
  · obtain ⟨q1, q2, q3⟩ := h3 b hb hu
    refine ⟨by rw [ho _ (by omega) (by omega)]; exact q1, fun a ha => m_l_kept (q2 a ha) (fun j hj => ?_), q3⟩
    rw [List.length_map] at hj
    have q3' : (tI T b).length ≤ 16 := q3
    have hj' : j < (tI T b).length := hj
    exact ho _ (by omega) (by omega)
  · obtain ⟨q1, q2, q3⟩ := h4 b hb hY hu
    refine ⟨by rw [ho _ (by omega) (by omega)]; exact q1, m_l_kept q2 (fun j hj => ?_), q3⟩
    rw [List.length_map] at hj
    have q3' : (tK T b).length ≤ 6 := q3
    have hj' : j < (tK T b).length := hj
    exact ho _ (by omega) (by omega)
  · rw [ho _ (by omega) (by omega)]; exact h5 b hb hX0 hu
  · by_cases e : g = h
    · subst e
      have e1 : tR (tsR T g L') g = L' := by simp [tR, tsR, va_up]
      rw [e1]; exact ⟨hc, hl, hn⟩
    · have e1 : tR (tsR T h L') g = tR T g := by simp [tR, tsR, va_up, e]
      rw [e1]
      obtain ⟨q1, q2, q3⟩ := h6 g hg
      refine ⟨by rw [ho _ (by omega) (by omega)]; exact q1, m_l_kept q2 (fun j hj => ?_), q3⟩
      rw [List.length_map] at hj
      exact ho _ (by omega) (by omega)
  · rw [ho _ (by omega) (by omega)]; exact h7
  · rw [ho _ (by omega) (by omega)]; exact h8'
theorem KT_lineUp {x b h : Nat} (hB : B ≤ 96) (hT : k_T B X Y f T) (hx : x < B) (hb : b < B) (kx : k_h T x = h + 1) (kb : k_h T b = h + 1) (h8 : h < 8) (hn : (tR T h).length < 96) (hr : ∀ y ∈ tR T h, y < 2 ^ 31) (hm : b ∈ tR T h) :
    ∃ f', F_X6_lineUp B (nI x) (nI b) (z_ua S 61 f) = some (.inl none, z_ua S 61 f') ∧ k_T B X Y f' (tsR T h (m_insA b x (tR T h))) ∧ k_fr f f' := by
  obtain ⟨q1, q2, q3⟩ := hT.2.2.2.2.2.1 h h8
  have ea : (z_ua S 61 f).1 61 = f := z_ua_at
  have hil : (tR T h).idxOf b < (tR T h).length := List.idxOf_lt_length_iff.mpr hm
  have hlen : (m_insA b x (tR T h)).length = (tR T h).length + 1 := by rw [insA_idx hm, List.length_insertIdx_of_le_length (by omega)]
  have hhx : f (3756 + x) = nI (h + 1) := by rw [hT.2.1 x hx, kx]
  have hhb : f (3756 + b) = nI (h + 1) := by rw [hT.2.1 b hb, kb]
  have hF := K_lineUp (B := B) (S := z_ua S 61 f) (f := x) (b := b) (h := h) (L := tR T h) (by omega) (by omega) (by rw [ea]; exact hhx) (by rw [ea]; exact hhb) h8 (by rw [ea]; exact q2) (by rw [ea]; exact q1) hn hr hm
  rw [ea, z_ua_ua] at hF
  refine ⟨_, hF, k_T_row hB hT h8 ?_ ?_ (by omega) (fun j j1 j2 => ?_), fun j hj => ?_⟩
  · rw [pk_us, hlen]
  · rw [insA_idx hm, m_map_ins]
    have := m_l_ins (x := nI x) (i := (tR T h).idxOf b + 1) q2 (by rw [List.length_map]; omega)
    rw [List.length_map] at this
    refine m_l_kept this (fun j hj => ?_)
    rw [List.length_insertIdx_of_le_length (by rw [List.length_map]; omega), List.length_map] at hj
    rw [pk_un (by omega)]
  · rw [pk_un j1, pk_un (by omega), pk_cpy_out (by omega)]
  · rw [pk_un (by omega), pk_un (by omega), pk_cpy_out (by omega)]
theorem KT_lineOff {b h : Nat} (hB : B ≤ 96) (hT : k_T B X Y f T) (hb : b < B) (kb : k_h T b = h + 1) (h8 : h < 8) (hr : ∀ y ∈ tR T h, y < 2 ^ 31) (hm : b ∈ tR T h) :
    ∃ f', F_X6_lineOff B (nI b) (z_ua S 61 f) = some (.inl none, z_ua S 61 f') ∧ k_T B X Y f' (tsR T h (m_era b (tR T h))) ∧ k_fr f f' := by
  obtain ⟨q1, q2, q3⟩ := hT.2.2.2.2.2.1 h h8
  have ea : (z_ua S 61 f).1 61 = f := z_ua_at
  have hil : (tR T h).idxOf b < (tR T h).length := List.idxOf_lt_length_iff.mpr hm
  have hlen : (m_era b (tR T h)).length = (tR T h).length - 1 := by rw [era_idx hm, List.length_eraseIdx_of_lt hil]
  have hhb : f (3756 + b) = nI (h + 1) := by rw [hT.2.1 b hb, kb]
  have hF := K_lineOff (B := B) (S := z_ua S 61 f) (b := b) (h := h) (L := tR T h) (by omega) (by rw [ea]; exact hhb) h8 (by rw [ea]; exact q2) (by rw [ea]; exact q1) q3 hr hm
  rw [ea, z_ua_ua] at hF
  refine ⟨_, hF, k_T_row hB hT h8 ?_ ?_ (by omega) (fun j j1 j2 => ?_), fun j hj => ?_⟩
  · rw [pk_us, hlen]
  · rw [era_idx hm, m_map_del]
    have := m_l_del (i := (tR T h).idxOf b) q2 (by rw [List.length_map]; exact hil)
    rw [List.length_map, show (tR T h).length - (tR T h).idxOf b - 1 = (tR T h).length - 1 - (tR T h).idxOf b by omega] at this
    refine m_l_kept this (fun j hj => ?_)
    rw [List.length_eraseIdx_of_lt (by rw [List.length_map]; exact hil), List.length_map] at hj
    rw [pk_un (by omega)]
  · rw [pk_un j1, pk_cpy_out (by omega)]
  · rw [pk_un (by omega), pk_cpy_out (by omega)]
theorem KT_next {b h : Nat} (hB : B ≤ 96) (hT : k_T B X Y f T) (hb : b < B) (kb : k_h T b = h + 1) (h8 : h < 8) (hd : (tR T h).Nodup) (hr : ∀ y ∈ tR T h, y < 2 ^ 31) (hm : b ∈ tR T h) : F_X6_beside B (nI b) 1 (z_ua S 61 f) = some (.inl (some (oI (m_nx (tR T h) b))), z_ua S 61 f) := by
  obtain ⟨q1, q2, q3⟩ := hT.2.2.2.2.2.1 h h8
  have ea : (z_ua S 61 f).1 61 = f := z_ua_at
  exact K_beside_next (by omega) (by rw [ea, hT.2.1 b hb, kb]) h8 (by rw [ea]; exact q2) (by rw [ea]; exact q1) q3 hd hr hm
theorem KT_prev {b h : Nat} (hB : B ≤ 96) (hT : k_T B X Y f T) (hb : b < B) (kb : k_h T b = h + 1) (h8 : h < 8) (hd : (tR T h).Nodup) (hr : ∀ y ∈ tR T h, y < 2 ^ 31) (hm : b ∈ tR T h) : F_X6_beside B (nI b) (-1) (z_ua S 61 f) = some (.inl (some (oI (m_pv (tR T h) b))), z_ua S 61 f) := by
  obtain ⟨q1, q2, q3⟩ := hT.2.2.2.2.2.1 h h8
  have ea : (z_ua S 61 f).1 61 = f := z_ua_at
  exact K_beside_prev (by omega) (by rw [ea, hT.2.1 b hb, kb]) h8 (by rw [ea]; exact q2) (by rw [ea]; exact q1) q3 hd hr hm
theorem KT_used {b : Nat} (hB : B ≤ 96) (hT : k_T B X Y f T) (hb : b < B) (ub : tU T b = 2) : F_X6_used B (nI b) (z_ua S 61 f) = some (.inl (some (nI (m_cost (tI T b)))), z_ua S 61 f) := by
  obtain ⟨q1, q2, q3⟩ := hT.2.2.1 b hb ub
  have ea : (z_ua S 61 f).1 61 = f := z_ua_at
  refine K_used (by omega) (by rw [ea]; exact q1) ?_ q3
  rw [ea]
  intro i x hx
  have := q2 3 (by omega) i x hx
  show f (9228 + 16 * b + i) = x
  rw [show 9228 + 16 * b + i = 4620 + 1536 * 3 + (16 * b + i) by omega]
  exact this
theorem KT_childPlace {p c : Nat} (hB : B ≤ 96) (hT : k_T B X Y f T) (hp : p < B) (hpY : p ≠ Y) (up : tU T p = 3) (hc : c < B) (hx : ∀ x ∈ tK T p, x < B) (hm : c ∈ tK T p) : F_X6_childPlace B (nI p) (nI c) (z_ua S 61 f) = some (.inl (some (nI ((tK T p).idxOf c))), z_ua S 61 f) := by
  obtain ⟨q1, q2, q3⟩ := hT.2.2.2.1 p hp hpY up
  have ea : (z_ua S 61 f).1 61 = f := z_ua_at
  exact K_childPlace (by omega) (by rw [ea]; exact q2) q3 (by omega) (fun x hx' => by have := hx x hx'; omega) hm
theorem KT_cost {b i : Nat} {x : m_It} (hB : B ≤ 96) (hT : k_T B X Y f T) (hb : b < B) (ub : tU T b = 2) (hx : (tI T b)[i]? = some x) : F_X6_cost B (nI b) (nI i) (z_ua S 61 f) = some (.inl (some (nI (8 + x.2.1))), z_ua S 61 f) := by
  obtain ⟨q1, q2, q3⟩ := hT.2.2.1 b hb ub
  have ea : (z_ua S 61 f).1 61 = f := z_ua_at
  have hil : i < (tI T b).length := (List.getElem?_eq_some_iff.mp hx).1
  have e3 : f (9228 + 16 * b + i) = nI x.2.1 := by
    have := q2 3 (by omega) i (nI x.2.1) (by rw [List.getElem?_map, hx]; rfl)
    rw [show 9228 + 16 * b + i = 4620 + 1536 * 3 + (16 * b + i) by omega]
    exact this
  have e : (9228 : Int32) + 16 * nI b + nI i = nI (9228 + 16 * b + i) := by rw [m_c9228, m_c16, pk_mul, nI_add, nI_add]
  unfold F_X6_cost
  rw [e, m_gd (m_inb (by omega) (by omega)), m_lt, m_ix (by omega), ea, e3, m_c8, nI_add]
/-- a block is taken, or none is free -/
theorem KT_take_none (hB : B ≤ 96) (hB1 : 1 ≤ B) (hT : k_T B X Y f T) (h0 : S.2.1 60 1 = nI B) (hf : m_free T B = none) : F_X6_take B (z_ua S 61 f) = some (.inl (some (-1)), z_ui (z_ua S 61 f) 60 7 1) := by
  have ea : (z_ua S 61 f).1 61 = f := z_ua_at
  unfold F_X6_take
  refine (K_take_loop (S := z_ua S 61 f) (u := tU T) hB h0 (fun b hb => ?_) (B - 1) z_n 1 (by omega) (by unfold z_n; omega)).1 hf
  rw [ea, hT.1 b (by omega)]
  congr 1
  by_cases e : tU T b = 0
  · rw [if_pos e, if_neg (fun h => h.2 e)]
  · rw [if_neg e, if_pos ⟨hb, e⟩]
theorem KT_take {b : Nat} (hB : B ≤ 96) (hB1 : 1 ≤ B) (hT : k_T B X Y f T) (h0 : S.2.1 60 1 = nI B) (hf : m_free T B = some b) : F_X6_take B (z_ua S 61 f) = some (.inl (some (nI b)), z_ua S 61 (upd (upd (upd f b 1) (3756 + b) 0) (3852 + b) 0)) := by
  have ea : (z_ua S 61 f).1 61 = f := z_ua_at
  unfold F_X6_take
  have := (K_take_loop (u := tU T) (S := z_ua S 61 f) hB h0 (fun b hb => by
    rw [ea, hT.1 b (by omega)]
    congr 1
    by_cases e : tU T b = 0
    · rw [if_pos e, if_neg (fun h => h.2 e)]
    · rw [if_neg e, if_pos ⟨hb, e⟩]) (B - 1) z_n 1 (by omega) (by unfold z_n; omega)).2 b hf
  rw [ea, z_ua_ua] at this
  exact this
/-- a new node -/
theorem k_T_new {b u h X' : Nat} (hB : B ≤ 96) (hT : k_T B X Y f T) (hb : b < B) (hu : (u = 2 ∧ h = 0) ∨ u = 3) (hXb : tX T ≠ b) (h1 : f' b = 1) (h2 : f' (3756 + b) = nI (h + 1)) (h3 : f' (3852 + b) = 0) (h5 : b = X' ∨ f' (3948 + b) = -1) (hX : ∀ c, c < B → c ≠ X' → c ≠ b → (tU T c = 2 ∨ tU T c = 3) → c ≠ X) (ho : ∀ j, j ≠ b → j ≠ 3756 + b → j ≠ 3852 + b → j ≠ 3948 + b → f' j = f j) : k_T B X' Y f' (tsH (m_take T b u) b h) := by
  obtain ⟨g1, g2, g3, g4, g5, g6, g7, g8⟩ := hT
  have eU : tU (tsH (m_take T b u) b h) = va_up (tU T) b u := rfl
  have eH : tH (tsH (m_take T b u) b h) = va_up (va_up (tH T) b 0) b h := rfl
  have eI : tI (tsH (m_take T b u) b h) = va_up (tI T) b [] := rfl
  have eK : tK (tsH (m_take T b u) b h) = va_up (tK T) b [] := rfl
  have eP : tP (tsH (m_take T b u) b h) = va_up (tP T) b none := rfl
  have eR : tR (tsH (m_take T b u) b h) = tR T := rfl
  have eX : tX (tsH (m_take T b u) b h) = tX T := rfl
  have us : ∀ {α : Type} {F : Nat → α} {v : α}, va_up F b v b = v := fun {_ _ _} => by simp [va_up]
  have un : ∀ {α : Type} {F : Nat → α} {v : α} {c : Nat}, c ≠ b → va_up F b v c = F c := fun {_ _ _ _} hc => by simp [va_up, hc]
  have kb : k_h (tsH (m_take T b u) b h) b = h + 1 := by
    rcases hu with ⟨e1, e2⟩ | e1
    · unfold k_h; rw [eU, us, if_pos e1, e2]
    · unfold k_h; rw [eU, eH, us, us, if_neg (by omega), if_pos e1]
  have kn : ∀ c, c ≠ b → k_h (tsH (m_take T b u) b h) c = k_h T c := fun c hc => by
    unfold k_h; rw [eU, un hc, eH, un hc, un hc]
  refine ⟨fun c hc => ?_, fun c hc => ?_, fun c hc hcu => ?_, fun c hc hY hcu => ?_, fun c hc hX0 hcu => ?_, fun g hg => ?_, ?_, ?_⟩
  · by_cases e : c = b
    · rw [e, h1, eU, us, if_pos ⟨hb, by rcases hu with ⟨z, -⟩ | z <;> omega⟩]; rfl
    · rw [ho c e (by omega) (by omega) (by omega), eU, un e]; exact g1 c hc
  · by_cases e : c = b
    · rw [e, h2, kb]
    · rw [ho _ (by omega) (by omega) (by omega) (by omega), kn c e]; exact g2 c hc
  · by_cases e : c = b
    · rw [e, eI, us]
      exact ⟨h3, fun a _ => m_l_nil, by simp⟩
    · rw [eU, un e] at hcu
      rw [eI, un e]
      obtain ⟨q1, q2, q3⟩ := g3 c hc hcu
      refine ⟨by rw [ho _ (by omega) (by omega) (by omega) (by omega)]; exact q1, fun a ha => m_l_kept (q2 a ha) (fun j hj => ?_), q3⟩
      exact ho _ (by omega) (by omega) (by omega) (by omega)
  · by_cases e : c = b
    · rw [e, eK, us]
      exact ⟨h3, m_l_nil, by simp⟩
    · rw [eU, un e] at hcu
      rw [eK, un e]
      obtain ⟨q1, q2, q3⟩ := g4 c hc hY hcu
      refine ⟨by rw [ho _ (by omega) (by omega) (by omega) (by omega)]; exact q1, m_l_kept q2 (fun j hj => ?_), q3⟩
      exact ho _ (by omega) (by omega) (by omega) (by omega)
  · by_cases e : c = b
    · rw [e, eP, us]
      rcases h5 with z | z
      · exact absurd (e.trans z) hX0
      · exact z
    · rw [eU, un e] at hcu
      rw [ho _ (by omega) (by omega) (by omega) (by omega), eP, un e]
      exact g5 c hc (hX c hc hX0 e hcu) hcu
  · obtain ⟨q1, q2, q3⟩ := g6 g hg
    rw [eR]
    refine ⟨by rw [ho _ (by omega) (by omega) (by omega) (by omega)]; exact q1, m_l_kept q2 (fun j hj => ?_), q3⟩
    exact ho _ (by omega) (by omega) (by omega) (by omega)
  · rw [ho _ (by omega) (by omega) (by omega) (by omega), eX]; exact g7
  · rw [ho _ (by omega) (by omega) (by omega) (by omega), eX, eH, un hXb, un hXb]; exact g8
/-- a node is free -/
theorem KT_free {b Y' : Nat} (hB : B ≤ 96) (hT : k_T B X Y f T) (hb : b < B) (hY : Y' = Y ∨ Y = b) :
    ∃ f', F_X6_free B (nI b) (z_ua S 61 f) = some (.inl none, z_ua S 61 f') ∧ k_T B X Y' f' (tsU T b 0) ∧ k_fr f f' := by
  have ea : (z_ua S 61 f).1 61 = f := z_ua_at
  have hF := K_free (B := B) (S := z_ua S 61 f) (b := b) (by omega)
  rw [ea, z_ua_ua] at hF
  obtain ⟨g1, g2, g3, g4, g5, g6, g7, g8⟩ := hT
  have eU : tU (tsU T b 0) = va_up (tU T) b 0 := rfl
  have us : ∀ {α : Type} {F : Nat → α} {v : α}, va_up F b v b = v := fun {_ _ _} => by simp [va_up]
  have un : ∀ {α : Type} {F : Nat → α} {v : α} {c : Nat}, c ≠ b → va_up F b v c = F c := fun {_ _ _ _} hc => by simp [va_up, hc]
  have ho : ∀ j, j ≠ b → j ≠ 3756 + b → j ≠ 3852 + b → upd (upd (upd f b 0) (3756 + b) 0) (3852 + b) 0 j = f j := fun j h1 h2 h3 => by rw [pk_un h3, pk_un h2, pk_un h1]
  refine ⟨_, hF, ⟨fun c hc => ?_, fun c hc => ?_, fun c hc hcu => ?_, fun c hc hY0 hcu => ?_, fun c hc hX0 hcu => ?_, fun g hg => ?_, ?_, ?_⟩, fun j hj => ho j (by omega) (by omega) (by omega)⟩
  · by_cases e : c = b
    · rw [e, pk_un (by omega), pk_un (by omega), pk_us, eU, us, if_neg (fun h => h.2 rfl)]; rfl
    · rw [ho c e (by omega) (by omega), eU, un e]; exact g1 c hc
  · by_cases e : c = b
    · rw [e, pk_un (by omega), pk_us]
      unfold k_h
      rw [eU, us]; rfl
    · rw [ho _ (by omega) (by omega) (by omega)]
      have : k_h (tsU T b 0) c = k_h T c := by unfold k_h; rw [eU, un e]; rfl
      rw [this]; exact g2 c hc
  · have e : c ≠ b := fun e => by rw [e, eU, us] at hcu; cases hcu
    rw [eU, un e] at hcu
    obtain ⟨q1, q2, q3⟩ := g3 c hc hcu
    refine ⟨by rw [ho _ (by omega) (by omega) (by omega)]; exact q1, fun a ha => m_l_kept (q2 a ha) (fun j hj => ?_), q3⟩
    exact ho _ (by omega) (by omega) (by omega)
  · have e : c ≠ b := fun e => by rw [e, eU, us] at hcu; cases hcu
    rw [eU, un e] at hcu
    obtain ⟨q1, q2, q3⟩ := g4 c hc (fun z => by rcases hY with w | w; exact hY0 (z.trans w.symm); exact e (z.trans w)) hcu
    refine ⟨by rw [ho _ (by omega) (by omega) (by omega)]; exact q1, m_l_kept q2 (fun j hj => ?_), q3⟩
    exact ho _ (by omega) (by omega) (by omega)
  · have e : c ≠ b := fun e => by rw [e, eU, us] at hcu; rcases hcu with z | z <;> cases z
    rw [eU, un e] at hcu
    rw [ho _ (by omega) (by omega) (by omega)]
    exact g5 c hc hX0 hcu
  · obtain ⟨q1, q2, q3⟩ := g6 g hg
    refine ⟨by rw [ho _ (by omega) (by omega) (by omega)]; exact q1, m_l_kept q2 (fun j hj => ?_), q3⟩
    exact ho _ (by omega) (by omega) (by omega)
  · rw [ho _ (by omega) (by omega) (by omega)]; exact g7
  · rw [ho _ (by omega) (by omega) (by omega)]; exact g8
/-- a parent is stored -/
theorem k_T_par {c : Nat} {p : Option Nat} {X' : Nat} (hB : B ≤ 96) (hT : k_T B X Y f T) (hX : X' = X ∨ X = c) (hc : c < B) : k_T B X' Y (upd f (3948 + c) (oI p)) (tsP T c p) := by
  obtain ⟨g1, g2, g3, g4, g5, g6, g7, g8⟩ := hT
  have ho : ∀ j, j ≠ 3948 + c → upd f (3948 + c) (oI p) j = f j := fun j h => pk_un h
  refine ⟨fun d hd => ?_, fun d hd => ?_, fun d hd hu => ?_, fun d hd hY0 hu => ?_, fun d hd hX0 hu => ?_, fun g hg => ?_, ?_, ?_⟩
  · rw [ho d (by omega)]; exact g1 d hd
  · rw [ho _ (by omega)]; exact g2 d hd
  · obtain ⟨q1, q2, q3⟩ := g3 d hd hu
    exact ⟨by rw [ho _ (by omega)]; exact q1, fun a ha => m_l_kept (q2 a ha) (fun j hj => ho _ (by omega)), q3⟩
  · obtain ⟨q1, q2, q3⟩ := g4 d hd hY0 hu
    exact ⟨by rw [ho _ (by omega)]; exact q1, m_l_kept q2 (fun j hj => ho _ (by omega)), q3⟩
  · by_cases e : d = c
    · rw [e, pk_us]; simp [tP, tsP, va_up]
    · rw [ho _ (by omega), show tP (tsP T c p) d = tP T d by simp [tP, tsP, va_up, e]]
      exact g5 d hd (fun z => by rcases hX with w | w; exact hX0 (z.trans w.symm); exact e (z.trans w)) hu
  · obtain ⟨q1, q2, q3⟩ := g6 g hg
    exact ⟨by rw [ho _ (by omega)]; exact q1, m_l_kept q2 (fun j hj => ho _ (by omega)), q3⟩
  · rw [ho _ (by omega)]; exact g7
  · rw [ho _ (by omega)]; exact g8
/-- a root is stored -/
theorem k_T_root {r n : Nat} (hT : k_T B X Y f T) (hB : B ≤ 96) (hn : n = tH T r + 1) : k_T B X Y (upd (upd f 13076 (nI r)) 13077 (nI n)) (tsX T r) := by
  obtain ⟨g1, g2, g3, g4, g5, g6, g7, g8⟩ := hT
  have ho : ∀ j, j ≠ 13076 → j ≠ 13077 → upd (upd f 13076 (nI r)) 13077 (nI n) j = f j := fun j h h2 => by rw [pk_un h2, pk_un h]
  refine ⟨fun d hd => ?_, fun d hd => ?_, fun d hd hu => ?_, fun d hd hY0 hu => ?_, fun d hd hX0 hu => ?_, fun g hg => ?_, ?_, ?_⟩
  · rw [ho d (by omega) (by omega)]; exact g1 d hd
  · rw [ho _ (by omega) (by omega)]; exact g2 d hd
  · obtain ⟨q1, q2, q3⟩ := g3 d hd hu
    refine ⟨by rw [ho _ (by omega) (by omega)]; exact q1, fun a ha => m_l_kept (q2 a ha) (fun j hj => ?_), q3⟩
    rw [List.length_map] at hj
    have q3' : (tI T d).length ≤ 16 := q3
    have hj' : j < (tI T d).length := hj
    exact ho _ (by omega) (by omega)
  · obtain ⟨q1, q2, q3⟩ := g4 d hd hY0 hu
    refine ⟨by rw [ho _ (by omega) (by omega)]; exact q1, m_l_kept q2 (fun j hj => ?_), q3⟩
    rw [List.length_map] at hj
    have q3' : (tK T d).length ≤ 6 := q3
    have hj' : j < (tK T d).length := hj
    exact ho _ (by omega) (by omega)
  · rw [ho _ (by omega) (by omega)]; exact g5 d hd hX0 hu
  · obtain ⟨q1, q2, q3⟩ := g6 g hg
    refine ⟨by rw [ho _ (by omega) (by omega)]; exact q1, m_l_kept q2 (fun j hj => ?_), q3⟩
    rw [List.length_map] at hj
    have q3' : (tR T g).length ≤ 96 := q3
    have hj' : j < (tR T g).length := hj
    exact ho _ (by omega) (by omega)
  · rw [pk_un (by omega), pk_us]; rfl
  · rw [pk_us, hn]; rfl
/-- less is left out -/
theorem k_T_X {X' : Nat} (hT : k_T B 0 Y f T) (hz : ∀ b, b < B → (tU T b = 2 ∨ tU T b = 3) → b ≠ 0) : k_T B X' Y f T := by
  obtain ⟨g1, g2, g3, g4, g5, g6, g7, g8⟩ := hT
  exact ⟨g1, g2, g3, g4, fun b hb _ hu => g5 b hb (hz b hb hu) hu, g6, g7, g8⟩
theorem k_T_Y {Y' : Nat} (hT : k_T B X 0 f T) (hz : ∀ b, b < B → (tU T b = 2 ∨ tU T b = 3) → b ≠ 0) : k_T B X Y' f T := by
  obtain ⟨g1, g2, g3, g4, g5, g6, g7, g8⟩ := hT
  exact ⟨g1, g2, g3, fun b hb _ hu => g4 b hb (hz b hb (Or.inr hu)) hu, g5, g6, g7, g8⟩
end KM7
