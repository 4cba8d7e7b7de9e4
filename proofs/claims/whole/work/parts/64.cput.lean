/-! The class: putIn, takeOut, reshape are the abstract ones. -/
section CP
variable {B t : Nat} {S S' : z_S} {T T' : m_T}
theorem sk_lm (hs : m_sk B 0 0 T) : m_lm B T := by
  have z0 : ∀ g, m_era 0 (tR T g) = tR T g := fun g => l_era_no (sk_0 hs)
  have hr := sk_root hs
  have h3 := hs.2.2.1
  rw [z0] at h3
  have u := (hs.2.2.2.1 _ _ hr.1).2.2.2
  refine ⟨by rw [h3]; rfl, sk_rb hs, by rw [u]; split <;> simp, by have := hs.1; omega, fun h hh p hp => ?_⟩
  have hpm : p ∈ tR T (h + 1) := List.mem_of_head? hp
  obtain ⟨p1, p2, p3, p4⟩ := hs.2.2.2.1 _ p hpm
  rw [if_neg (by omega)] at p4
  have h10 := (hs.2.2.2.2.2.2.2.2.2.1 h p hpm (by omega)).1
  have h7 := hs.2.2.2.2.2.2.1 h hh
  rw [z0] at h7
  cases hk : tK T p with
  | nil => rw [hk] at h10; simp at h10
  | cons c L =>
    refine ⟨p2, p4, c, rfl, ?_⟩
    rw [← h7]
    cases hR : tR T (h + 1) with
    | nil => rw [hR] at hp; cases hp
    | cons a R =>
      rw [hR] at hp
      have e : a = p := by simpa using hp
      rw [e, List.flatMap_cons, hk]; rfl
theorem ok_row (h : m_ok B T) : ∀ x ∈ tR T 0, x < B ∧ tU T x = 2 ∧ tH T x = 0 ∧ tI T x ≠ [] ∧ m_fk T x < 2 ^ 31 := fun x hx => by
  obtain ⟨hs, hv, hi, hso⟩ := h
  obtain ⟨x1, x2, x3, x4⟩ := hs.2.2.2.1 0 x hx
  rw [if_pos rfl] at x4
  refine ⟨x2, x4, x3, (hv x hx).1, ?_⟩
  cases hI : tI T x with
  | nil => exact absurd hI (hv x hx).1
  | cons y L =>
    have := (fl_ig hi hx y (by rw [hI]; exact List.mem_cons_self)).2.2.1
    rw [m_fk, hI]
    show y.1 < 2 ^ 31
    omega
theorem ok_keys (h : m_ok B T) : ∀ x ∈ tR T 0, ∀ y ∈ tI T x, y.1 < 2 ^ 31 := fun x hx y hy => by
  have := (fl_ig h.2.2.1 hx y hy).2.2.1
  omega
theorem ok_leaf {k : Nat} (h : m_ok B T) : ∃ l0 L, tR T 0 = l0 :: L ∧ L.length < B ∧ a_leaf T k = m_lf T k l0 L := by
  have hl := (leaf_ok (k := k) h).1
  have hlen := sk_len h.1 (h := 0)
  cases hR : tR T 0 with
  | nil => rw [hR] at hl; cases hl
  | cons l0 L =>
    refine ⟨l0, L, rfl, ?_, ?_⟩
    · rw [hR, List.length_cons] at hlen; omega
    · unfold a_leaf; rw [hR]
theorem C_leaf {k : Nat} (hB : B ≤ 96) (h : m_ok B T) (hT : c_T B t S T) (hk : k < 2 ^ 31) : F_X4_leafOf B t (nI k) S = some (.inl (some (nI (a_leaf T k))), S) := by
  obtain ⟨l0, L, hR, hL, ea⟩ := ok_leaf (k := k) h
  rw [ea]
  exact C_leafOf hB hT (sk_lm h.1) hk (h.1.2.2.2.2.2.1 0) (ok_row h) hR hL
theorem C_putIn {x : m_It} (hB : B ≤ 96) (h : m_ok B T) (hT : c_T B t S T) (hx : m_ig x) :
    (∀ T', a_put B T x = some T' → ∃ S', F_X4_putIn B t (nI x.1) (nI x.2.1) (oI x.2.2) S = some (.inl (some 1), S') ∧ c_T B t S' T' ∧ m_fr t S S') ∧ (a_put B T x = none → ∃ S', F_X4_putIn B t (nI x.1) (nI x.2.1) (oI x.2.2) S = some (.inl (some 0), S') ∧ m_fr t S S') := by
  have hk : x.1 < 2 ^ 31 := by have := hx.2.2.1; omega
  obtain ⟨p1, p2, p3, p4, p5⟩ := put_pre h hx
  obtain ⟨l2, l4, l3, -, -⟩ := ok_row h _ p2
  have e1 := C_leaf hB h hT hk
  have e2 := C_placeIn hB hT l2 l4 hk (ok_keys h _ p2)
  have hle : m_bef (tI T (a_leaf T x.1)) x.1 ≤ (tI T (a_leaf T x.1)).length := (List.takeWhile_sublist _).length_le
  obtain ⟨S1, e3, c1, f1⟩ := C_openSlot (x := x) hB hT l2 l4 hle (by omega)
  rw [si_bef] at c1
  obtain ⟨j1, j2⟩ := C_relieve hB c1 p1 p2 p3 (by rw [tI_eq, si_len]; omega)
  have start : F_X4_putIn B t (nI x.1) (nI x.2.1) (oI x.2.2) S = z_bn (F_X4_relieve B t (nI (a_leaf T x.1)) S1) fun r10 S11 => (z_gd (z_b01 r10) (some (.inl (some r10), S11))) := by
    unfold F_X4_putIn
    rw [e1, m_bn, e2, m_bn, e3, m_bo]
  rw [start]
  constructor
  · intro T' ha
    obtain ⟨S2, w1, w2, w3⟩ := j1 T' ha
    exact ⟨S2, by rw [w1, m_bn, m_gd (by decide)], w2, m_fr_tr f1 w3⟩
  · intro ha
    obtain ⟨S2, w1, w3⟩ := j2 ha
    exact ⟨S2, by rw [w1, m_bn, m_gd (by decide)], m_fr_tr f1 w3⟩
theorem ok_slot {k : Nat} (h : m_ok B T) (hk : k < 2 ^ 31) (hB : B ≤ 96) (hT : c_T B t S T) :
    ((∃ y, (tI T (a_leaf T k))[m_bef (tI T (a_leaf T k)) k]? = some y ∧ y.1 = k) → F_X4_slotOf B t (nI k) S = some (.inl (some (nI (a_leaf T k * 14 + m_bef (tI T (a_leaf T k)) k))), S)) ∧ ((∀ y, (tI T (a_leaf T k))[m_bef (tI T (a_leaf T k)) k]? = some y → y.1 ≠ k) → F_X4_slotOf B t (nI k) S = some (.inl (some (-1)), S)) := by
  obtain ⟨l0, L, hR, hL, ea⟩ := ok_leaf (k := k) h
  have hl := (leaf_ok (k := k) h).1
  exact C_slotOf hB hT (sk_lm h.1) hk (h.1.2.2.2.2.2.1 0) (ok_row h) (ok_keys h) hR hL ea.symm hl rfl
theorem C_slot {k : Nat} (hB : B ≤ 96) (h : m_ok B T) (hT : c_T B t S T) (hk : k < 2 ^ 31) (hin : ∃ y ∈ flat T, y.1 = k) : F_X4_slotOf B t (nI k) S = some (.inl (some (nI (a_leaf T k * 14 + m_bef (tI T (a_leaf T k)) k))), S) ∧ ∃ y, (tI T (a_leaf T k))[m_bef (tI T (a_leaf T k)) k]? = some y ∧ y.1 = k := by
  obtain ⟨hl, -, FA, FC, hF, hU, hA, hC, hso, hi⟩ := leaf_ok (k := k) h
  have hy := bef_at hso (hi hin)
  exact ⟨(ok_slot h hk hB hT).1 hy, hy⟩
theorem C_noslot {k : Nat} (hB : B ≤ 96) (h : m_ok B T) (hT : c_T B t S T) (hk : k < 2 ^ 31) (hin : ∀ y ∈ flat T, y.1 ≠ k) : F_X4_slotOf B t (nI k) S = some (.inl (some (-1)), S) := by
  have hl := (leaf_ok (k := k) h).1
  exact (ok_slot h hk hB hT).2 (fun y hy => hin y (l_fm_mem.mpr ⟨_, hl, List.mem_of_getElem? hy⟩))
theorem C_takeOut {k : Nat} (hB : B ≤ 96) (h : m_ok B T) (hT : c_T B t S T) (hk : k < 2 ^ 31) (hin : ∃ y ∈ flat T, y.1 = k) (h2 : ∃ y ∈ flat T, y.1 ≠ k) : ∃ S', F_X4_takeOut B t (nI k) S = some (.inl none, S') ∧ c_T B t S' (a_del B T k) ∧ m_fr t S S' := by
  obtain ⟨p1, p2, p3, p4, p5, p6, y, hy, hyk⟩ := del_pre h hin h2
  obtain ⟨l2, l4, l3, -, -⟩ := ok_row h _ p2
  obtain ⟨e1, -⟩ := C_slot hB h hT hk hin
  have hI := (leaf_ok (k := k) h).2.2
  obtain ⟨S1, e3, c1, f1⟩ := C_closeSlot (x := y) hB hT l2 l4 hy
  rw [sd_bef p6 ⟨y, List.mem_of_getElem? hy, hyk⟩] at c1
  obtain ⟨S2, e4, c2, f2⟩ := C_lookAt hB c1 p1 p2 p3
  have hlt : m_bef (tI T (a_leaf T k)) k < (tI T (a_leaf T k)).length := (List.getElem?_eq_some_iff.mp hy).1
  refine ⟨S2, ?_, c2, m_fr_tr f1 f2⟩
  have ed : nI (a_leaf T k * 14 + m_bef (tI T (a_leaf T k)) k) / 14 = nI (a_leaf T k) := by
    rw [m_c14, pk_div (by omega) (by omega) (by omega)]
    congr 1
    omega
  have em : nI (a_leaf T k * 14 + m_bef (tI T (a_leaf T k)) k) - nI (a_leaf T k) * 14 = nI (m_bef (tI T (a_leaf T k)) k) := by
    rw [m_c14, pk_mul, pk_sub (by omega)]
    congr 1
    omega
  unfold F_X4_takeOut
  rw [e1, m_bn, if_neg (m_ne1 (by omega)), ed, em, e3, m_bo, e4, m_bo, F_X4_takeOut_31]
theorem C_takeOut_none {k : Nat} (hB : B ≤ 96) (h : m_ok B T) (hT : c_T B t S T) (hk : k < 2 ^ 31) (hin : ∀ y ∈ flat T, y.1 ≠ k) : F_X4_takeOut B t (nI k) S = some (.inl none, S) := by
  unfold F_X4_takeOut
  rw [C_noslot hB h hT hk hin, m_bn, if_pos rfl, F_X4_takeOut_31]
/-- an item's size is stored -/
theorem C_resized {l i b : Nat} {y : m_It} (hB : B ≤ 96) (hT : c_T B t S T) (hl : l < B) (ul : tU T l = 2) (hy : (tI T l)[i]? = some y) :
    c_T B t (z_ua (z_ua S (t + 10) (upd (S.1 (t + 10)) (l * 14 + i) (nI b))) (t + 4) (upd (S.1 (t + 4)) l (nI (m_cost ((tI T l).set i (y.1, b, y.2.2)))))) (tsI T l ((tI T l).set i (y.1, b, y.2.2))) := by
  obtain ⟨l3, l4, l9, l10, l11, ln⟩ := hT.2.2.2.1 l hl ul
  have hil : i < (tI T l).length := (List.getElem?_eq_some_iff.mp hy).1
  have fo : ∀ a, a ≠ t + 10 → a ≠ t + 4 → (z_ua (z_ua S (t + 10) (upd (S.1 (t + 10)) (l * 14 + i) (nI b))) (t + 4) (upd (S.1 (t + 4)) l (nI (m_cost ((tI T l).set i (y.1, b, y.2.2)))))).1 a = S.1 a := fun a h1 h2 => by rw [m_ua1, if_neg h2, m_ua1, if_neg h1]
  have f4 : (z_ua (z_ua S (t + 10) (upd (S.1 (t + 10)) (l * 14 + i) (nI b))) (t + 4) (upd (S.1 (t + 4)) l (nI (m_cost ((tI T l).set i (y.1, b, y.2.2)))))).1 (t + 4) = upd (S.1 (t + 4)) l (nI (m_cost ((tI T l).set i (y.1, b, y.2.2)))) := by rw [m_ua1, if_pos rfl]
  have f10 : (z_ua (z_ua S (t + 10) (upd (S.1 (t + 10)) (l * 14 + i) (nI b))) (t + 4) (upd (S.1 (t + 4)) l (nI (m_cost ((tI T l).set i (y.1, b, y.2.2)))))).1 (t + 10) = upd (S.1 (t + 10)) (l * 14 + i) (nI b) := by rw [m_ua1, if_neg (by omega), m_ua1, if_pos rfl]
  have keep : ∀ (g : m_It → Int32), g (y.1, b, y.2.2) = g y → ((tI T l).set i (y.1, b, y.2.2)).map g = (tI T l).map g := fun g hg => by
    rw [List.map_set, hg]
    apply List.ext_getElem?
    intro j
    by_cases e : i = j
    · rw [← e, List.getElem?_set_self (by simpa using hil), List.getElem?_map, hy]; rfl
    · rw [List.getElem?_set_ne e]
  refine c_T_its hT ul ⟨?_, ?_, ?_, ?_, ?_, ?_⟩ (fun c hc hcl hq => ?_) (fun c hcl => by rw [fo _ (by omega) (by omega)]) (fun c hcl => by rw [f4, pk_un hcl]) (fo _ (by omega) (by omega)) (fo _ (by omega) (by omega)) (fo _ (by omega) (by omega)) (fo _ (by omega) (by omega)) (fo _ (by omega) (by omega)) (fo _ (by omega) (by omega)) rfl
  · rw [fo _ (by omega) (by omega), List.length_set]; exact l3
  · rw [f4, pk_us]
  · rw [fo _ (by omega) (by omega), keep _ rfl]; exact l9
  · rw [f10, List.map_set]
    exact m_l_set l10
  · rw [fo _ (by omega) (by omega), keep _ rfl]; exact l11
  · rw [List.length_set]; exact ln
  · obtain ⟨q3, q4, q9, q10, q11, qn⟩ := hq
    refine ⟨by rw [fo _ (by omega) (by omega)]; exact q3, by rw [f4, pk_un hcl]; exact q4, by rw [fo _ (by omega) (by omega)]; exact q9, m_l_kept q10 (fun j hj => ?_), by rw [fo _ (by omega) (by omega)]; exact q11, qn⟩
    rw [List.length_map] at hj
    rw [f10, pk_un (by omega)]
/-- reshape: nothing to do -/
theorem C_reshape_same {k v : Int32} : F_X4_reshape B t k v v S = some (.inl (some 1), S) := by
  unfold F_X4_reshape
  rw [if_pos rfl, m_gd (by decide)]
/-- reshape: a new item -/
theorem C_reshape_new {k b : Nat} (hB : B ≤ 96) (h : m_ok B T) (hT : c_T B t S T) (hx : m_ig (k, b, none)) :
    (∀ T', a_put B T (k, b, none) = some T' → ∃ S', F_X4_reshape B t (nI k) 0 (nI b) S = some (.inl (some 1), S') ∧ c_T B t S' T' ∧ m_fr t S S') ∧ (a_put B T (k, b, none) = none → ∃ S', F_X4_reshape B t (nI k) 0 (nI b) S = some (.inl (some 0), S') ∧ m_fr t S S') := by
  have hk : k < 2 ^ 31 := by have := hx.2.2.1; simp only [] at this; omega
  have hb1 : 1 ≤ b := hx.1
  have hb2 : b ≤ 40 := hx.2.1
  obtain ⟨p1, p2, p3, p4, p5⟩ := put_pre h hx
  have p2' : a_leaf T k ∈ tR T 0 := p2
  have p5' : (tI T (a_leaf T k)).length ≤ 13 := p5
  obtain ⟨l2, l4, l3, -, -⟩ := ok_row h _ p2'
  have e1 := C_leaf hB h hT hk
  have e2 := C_placeIn hB hT l2 l4 hk (ok_keys h _ p2')
  have hle : m_bef (tI T (a_leaf T k)) k ≤ (tI T (a_leaf T k)).length := (List.takeWhile_sublist _).length_le
  obtain ⟨S1, e3, c1, f1⟩ := C_openSlot (x := ((k, b, none) : m_It)) hB hT l2 l4 hle (by omega)
  rw [show m_bef (tI T (a_leaf T k)) k = m_bef (tI T (a_leaf T k)) ((k, b, none) : m_It).1 from rfl, si_bef] at c1
  obtain ⟨j1, j2⟩ := C_relieve hB c1 p1 p2 p3 (by rw [tI_eq, si_len]; show (tI T (a_leaf T k)).length + 1 ≤ 14; omega)
  have e3' : F_X4_openSlot B t (nI (a_leaf T k)) (nI (m_bef (tI T (a_leaf T k)) k)) (nI k) (nI b) (-1) S = some (.inl none, S1) := e3
  have hz : ¬ (0 : Int32) = nI b := fun e => by
    have := (nI_eq (a := 0) (b := b) (by omega) (by omega)).mp (m_c0 ▸ e)
    omega
  have start : F_X4_reshape B t (nI k) 0 (nI b) S = z_bn (F_X4_relieve B t (nI (a_leaf T k)) S1) fun r10 S11 => (z_gd (z_b01 r10) (some (.inl (some r10), S11))) := by
    unfold F_X4_reshape
    rw [if_neg hz, e1, m_bn, e2, m_bn, if_pos rfl, e3', m_bo, F_X4_reshape_83, if_neg (by rw [m_c0]; exact nI_ge (by omega) (by omega))]
  rw [start]
  constructor
  · intro T' ha
    obtain ⟨S2, w1, w2, w3⟩ := j1 T' ha
    exact ⟨S2, by rw [w1, m_bn, m_gd (by decide)], w2, m_fr_tr f1 w3⟩
  · intro ha
    obtain ⟨S2, w1, w3⟩ := j2 ha
    exact ⟨S2, by rw [w1, m_bn, m_gd (by decide)], m_fr_tr f1 w3⟩
/-- reshape: an item goes -/
theorem C_reshape_del {k a : Nat} (hB : B ≤ 96) (h : m_ok B T) (hT : c_T B t S T) (hk : k < 2 ^ 31) (ha : 1 ≤ a ∧ a ≤ 40) (hin : ∃ y ∈ flat T, y.1 = k) (h2 : ∃ y ∈ flat T, y.1 ≠ k) : ∃ S', F_X4_reshape B t (nI k) (nI a) 0 S = some (.inl (some 1), S') ∧ c_T B t S' (a_del B T k) ∧ m_fr t S S' := by
  obtain ⟨p1, p2, p3, p4, p5, p6, y, hy, hyk⟩ := del_pre h hin h2
  obtain ⟨l2, l4, l3, -, -⟩ := ok_row h _ p2
  have e1 := C_leaf hB h hT hk
  have e2 := C_placeIn hB hT l2 l4 hk (ok_keys h _ p2)
  obtain ⟨S1, e3, c1, f1⟩ := C_closeSlot (x := y) hB hT l2 l4 hy
  rw [sd_bef p6 ⟨y, List.mem_of_getElem? hy, hyk⟩] at c1
  obtain ⟨S2, e4, c2, f2⟩ := C_lookAt hB c1 p1 p2 p3
  refine ⟨S2, ?_, c2, m_fr_tr f1 f2⟩
  have hz : ¬ nI a = 0 := fun e => by
    have := (nI_eq (a := a) (b := 0) (by omega) (by omega)).mp (e.trans m_c0)
    omega
  unfold F_X4_reshape
  rw [if_neg hz, e1, m_bn, e2, m_bn, if_neg hz, if_pos rfl, e3, m_bo, F_X4_reshape_83, if_pos (by rw [m_c0]; exact nI_le (by omega) (by omega)), e4, m_bo, m_gd (by decide)]
theorem C_reshape_set {k a b : Nat} (hB : B ≤ 96) (h : m_ok B T) (hT : c_T B t S T) (hk : k < 2 ^ 31) (ha : 1 ≤ a ∧ a ≤ 40) (hb : 1 ≤ b ∧ b ≤ 40) (hab : a ≠ b) (hin : ∃ y ∈ flat T, y.1 = k) (hall : ∀ y ∈ flat T, y.1 = k → y.2.1 = a) :
    ∃ S1, F_X4_reshape B t (nI k) (nI a) (nI b) S = F_X4_reshape_83 B t (nI a) (nI b) (nI (a_leaf T k)) S1 ∧ c_T B t S1 (tsI T (a_leaf T k) (s_set k b (tI T (a_leaf T k)))) ∧ m_fr t S S1 := by
  obtain ⟨p1, p2, p3, p4, p5, y, hy, hyk⟩ := more_pre h hin hb
  obtain ⟨l2, l4, l3, -, -⟩ := ok_row h _ p2
  have e1 := C_leaf hB h hT hk
  have e2 := C_placeIn hB hT l2 l4 hk (ok_keys h _ p2)
  have hlt : m_bef (tI T (a_leaf T k)) k < (tI T (a_leaf T k)).length := (List.getElem?_eq_some_iff.mp hy).1
  have hya : y.2.1 = a := hall y (l_fm_mem.mpr ⟨_, p2, List.mem_of_getElem? hy⟩) hyk
  have c1 := C_resized (b := b) hB hT l2 l4 hy
  have hco := ss_cost (b := b) hy hyk
  have hge := m_cost_ge hy
  rw [ss_bef hy hyk] at c1
  have h4 : S.1 (t + 4) (a_leaf T k) = nI (m_cost (tI T (a_leaf T k))) := (hT.2.2.2.1 _ l2 l4).2.1
  have ex : nI (a_leaf T k) * 14 + nI (m_bef (tI T (a_leaf T k)) k) = nI (a_leaf T k * 14 + m_bef (tI T (a_leaf T k)) k) := by rw [m_c14, pk_mul, nI_add]
  have ec : nI (m_cost (tI T (a_leaf T k))) + (nI b - nI a) = nI (m_cost (s_set k b (tI T (a_leaf T k)))) := by
    have e1 : nI (m_cost (tI T (a_leaf T k))) + (nI b - nI a) = nI (m_cost (tI T (a_leaf T k))) + nI b - nI a := by
      rw [Int32.sub_eq_add_neg, Int32.sub_eq_add_neg, Int32.add_assoc]
    rw [e1, nI_add, pk_sub (by omega)]
    congr 1
    omega
  have hz : ∀ v, 1 ≤ v → v ≤ 40 → ¬ nI v = 0 := fun v h1 h2 e => by
    have := (nI_eq (a := v) (b := 0) (by omega) (by omega)).mp (e.trans m_c0)
    omega
  have hne : ¬ nI a = nI b := fun e => hab ((nI_eq (by omega) (by omega)).mp e)
  refine ⟨_, ?_, c1, m_fr_tr (m_fr_ua (by omega)) (m_fr_ua (by omega))⟩
  have e10 : (z_ua S (t + 10) (upd (S.1 (t + 10)) (a_leaf T k * 14 + m_bef (tI T (a_leaf T k)) k) (nI b))).1 (t + 4) = S.1 (t + 4) := by rw [m_ua1, if_neg (by omega)]
  unfold F_X4_reshape
  rw [if_neg hne, e1, m_bn, e2, m_bn, if_neg (hz a ha.1 ha.2), if_neg (hz b hb.1 hb.2), ex, m_gd (m_inb (by omega) (by omega)), m_lt, m_ix (i := a_leaf T k * 14 + m_bef (tI T (a_leaf T k)) k) (by omega), m_gd (m_inb l2 (by omega)), m_lt, m_ix (i := a_leaf T k) (by omega), e10, h4, m_gd (m_inb l2 (by omega)), m_lt, ec]
theorem C_reshape_more {k a b : Nat} (hB : B ≤ 96) (h : m_ok B T) (hT : c_T B t S T) (hk : k < 2 ^ 31) (ha : 1 ≤ a) (hab : a < b) (hb : b ≤ 40) (hin : ∃ y ∈ flat T, y.1 = k) (hall : ∀ y ∈ flat T, y.1 = k → y.2.1 = a) :
    (∀ T', a_more B T k b = some T' → ∃ S', F_X4_reshape B t (nI k) (nI a) (nI b) S = some (.inl (some 1), S') ∧ c_T B t S' T' ∧ m_fr t S S') ∧ (a_more B T k b = none → ∃ S', F_X4_reshape B t (nI k) (nI a) (nI b) S = some (.inl (some 0), S') ∧ m_fr t S S') := by
  obtain ⟨S1, e1, c1, f1⟩ := C_reshape_set hB h hT hk ⟨ha, by omega⟩ ⟨by omega, hb⟩ (by omega) hin hall
  obtain ⟨p1, p2, p3, p4, p5, y, hy, hyk⟩ := more_pre (b := b) h hin ⟨by omega, hb⟩
  obtain ⟨j1, j2⟩ := C_relieve hB c1 p1 p2 p3 (by rw [tI_eq, ss_len]; omega)
  rw [e1, F_X4_reshape_83, if_neg (nI_ge (by omega) (by omega))]
  constructor
  · intro T' ht
    obtain ⟨S2, w1, w2, w3⟩ := j1 T' ht
    exact ⟨S2, by rw [w1, m_bn, m_gd (by decide)], w2, m_fr_tr f1 w3⟩
  · intro ht
    obtain ⟨S2, w1, w3⟩ := j2 ht
    exact ⟨S2, by rw [w1, m_bn, m_gd (by decide)], m_fr_tr f1 w3⟩
theorem C_reshape_less {k a b : Nat} (hB : B ≤ 96) (h : m_ok B T) (hT : c_T B t S T) (hk : k < 2 ^ 31) (hb : 1 ≤ b) (hab : b < a) (ha : a ≤ 40) (hin : ∃ y ∈ flat T, y.1 = k) (hall : ∀ y ∈ flat T, y.1 = k → y.2.1 = a) :
    ∃ S', F_X4_reshape B t (nI k) (nI a) (nI b) S = some (.inl (some 1), S') ∧ c_T B t S' (a_less B T k b) ∧ m_fr t S S' := by
  obtain ⟨S1, e1, c1, f1⟩ := C_reshape_set hB h hT hk ⟨by omega, ha⟩ ⟨hb, by omega⟩ (by omega) hin hall
  obtain ⟨p1, p2, p3, p4, p5, y, hy, hyk⟩ := more_pre (b := b) h hin ⟨hb, by omega⟩
  have hlo := less_pre (b := b) h hin ⟨hb, by omega⟩ (fun y hy hyk => by rw [hall y hy hyk]; omega)
  obtain ⟨S2, e4, c2, f2⟩ := C_lookAt hB c1 p1 p2 hlo
  exact ⟨S2, by rw [e1, F_X4_reshape_83, if_pos (nI_le (by omega) (by omega)), e4, m_bo, m_gd (by decide)], c2, m_fr_tr f1 f2⟩
end CP
