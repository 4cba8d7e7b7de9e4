/-! The class: a leaf looked at is the abstract one. -/
section CL
variable {B t : Nat} {S S' : z_S} {T T' : m_T}
theorem C_shiftAll_loop {l a : Nat} (hB : B ≤ 96) (hl : l < B) (ha : a < B) (hal : a ≠ l) : ∀ (L A : List m_It) (n i : Nat) (T : m_T) (S : z_S), tI T l = L → tI T a = A → tU T l = 2 → tU T a = 2 → c_T B t S T → i + L.length ≤ 14 → A.length + L.length ≤ 14 → L.length < n →
    ∃ S', F_X4_shiftAll_2 B t n (nI l) (nI a) (nI i) S = some (.inl none, S') ∧ c_T B t S' (tsI (tsI T a (A ++ L)) l []) ∧ m_fr t S S'
  | [], A, n, i, T, S, eL, eA, ul, ua, hT, hi, hA, hn => by
    obtain ⟨n, rfl⟩ : ∃ k, n = k + 1 := ⟨n - 1, by omega⟩
    have e3 : S.1 (t + 3) l = nI 0 := by rw [(hT.2.2.2.1 l hl ul).1, eL]; rfl
    refine ⟨S, ?_, by rw [List.append_nil, tsI_2 hal eA eL]; exact hT, m_fr_rf⟩
    rw [F_X4_shiftAll_2]
    by_cases h14 : 14 ≤ nI i
    · rw [if_pos h14, F_X4_shiftAll_36]
    · rw [if_neg h14, m_gd (m_inb hl (by omega)), m_lt, m_ix (by omega), e3, if_pos (by decide), F_X4_shiftAll_36]
  | x :: L, A, n, i, T, S, eL, eA, ul, ua, hT, hi, hA, hn => by
    obtain ⟨n, rfl⟩ : ∃ k, n = k + 1 := ⟨n - 1, by omega⟩
    rw [List.length_cons] at hi hn hA
    have h14 : ¬ (14 : Int32) ≤ nI i := by rw [m_c14]; exact nI_ge (by omega) (by omega)
    have e3 : S.1 (t + 3) l = nI (L.length + 1) := by rw [(hT.2.2.2.1 l hl ul).1, eL]; rfl
    have e3a : S.1 (t + 3) a = nI A.length := by rw [(hT.2.2.2.1 a ha ua).1, eA]
    obtain ⟨S1, s1, s2, s3⟩ := C_shiftItem (f := l) (i := 0) (g := a) (j := A.length) (x := x) hB hT hl ha (Ne.symm hal) ul ua (by rw [eL]; rfl) (by rw [eA]; exact Nat.le_refl _) (by rw [eA]; omega)
    rw [eA, eL] at s2
    have s2' : c_T B t S1 (tsI (tsI T a (A ++ [x])) l L) := by
      have e1 : A.insertIdx A.length x = A ++ [x] := by simp
      rw [e1] at s2
      exact s2
    obtain ⟨S2, r1, r2, r3⟩ := C_shiftAll_loop hB hl ha hal L (A ++ [x]) n (i + 1) (tsI (tsI T a (A ++ [x])) l L) S1 tI_eq (by rw [tI_ne hal, tI_eq]) ul ua s2' (by omega) (by rw [List.length_append, List.length_singleton]; omega) (by omega)
    rw [tsI4 hal, List.append_assoc, List.singleton_append] at r2
    refine ⟨S2, ?_, r2, m_fr_tr s3 r3⟩
    have s1' : F_X4_shiftItem B t (nI l) 0 (nI a) (nI A.length) S = some (.inl none, S1) := s1
    rw [F_X4_shiftAll_2, if_neg h14, m_gd (m_inb hl (by omega)), m_lt, m_ix (i := l) (by omega), e3, if_neg (by rw [m_c0]; exact nI_ge (by omega) (by omega)), m_gd (m_inb ha (by omega)), m_lt, m_ix (i := a) (by omega), e3a, s1', m_bo, nI_1]
    exact r1
theorem C_shiftAll {l a : Nat} (hB : B ≤ 96) (hT : c_T B t S T) (hl : l < B) (ha : a < B) (hal : a ≠ l) (ul : tU T l = 2) (ua : tU T a = 2) (hlen : (tI T a).length + (tI T l).length ≤ 14) : ∃ S', F_X4_shiftAll B t (nI l) (nI a) S = some (.inl none, S') ∧ c_T B t S' (a_all T l a) ∧ m_fr t S S' :=
  C_shiftAll_loop hB hl ha hal (tI T l) (tI T a) z_n 0 T S rfl rfl ul ua hT (by omega) hlen (by unfold z_n; omega)
theorem C_join {d b : Nat} {k : z_S → Option (z_O × z_S)} (hB : B ≤ 96) (hT : c_T B t S T) (hs : m_sk B 0 0 T) (hd : d ∈ tR T 0) (hb : b ∈ tR T 0) (hdb : d ≠ b) (hc : m_cost (tI T d) + m_cost (tI T b) ≤ 72) (hi : ∀ x ∈ flat T, m_ig x) (hp : ∃ p, tP T d = some p) :
    ∃ S', z_bo (F_X4_shiftAll B t (nI d) (nI b) S) (fun S6 => z_bo (F_X4_dropNode B t (nI d) S6) k) = k S' ∧ c_T B t S' (a_gone 8 (a_all T d b) d) ∧ m_fr t S S' := by
  obtain ⟨d1, d2, d3, d4⟩ := hs.2.2.2.1 0 d hd
  obtain ⟨b1, b2, b3, b4⟩ := hs.2.2.2.1 0 b hb
  rw [if_pos rfl] at d4 b4
  have q1 := m_cost_few (fl_ig hi hd)
  have q2 := m_cost_few (fl_ig hi hb)
  obtain ⟨S1, e1, c1, f1⟩ := C_shiftAll hB hT d2 b2 (Ne.symm hdb) d4 b4 (by omega)
  have s1 : m_sk B 0 0 (a_all T d b) := it_sk (it_tr it_sI it_sI) hs
  obtain ⟨p, hp⟩ := hp
  obtain ⟨S2, e2, c2, f2⟩ := C_dropNode hB c1 s1 hd hp
  exact ⟨S2, by rw [e1, m_bo, e2, m_bo], c2, m_fr_tr f1 f2⟩
theorem C_lookAt_loop (hB : B ≤ 96) : ∀ (n m l i : Nat) (T : m_T) (S : z_S), i + n = B → n < m → c_T B t S T → m_sk B 0 0 T → l ∈ tR T 0 → a_lo T l → ∃ S', F_X4_lookAt_4 B t m (nI l) (nI i) S = some (.inl none, S') ∧ c_T B t S' (a_look n T l) ∧ m_fr t S S'
  | 0, m, l, i, T, S, hi, hm, hT, hs, hl, hv => by
    obtain ⟨m, rfl⟩ : ∃ k, m = k + 1 := ⟨m - 1, by omega⟩
    refine ⟨S, ?_, hT, m_fr_rf⟩
    rw [F_X4_lookAt_4, hT.1, if_pos (nI_le (by omega) (by omega))]
  | n + 1, m, l, i, T, S, hi, hm, hT, hs, hl, hv => by
    obtain ⟨m, rfl⟩ : ∃ k, m = k + 1 := ⟨m - 1, by omega⟩
    obtain ⟨v1, v2, v3⟩ := hv
    have hnd := hs.2.2.2.2.2.1 0
    have leafU : ∀ b ∈ tR T 0, b < B ∧ tU T b = 2 := fun b hb => by
      obtain ⟨b1, b2, b3, b4⟩ := hs.2.2.2.1 0 b hb
      rw [if_pos rfl] at b4
      exact ⟨b2, b4⟩
    obtain ⟨lB, lU⟩ := leafU l hl
    have lH : tH T l = 0 := (hs.2.2.2.1 0 l hl).2.2.1
    obtain ⟨-, -, q6, q7⟩ := hT.2.2.2.2.2 l lB (Or.inl lU)
    rw [lH] at q6 q7
    have q3 : S.1 (t + 3) l = nI (tI T l).length := (hT.2.2.2.1 l lB lU).1
    have e4 : ∀ b ∈ tR T 0, S.1 (t + 4) b = nI (m_cost (tI T b)) := fun b hb => (hT.2.2.2.1 b (leafU b hb).1 (leafU b hb).2).2.1
    have ln : (tI T l).length ≤ 14 := (hT.2.2.2.1 l lB lU).2.2.2.2.2
    have nbL : ∀ a, m_pv (tR T 0) l = some a → a ∈ tR T 0 ∧ l ≠ a ∧ m_nx (tR T 0) a = some l := fun a ha => by
      have hx := (nx_pv hnd).mpr ha
      exact ⟨nx_src hx, fun e => nx_ne hnd (e ▸ hx : m_nx (tR T 0) l = some l), hx⟩
    have nbR : ∀ c, m_nx (tR T 0) l = some c → c ∈ tR T 0 ∧ c ≠ l := fun c hc => ⟨List.mem_of_mem_tail (nx_mem hc), fun e => nx_ne hnd (e ▸ hc : m_nx (tR T 0) c = some c)⟩
    -- the right one
    have hR : tI T l ≠ [] → ∃ S', F_X4_lookAt_114 B t (F_X4_lookAt_156 B t (F_X4_lookAt_4 B t m)) (nI l) (nI i) (oI (m_nx (tR T 0) l)) S = some (.inl none, S') ∧ c_T B t S' (a_lookR (a_look n) T l (m_nx (tR T 0) l)) ∧ m_fr t S S' := fun hne => by
      cases hc : m_nx (tR T 0) l with
      | none =>
        refine ⟨S, ?_, hT, m_fr_rf⟩
        unfold F_X4_lookAt_114
        rw [if_pos (show oI none = -1 from rfl), F_X4_lookAt_155]
      | some c =>
        obtain ⟨hcm, hcl⟩ := nbR c hc
        have cB := (leafU c hcm).1
        have k1 := (v1 l hl).2
        have k2 := (v1 c hcm).2
        rw [show a_lookR (a_look n) T l (some c) = if 72 < m_cost (tI T l) + m_cost (tI T c) then T else a_look n (a_gone 8 (a_all T c l) c) l from rfl]
        unfold F_X4_lookAt_114
        rw [show oI (some c) = nI c from rfl, if_neg (m_ne1 (by omega)), m_gd (m_inb lB (by omega)), m_lt, m_ix (i := l) (by omega), e4 l hl, m_gd (m_inb cB (by omega)), m_lt, m_ix (i := c) (by omega), e4 c hcm, nI_add]
        by_cases h72 : 72 < m_cost (tI T l) + m_cost (tI T c)
        · rw [if_pos (by rw [m_c72]; exact nI_lt h72 (by omega)), if_pos h72, F_X4_lookAt_155]
          exact ⟨S, rfl, hT, m_fr_rf⟩
        · rw [if_neg (by rw [m_c72]; exact nI_nlt (by omega) (by omega)), if_neg h72]
          have hf : flat (a_all T c l) = flat T := by
            show (tR T 0).flatMap (va_up (va_up (tI T) l (tI T l ++ tI T c)) c []) = _
            rw [l_fm_adj hnd hc (by simp)]; rfl
          obtain ⟨j1, j2, j3, j4, j5, j6, j7⟩ := join_leaf hs hcm hl hcl hf (fun z hz _ h2 => ⟨(v1 z hz).1 h2, (v1 z hz).2⟩) (by simp [hne]) (by omega) v2 v3
          obtain ⟨S1, e1, c1, f1⟩ := C_join (k := fun S9 => F_X4_lookAt_156 B t (F_X4_lookAt_4 B t m) (nI l) (nI i) S9) hB hT hs hcm hl hcl (by omega) v2 j7
          obtain ⟨S2, e2, c2, f2⟩ := C_lookAt_loop hB n m l (i + 1) _ S1 (by omega) (by omega) c1 j1 j2 j3
          refine ⟨S2, ?_, c2, m_fr_tr f1 f2⟩
          rw [e1, F_X4_lookAt_156, nI_1]
          exact e2
    have hL : tI T l ≠ [] → ∃ S', F_X4_lookAt_71 B t (F_X4_lookAt_156 B t (F_X4_lookAt_4 B t m)) (nI l) (nI i) (oI (m_pv (tR T 0) l)) (oI (m_nx (tR T 0) l)) S = some (.inl none, S') ∧ c_T B t S' (a_lookL (a_look n) T l (m_nx (tR T 0) l) (m_pv (tR T 0) l)) ∧ m_fr t S S' := fun hne => by
      cases ha : m_pv (tR T 0) l with
      | none =>
        unfold F_X4_lookAt_71
        rw [if_pos (show oI none = -1 from rfl)]
        exact hR hne
      | some a =>
        obtain ⟨ham, hla, hx⟩ := nbL a ha
        have aB := (leafU a ham).1
        have k1 := (v1 l hl).2
        have k2 := (v1 a ham).2
        rw [show a_lookL (a_look n) T l (m_nx (tR T 0) l) (some a) = if 72 < m_cost (tI T a) + m_cost (tI T l) then a_lookR (a_look n) T l (m_nx (tR T 0) l) else a_look n (a_gone 8 (a_all T l a) l) a from rfl]
        unfold F_X4_lookAt_71
        rw [show oI (some a) = nI a from rfl, if_neg (m_ne1 (by omega)), m_gd (m_inb aB (by omega)), m_lt, m_ix (i := a) (by omega), e4 a ham, m_gd (m_inb lB (by omega)), m_lt, m_ix (i := l) (by omega), e4 l hl, nI_add]
        by_cases h72 : 72 < m_cost (tI T a) + m_cost (tI T l)
        · rw [if_pos (by rw [m_c72]; exact nI_lt h72 (by omega)), if_pos h72]
          exact hR hne
        · rw [if_neg (by rw [m_c72]; exact nI_nlt (by omega) (by omega)), if_neg h72]
          have hf : flat (a_all T l a) = flat T := by
            show (tR T 0).flatMap (va_up (va_up (tI T) a (tI T a ++ tI T l)) l []) = _
            rw [l_fm_adj hnd hx (by simp)]; rfl
          obtain ⟨j1, j2, j3, j4, j5, j6, j7⟩ := join_leaf hs hl ham hla hf (fun z hz h1 _ => ⟨(v1 z hz).1 h1, (v1 z hz).2⟩) (by simp [hne]) (by omega) v2 v3
          obtain ⟨S1, e1, c1, f1⟩ := C_join (k := fun S9 => F_X4_lookAt_156 B t (F_X4_lookAt_4 B t m) (nI a) (nI i) S9) hB hT hs hl ham hla (by omega) v2 j7
          obtain ⟨S2, e2, c2, f2⟩ := C_lookAt_loop hB n m a (i + 1) _ S1 (by omega) (by omega) c1 j1 j2 j3
          refine ⟨S2, ?_, c2, m_fr_tr f1 f2⟩
          rw [e1, F_X4_lookAt_156, nI_1]
          exact e2
    have hE : ∀ b, b ∈ tR T 0 → l ≠ b → tI T l = [] → ∃ S1 S', F_X4_dropNode B t (nI l) S = some (.inl none, S1) ∧ F_X4_lookAt_4 B t m (nI b) (nI (i + 1)) S1 = some (.inl none, S') ∧ c_T B t S' (a_look n (a_gone 8 T l) b) ∧ m_fr t S S' := fun b hb hlb he => by
      obtain ⟨k1, k2, k3, k4, k5, p, hp⟩ := gone_leaf hs hl hb hlb he
      obtain ⟨S1, e1, c1, f1⟩ := C_dropNode hB hT hs hl hp
      obtain ⟨S2, e2, c2, f2⟩ := C_lookAt_loop hB n m b (i + 1) _ S1 (by omega) (by omega) c1 k1 (by rw [k3]; exact era_mem (Ne.symm hlb) hb) ⟨fun z hz => by
        rw [k3] at hz
        have hz1 : z ∈ tR T 0 := era_sub hz
        have hz2 : z ≠ l := fun e => (era_nodup (n := l) hnd).2 (e ▸ hz)
        rw [k2]
        exact ⟨fun _ => (v1 z hz1).1 hz2, (v1 z hz1).2⟩, by rw [k4]; exact v2, by rw [k4]; exact v3⟩
      exact ⟨S1, S2, e1, e2, c2, m_fr_tr f1 f2⟩
    rw [F_X4_lookAt_4, hT.1, if_neg (nI_ge (by omega) (by omega)), m_gd (m_inb lB (by omega)), m_lt, m_ix (by omega), q6, m_gd (m_inb lB (by omega)), m_lt, q7, m_gd (m_inb lB (by omega)), m_lt, q3, a_look]
    unfold a_look1
    by_cases he : (tI T l).length = 0
    · have he2 : tI T l = [] := List.eq_nil_of_length_eq_zero he
      rw [if_pos he, if_pos (show nI (tI T l).length = 0 by rw [he]; rfl)]
      cases ha : m_pv (tR T 0) l with
      | none =>
        cases hc : m_nx (tR T 0) l with
        | none =>
          exfalso
          have := l_alone hnd hl ha hc
          unfold flat at v3
          rw [this] at v3
          simp [he2] at v3
        | some c =>
          obtain ⟨hcm, hcl⟩ := nbR c hc
          have cB := (leafU c hcm).1
          obtain ⟨S1, S2, e1, e2, c2, f2⟩ := hE c hcm (Ne.symm hcl) he2
          refine ⟨S2, ?_, c2, f2⟩
          rw [if_pos (show oI none = -1 from rfl), show oI (some c) = nI c from rfl, if_neg (m_ne1 (by omega)), F_X4_lookAt_49, e1, m_bo, if_pos (show oI none = -1 from rfl), F_X4_lookAt_67, F_X4_lookAt_156, nI_1]
          exact e2
      | some a =>
        obtain ⟨ham, hla, hx⟩ := nbL a ha
        have aB := (leafU a ham).1
        obtain ⟨S1, S2, e1, e2, c2, f2⟩ := hE a ham hla he2
        refine ⟨S2, ?_, c2, f2⟩
        rw [show oI (some a) = nI a from rfl, if_neg (m_ne1 (by omega)), F_X4_lookAt_49, e1, m_bo, if_neg (m_ne1 (by omega)), F_X4_lookAt_67, F_X4_lookAt_156, nI_1]
        exact e2
    · have hz : ¬ nI (tI T l).length = 0 := fun e => he ((nI_eq (by omega) (by omega)).mp (e.trans m_c0))
      rw [if_neg he, if_neg hz]
      exact hL (fun e => he (by rw [e]; rfl))
theorem C_lookAt {l : Nat} (hB : B ≤ 96) (hT : c_T B t S T) (hs : m_sk B 0 0 T) (hl : l ∈ tR T 0) (hv : a_lo T l) : ∃ S', F_X4_lookAt B t (nI l) S = some (.inl none, S') ∧ c_T B t S' (a_look B T l) ∧ m_fr t S S' :=
  C_lookAt_loop hB B z_n l 0 T S (by omega) (by unfold z_n; omega) hT hs hl hv
end CL
