/-! The class's tree over lists: a block taken, a node lined up, a row left, places found. -/
/-- the least free block from k on, of n -/
def m_fr0 (u : Nat → Nat) : Nat → Nat → Option Nat
  | 0, _ => none
  | n + 1, k => if u k = 0 then some k else m_fr0 u n (k + 1)
def m_free (T : m_T) (B : Nat) : Option Nat := m_fr0 (tU T) (B - 1) 1
theorem fr0_spec {u : Nat → Nat} {b : Nat} : ∀ {n k : Nat}, m_fr0 u n k = some b → k ≤ b ∧ b < k + n ∧ u b = 0
  | 0, k, h => by simp [m_fr0] at h
  | n + 1, k, h => by
    simp only [m_fr0] at h
    by_cases e : u k = 0
    · rw [if_pos e] at h
      cases h
      exact ⟨Nat.le_refl _, by omega, e⟩
    · rw [if_neg e] at h
      obtain ⟨h1, h2, h3⟩ := fr0_spec h
      exact ⟨by omega, by omega, h3⟩
def m_take (T : m_T) (b u : Nat) : m_T := (va_up T.1 b u, va_up T.2.1 b 0, va_up T.2.2.1 b [], va_up T.2.2.2.1 b [], va_up T.2.2.2.2.1 b none, T.2.2.2.2.2)
section CT3
variable {B t : Nat} {S S' : z_S} {T : m_T}
theorem C_take_loop {v : Int32} {u : Nat → Nat} (hB : B ≤ 96) (h0 : S.2.1 t 0 = nI B) (hU : ∀ b, b < B → S.1 (t + 1) b = nI (u b)) (hu : ∀ b, b < B → u b < 2 ^ 31) : ∀ (m n k : Nat), k + m = B → m < n →
    (m_fr0 u m k = none → F_X4_takeBlock_2 B t n v (nI k) S = some (.inl (some (-1)), S)) ∧
    ∀ b, m_fr0 u m k = some b → ∃ S', F_X4_takeBlock_2 B t n v (nI k) S = some (.inl (some (nI b)), S') ∧ S'.1 (t + 1) = upd (S.1 (t + 1)) b v ∧ S'.1 (t + 2) = upd (S.1 (t + 2)) b 0 ∧ S'.1 (t + 3) = upd (S.1 (t + 3)) b 0 ∧ S'.1 (t + 4) = upd (S.1 (t + 4)) b 0 ∧ S'.1 (t + 5) = upd (S.1 (t + 5)) b (-1) ∧ S'.1 (t + 6) = upd (S.1 (t + 6)) b (-1) ∧ S'.1 (t + 7) = upd (S.1 (t + 7)) b (-1) ∧ (∀ a, (a ≤ t ∨ t + 7 < a) → S'.1 a = S.1 a) ∧ S'.2 = S.2
  | 0, n, k, hk, hn => by
    refine ⟨fun _ => ?_, fun b hb => by simp [m_fr0] at hb⟩
    obtain ⟨n, rfl⟩ : ∃ m, n = m + 1 := ⟨n - 1, by omega⟩
    have e : nI B ≤ nI k := nI_le (by omega) (by omega)
    rw [F_X4_takeBlock_2, h0, if_pos e]
  | m + 1, n, k, hk, hn => by
    obtain ⟨n, rfl⟩ : ∃ m, n = m + 1 := ⟨n - 1, by omega⟩
    have e : ¬ nI B ≤ nI k := nI_ge (by omega) (by omega)
    have hA : z_inb (nI k) B = true := m_inb (by omega) (by omega)
    have x1 : (nI k).toNatClampNeg = k := nI_clamp (by omega)
    have eu := hU k (by omega)
    have hz : nI (u k) = 0 ↔ u k = 0 := by rw [m_c0]; exact nI_eq (hu k (by omega)) (by omega)
    have y1 : nI k + 1 = nI (k + 1) := nI_1 k
    by_cases huk : u k = 0
    · have hz1 : nI (u k) = 0 := hz.mpr huk
      refine ⟨fun h => by simp [m_fr0, huk] at h, fun b hb => ?_⟩
      have hb2 : k = b := by simpa [m_fr0, huk] using hb
      subst hb2
      refine ⟨_, by simp only [F_X4_takeBlock_2, h0, e, z_lt, z_gd, hA, x1, eu, hz1, if_true, if_false, m_ua1, Nat.reduceEqDiff]; rfl, ?_⟩
      refine ⟨?_, ?_, ?_, ?_, ?_, ?_, ?_, fun a ha => ?_, rfl⟩
      · simp [m_ua1]
      · simp [m_ua1]
      · simp [m_ua1]
      · simp [m_ua1]
      · simp [m_ua1]
      · simp [m_ua1]
      · simp [m_ua1]
      · have a1 : a ≠ t + 1 := by omega
        have a2 : a ≠ t + 2 := by omega
        have a3 : a ≠ t + 3 := by omega
        have a4 : a ≠ t + 4 := by omega
        have a5 : a ≠ t + 5 := by omega
        have a6 : a ≠ t + 6 := by omega
        have a7 : a ≠ t + 7 := by omega
        simp [m_ua1, a1, a2, a3, a4, a5, a6, a7]
    · have hz1 : ¬ nI (u k) = 0 := fun h => huk (hz.mp h)
      have hr : F_X4_takeBlock_2 B t (n + 1) v (nI k) S = F_X4_takeBlock_2 B t n v (nI (k + 1)) S := by
        rw [F_X4_takeBlock_2]
        simp only [h0, e, z_lt, z_gd, hA, x1, eu, hz1, if_true, if_false, y1]
      rw [hr]
      have ih := C_take_loop (v := v) (u := u) hB h0 hU hu m n (k + 1) (by omega) (by omega)
      simpa [m_fr0, huk] using ih
theorem C_takeBlock_none {v : Int32} (hB : B ≤ 96) (hB1 : 1 ≤ B) (h : c_T B t S T) (hu : ∀ b, b < B → tU T b < 2 ^ 31) (hf : m_free T B = none) : F_X4_takeBlock B t v S = some (.inl (some (-1)), S) := by
  unfold F_X4_takeBlock
  exact (C_take_loop (u := tU T) hB h.1 h.2.2.1 hu (B - 1) z_n 1 (by omega) (by unfold z_n; omega)).1 hf
theorem C_takeBlock {b v : Nat} (hB : B ≤ 96) (hB1 : 1 ≤ B) (h : c_T B t S T) (hu : ∀ b, b < B → tU T b < 2 ^ 31) (hf : m_free T B = some b) (hr : b ∉ tR T 0) :
    ∃ S', F_X4_takeBlock B t (nI v) S = some (.inl (some (nI b)), S') ∧ c_T B t S' (m_take T b v) ∧ m_fr t S S' := by
  obtain ⟨hb1, hb2, -⟩ := fr0_spec hf
  obtain ⟨S', hF, f1, f2, f3, f4, f5, f6, f7, fo, fs⟩ := (C_take_loop (v := nI v) (u := tU T) hB h.1 h.2.2.1 hu (B - 1) z_n 1 (by omega) (by unfold z_n; omega)).2 b hf
  obtain ⟨g0, g12, hU, hL, hN, hD⟩ := h
  refine ⟨S', hF, ⟨by rw [fs]; exact g0, by rw [fs]; exact g12, fun c hc => ?_, fun c hc huc => ?_, fun c hc huc => ?_, fun c hc huc => ?_⟩, fun a ha => fo a (by omega), fun a k _ => by rw [fs], by rw [fs]⟩
  · rw [f1]
    by_cases e : c = b
    · subst e; rw [pk_us]; simp [tU, m_take, va_up]
    · rw [pk_un e, hU c hc]; simp [tU, m_take, va_up, e]
  · by_cases e : c = b
    · subst e
      have e1 : tI (m_take T c v) c = [] := by simp [tI, m_take, va_up]
      rw [e1]
      exact ⟨by rw [f3, pk_us]; rfl, by rw [f4, pk_us]; rfl, m_l_nil, m_l_nil, m_l_nil, by decide⟩
    · have e1 : tI (m_take T b v) c = tI T c := by simp [tI, m_take, va_up, e]
      have e2 : tU T c = 2 := by simpa [tU, m_take, va_up, e] using huc
      rw [e1]
      obtain ⟨q3, q4, q9, q10, q11, qn⟩ := hL c hc e2
      exact ⟨by rw [f3, pk_un e]; exact q3, by rw [f4, pk_un e]; exact q4, by rw [fo (t + 9) (by omega)]; exact q9, by rw [fo (t + 10) (by omega)]; exact q10, by rw [fo (t + 11) (by omega)]; exact q11, qn⟩
  · by_cases e : c = b
    · subst e
      have e1 : tK (m_take T c v) c = [] := by simp [tK, m_take, va_up]
      rw [e1]
      exact ⟨by rw [f3, pk_us]; rfl, by rw [f4, pk_us]; rfl, m_l_nil, by decide⟩
    · have e1 : tK (m_take T b v) c = tK T c := by simp [tK, m_take, va_up, e]
      have e2 : tU T c = 3 := by simpa [tU, m_take, va_up, e] using huc
      rw [e1]
      obtain ⟨q3, q4, q8, qn⟩ := hN c hc e2
      exact ⟨by rw [f3, pk_un e]; exact q3, by rw [f4, pk_un e]; exact q4, by rw [fo (t + 8) (by omega)]; exact q8, qn⟩
  · by_cases e : c = b
    · subst e
      have e1 : tH (m_take T c v) c = 0 := by simp [tH, m_take, va_up]
      have e2 : tP (m_take T c v) c = none := by simp [tP, m_take, va_up]
      have e3 : tR (m_take T c v) 0 = tR T 0 := rfl
      refine ⟨?_, ?_, ?_, ?_⟩
      · rw [f2, pk_us, e1]; rfl
      · rw [f5, pk_us, e2]; rfl
      · rw [f6, pk_us, e1, e3, pv_none hr]; rfl
      · rw [f7, pk_us, e1, e3, nx_none hr]; rfl
    · have e1 : tH (m_take T b v) c = tH T c := by simp [tH, m_take, va_up, e]
      have e2 : tP (m_take T b v) c = tP T c := by simp [tP, m_take, va_up, e]
      have e3 : tR (m_take T b v) = tR T := rfl
      have e4 : tU T c = 2 ∨ tU T c = 3 := by simpa [tU, m_take, va_up, e] using huc
      obtain ⟨q2, q5, q6, q7⟩ := hD c hc e4
      refine ⟨?_, ?_, ?_, ?_⟩
      · rw [f2, pk_un e, e1]; exact q2
      · rw [f5, pk_un e, e2]; exact q5
      · rw [f6, pk_un e, e1, e3]; exact q6
      · rw [f7, pk_un e, e1, e3]; exact q7
/-- what stands outside the links of a row -/
theorem c_T_row {h : Nat} {L : List Nat} (hT : c_T B t S T) (f6 : ∀ b, b < B → (tU T b = 2 ∨ tU T b = 3) → S'.1 (t + 6) b = if tH T b = h then oI (m_pv L b) else S.1 (t + 6) b) (f7 : ∀ b, b < B → (tU T b = 2 ∨ tU T b = 3) → S'.1 (t + 7) b = if tH T b = h then oI (m_nx L b) else S.1 (t + 7) b) (fo : ∀ a, a ≠ t + 6 → a ≠ t + 7 → S'.1 a = S.1 a) (f2 : S'.2 = S.2) : c_T B t S' (tsR T h L) := by
  obtain ⟨g0, g12, hU, hL, hN, hD⟩ := hT
  have e1 := fo (t + 1) (by omega) (by omega); have e2 := fo (t + 2) (by omega) (by omega); have e3 := fo (t + 3) (by omega) (by omega); have e4 := fo (t + 4) (by omega) (by omega); have e5 := fo (t + 5) (by omega) (by omega); have e8 := fo (t + 8) (by omega) (by omega); have e9 := fo (t + 9) (by omega) (by omega); have e10 := fo (t + 10) (by omega) (by omega); have e11 := fo (t + 11) (by omega) (by omega)
  refine ⟨by rw [f2]; exact g0, by rw [f2]; exact g12, fun b hb => by rw [e1]; exact hU b hb, fun b hb hub => ?_, fun b hb hub => ?_, fun b hb hub => ?_⟩
  · obtain ⟨q3, q4, q9, q10, q11, qn⟩ := hL b hb hub
    exact ⟨by rw [e3]; exact q3, by rw [e4]; exact q4, by rw [e9]; exact q9, by rw [e10]; exact q10, by rw [e11]; exact q11, qn⟩
  · obtain ⟨q3, q4, q8, qn⟩ := hN b hb hub
    exact ⟨by rw [e3]; exact q3, by rw [e4]; exact q4, by rw [e8]; exact q8, qn⟩
  · obtain ⟨q2, q5, q6, q7⟩ := hD b hb hub
    have k1 : tH (tsR T h L) b = tH T b := rfl
    refine ⟨by rw [e2]; exact q2, by rw [e5]; exact q5, ?_, ?_⟩
    · rw [f6 b hb hub, k1]
      by_cases e : tH T b = h
      · rw [if_pos e]; simp [tR, tsR, va_up, e]
      · rw [if_neg e, q6]; simp [tR, tsR, va_up, e]
    · rw [f7 b hb hub, k1]
      by_cases e : tH T b = h
      · rw [if_pos e]; simp [tR, tsR, va_up, e]
      · rw [if_neg e, q7]; simp [tR, tsR, va_up, e]
theorem C_joinRow {h f n : Nat} (hB : B ≤ 96) (hT : c_T B t S T) (hf : f < B) (hn : n < B) (uf : tU T f = 2 ∨ tU T f = 3) (un : tU T n = 2 ∨ tU T n = 3) (hhf : tH T f = h) (hhn : tH T n = h) (hd : (tR T h).Nodup) (hm : n ∈ tR T h) (hx : f ∉ tR T h) (hr : ∀ x ∈ tR T h, x < B ∧ tH T x = h) :
    ∃ S', F_X4_joinRow B t (nI f) (nI n) S = some (.inl none, S') ∧ c_T B t S' (tsR T h (m_insA n f (tR T h))) ∧ m_fr t S S' := by
  have hfn : f ≠ n := fun e => hx (by rw [e]; exact hm)
  have q7 : S.1 (t + 7) n = oI (m_nx (tR T h) n) := by have := (hT.2.2.2.2.2 n hn un).2.2.2; rw [hhn] at this; exact this
  have hAf : z_inb (nI f) B = true := m_inb hf (by omega)
  have hAn : z_inb (nI n) B = true := m_inb hn (by omega)
  have xf : (nI f).toNatClampNeg = f := nI_clamp (by omega)
  have xn : (nI n).toNatClampNeg = n := nI_clamp (by omega)
  cases hnx : m_nx (tR T h) n with
  | none =>
    rw [hnx] at q7
    have q7' : S.1 (t + 7) n = -1 := q7
    obtain ⟨S', hF, f6, f7, fo, f2⟩ : ∃ S', F_X4_joinRow B t (nI f) (nI n) S = some (.inl none, S') ∧ S'.1 (t + 6) = upd (S.1 (t + 6)) f (nI n) ∧ S'.1 (t + 7) = upd (upd (S.1 (t + 7)) f (-1)) n (nI f) ∧ (∀ a, a ≠ t + 6 → a ≠ t + 7 → S'.1 a = S.1 a) ∧ S'.2 = S.2 := by
      refine ⟨_, by simp only [F_X4_joinRow, F_X4_joinRow_40, z_lt, z_gd, hAf, hAn, xf, xn, q7', m_ua1, if_true, if_false, Nat.reduceEqDiff]; rfl, ?_⟩
      refine ⟨?_, ?_, fun a a1 a2 => ?_, rfl⟩
      · simp [m_ua1]
      · simp [m_ua1]
      · simp [m_ua1, a1, a2]
    refine ⟨S', hF, c_T_row hT (fun b hb ub => ?_) (fun b hb ub => ?_) fo f2, fun a ha => fo a (by omega) (by omega), fun a k _ => by rw [f2], by rw [f2]⟩
    · obtain ⟨-, -, q6b, -⟩ := hT.2.2.2.2.2 b hb ub
      rw [f6, pv_insA hd hm hx, hnx]
      by_cases e : b = f
      · subst e; rw [pk_us, if_pos hhf, if_pos rfl]; rfl
      · rw [pk_un e, if_neg e, if_neg (fun z : (none : Option Nat) = some b => by cases z), q6b]
        by_cases eh : tH T b = h
        · rw [if_pos eh, eh]
        · rw [if_neg eh]
    · obtain ⟨-, -, -, q7b⟩ := hT.2.2.2.2.2 b hb ub
      rw [f7, nx_insA hd hm hx, hnx]
      by_cases e : b = n
      · subst e; rw [pk_us, if_pos hhn, if_pos rfl]; rfl
      · rw [pk_un e, if_neg e]
        by_cases e2 : b = f
        · subst e2; rw [pk_us, if_pos hhf, if_pos rfl]; rfl
        · rw [pk_un e2, if_neg e2, q7b]
          by_cases eh : tH T b = h
          · rw [if_pos eh, eh]
          · rw [if_neg eh]
  | some c =>
    rw [hnx] at q7
    have q7' : S.1 (t + 7) n = nI c := q7
    have hcm : c ∈ tR T h := List.mem_of_mem_tail (nx_mem hnx)
    obtain ⟨hc, hhc⟩ := hr c hcm
    have hAc : z_inb (nI c) B = true := m_inb hc (by omega)
    have xc : (nI c).toNatClampNeg = c := nI_clamp (by omega)
    have hc1 : ¬ nI c = -1 := m_ne1 (by omega)
    obtain ⟨S', hF, f6, f7, fo, f2⟩ : ∃ S', F_X4_joinRow B t (nI f) (nI n) S = some (.inl none, S') ∧ S'.1 (t + 6) = upd (upd (S.1 (t + 6)) f (nI n)) c (nI f) ∧ S'.1 (t + 7) = upd (upd (S.1 (t + 7)) f (nI c)) n (nI f) ∧ (∀ a, a ≠ t + 6 → a ≠ t + 7 → S'.1 a = S.1 a) ∧ S'.2 = S.2 := by
      refine ⟨_, by simp only [F_X4_joinRow, F_X4_joinRow_40, z_lt, z_gd, hAf, hAn, hAc, xf, xn, xc, q7', hc1, m_ua1, if_true, if_false, Nat.reduceEqDiff]; rfl, ?_⟩
      refine ⟨?_, ?_, fun a a1 a2 => ?_, rfl⟩
      · simp [m_ua1]
      · simp [m_ua1]
      · simp [m_ua1, a1, a2]
    refine ⟨S', hF, c_T_row hT (fun b hb ub => ?_) (fun b hb ub => ?_) fo f2, fun a ha => fo a (by omega) (by omega), fun a k _ => by rw [f2], by rw [f2]⟩
    · obtain ⟨-, -, q6b, -⟩ := hT.2.2.2.2.2 b hb ub
      rw [f6, pv_insA hd hm hx, hnx]
      by_cases ec : b = c
      · subst ec
        rw [pk_us, if_pos hhc, if_neg (fun e => hx (by rw [← e]; exact hcm)), if_pos rfl]; rfl
      · rw [pk_un ec]
        by_cases e : b = f
        · subst e; rw [pk_us, if_pos hhf, if_pos rfl]; rfl
        · rw [pk_un e, if_neg e, if_neg (fun z => ec (Option.some.inj z).symm), q6b]
          by_cases eh : tH T b = h
          · rw [if_pos eh, eh]
          · rw [if_neg eh]
    · obtain ⟨-, -, -, q7b⟩ := hT.2.2.2.2.2 b hb ub
      rw [f7, nx_insA hd hm hx, hnx]
      by_cases e : b = n
      · subst e; rw [pk_us, if_pos hhn, if_pos rfl]; rfl
      · rw [pk_un e, if_neg e]
        by_cases e2 : b = f
        · subst e2; rw [pk_us, if_pos hhf, if_pos rfl]; rfl
        · rw [pk_un e2, if_neg e2, q7b]
          by_cases eh : tH T b = h
          · rw [if_pos eh, eh]
          · rw [if_neg eh]
/-- what a search in a row of numbers answers -/
theorem C_placeOf_loop {p c : Nat} {L : List Nat} (hB : B ≤ 96) (hp : p < B) (h3 : S.1 (t + 3) p = nI L.length) (h8 : m_l (S.1 (t + 8)) (p * 6) (L.map nI)) (hn : L.length ≤ 6) (hc : c < 2 ^ 31) (hl : ∀ x ∈ L, x < 2 ^ 31) : ∀ (m n i : Nat), i + m = L.length → m < n → F_X4_placeOf_2 B t n (nI c) (nI p) (nI i) S = some (.inl (some (nI (i + (L.drop i).idxOf c))), S)
  | 0, n, i, hi, hm => by
    obtain ⟨n, rfl⟩ : ∃ m, n = m + 1 := ⟨n - 1, by omega⟩
    have hA : z_inb (nI p) B = true := m_inb hp (by omega)
    have x1 : (nI p).toNatClampNeg = p := nI_clamp (by omega)
    have e : nI L.length ≤ nI i := nI_le (by omega) (by omega)
    have ed : L.drop i = [] := List.drop_eq_nil_of_le (by omega)
    rw [ed]
    simp only [F_X4_placeOf_2, F_X4_placeOf_33, z_lt, z_gd, hA, x1, h3, e, if_true, List.idxOf_nil, Nat.add_zero]
  | m + 1, n, i, hi, hm => by
    obtain ⟨n, rfl⟩ : ∃ m, n = m + 1 := ⟨n - 1, by omega⟩
    have hA : z_inb (nI p) B = true := m_inb hp (by omega)
    have x1 : (nI p).toNatClampNeg = p := nI_clamp (by omega)
    have e : ¬ nI L.length ≤ nI i := nI_ge (by omega) (by omega)
    have hx : nI p * 6 + nI i = nI (p * 6 + i) := by rw [m_c6, pk_mul, nI_add]
    have hj : z_inb (nI (p * 6 + i)) (6 * B) = true := m_inb (by omega) (by omega)
    have x2 : (nI (p * 6 + i)).toNatClampNeg = p * 6 + i := nI_clamp (by omega)
    have hil : i < L.length := by omega
    have e8 : S.1 (t + 8) (p * 6 + i) = nI L[i] := h8 i _ (by rw [List.getElem?_map, List.getElem?_eq_getElem hil]; rfl)
    have hz : nI L[i] = nI c ↔ L[i] = c := nI_eq (hl _ (List.getElem_mem hil)) hc
    have y1 : nI i + 1 = nI (i + 1) := nI_1 i
    have ed : L.drop i = L[i] :: L.drop (i + 1) := List.drop_eq_getElem_cons hil
    rw [ed]
    by_cases hlc : L[i] = c
    · have hz1 : nI L[i] = nI c := hz.mpr hlc
      simp only [F_X4_placeOf_2, F_X4_placeOf_33, z_lt, z_gd, hA, x1, h3, e, hx, hj, x2, e8, hz1, if_true, if_false]
      rw [List.idxOf_cons, hlc]
      simp
    · have hz1 : ¬ nI L[i] = nI c := fun h => hlc (hz.mp h)
      have hr : F_X4_placeOf_2 B t (n + 1) (nI c) (nI p) (nI i) S = F_X4_placeOf_2 B t n (nI c) (nI p) (nI (i + 1)) S := by
        rw [F_X4_placeOf_2]
        simp only [z_lt, z_gd, hA, x1, h3, e, hx, hj, x2, e8, hz1, if_true, if_false, y1]
      rw [hr, C_placeOf_loop hB hp h3 h8 hn hc hl m n (i + 1) (by omega) (by omega), List.idxOf_cons]
      have hb : (L[i] == c) = false := by simpa using hlc
      rw [hb]
      simp only [cond_false]
      congr 5
      omega
theorem C_placeOf {p c : Nat} (hB : B ≤ 96) (hT : c_T B t S T) (hp : p < B) (up : tU T p = 3) (hc : c < 2 ^ 31) (hl : ∀ x ∈ tK T p, x < 2 ^ 31) : F_X4_placeOf B t (nI c) (nI p) S = some (.inl (some (nI ((tK T p).idxOf c))), S) := by
  obtain ⟨q3, q4, q8, qn⟩ := hT.2.2.2.2.1 p hp up
  have := C_placeOf_loop (c := c) hB hp q3 q8 qn hc hl (tK T p).length z_n 0 (by omega) (by unfold z_n; omega)
  simpa [F_X4_placeOf, nI_0] using this
/-- how many items of a leaf are before a key -/
def m_bef (L : List m_It) (k : Nat) : Nat := (L.takeWhile fun x => decide (x.1 < k)).length
theorem C_placeIn_loop {l k : Nat} {L : List m_It} (hB : B ≤ 96) (hl : l < B) (h3 : S.1 (t + 3) l = nI L.length) (h9 : m_l (S.1 (t + 9)) (l * 14) (L.map fun x => nI x.1)) (hn : L.length ≤ 14) (hk : k < 2 ^ 31) (hx : ∀ x ∈ L, x.1 < 2 ^ 31) : ∀ (m n i : Nat), i + m = L.length → m < n → F_X4_placeIn_2 B t n (nI l) (nI k) (nI i) S = some (.inl (some (nI (i + m_bef (L.drop i) k))), S)
  | 0, n, i, hi, hm => by
    obtain ⟨n, rfl⟩ : ∃ m, n = m + 1 := ⟨n - 1, by omega⟩
    have hA : z_inb (nI l) B = true := m_inb hl (by omega)
    have x1 : (nI l).toNatClampNeg = l := nI_clamp (by omega)
    have e : nI L.length ≤ nI i := nI_le (by omega) (by omega)
    have ed : L.drop i = [] := List.drop_eq_nil_of_le (by omega)
    rw [ed]
    simp only [F_X4_placeIn_2, F_X4_placeIn_33, z_lt, z_gd, hA, x1, h3, e, if_true, m_bef, List.takeWhile_nil, List.length_nil, Nat.add_zero]
  | m + 1, n, i, hi, hm => by
    obtain ⟨n, rfl⟩ : ∃ m, n = m + 1 := ⟨n - 1, by omega⟩
    have hA : z_inb (nI l) B = true := m_inb hl (by omega)
    have x1 : (nI l).toNatClampNeg = l := nI_clamp (by omega)
    have e : ¬ nI L.length ≤ nI i := nI_ge (by omega) (by omega)
    have hxx : nI l * 14 + nI i = nI (l * 14 + i) := by rw [m_c14, pk_mul, nI_add]
    have hj : z_inb (nI (l * 14 + i)) (14 * B) = true := m_inb (by omega) (by omega)
    have x2 : (nI (l * 14 + i)).toNatClampNeg = l * 14 + i := nI_clamp (by omega)
    have hil : i < L.length := by omega
    have e9 : S.1 (t + 9) (l * 14 + i) = nI L[i].1 := h9 i _ (by rw [List.getElem?_map, List.getElem?_eq_getElem hil]; rfl)
    have hz : nI k ≤ nI L[i].1 ↔ k ≤ L[i].1 := nI_leI hk (hx _ (List.getElem_mem hil))
    have y1 : nI i + 1 = nI (i + 1) := nI_1 i
    have ed : L.drop i = L[i] :: L.drop (i + 1) := List.drop_eq_getElem_cons hil
    rw [ed]
    by_cases hlc : k ≤ L[i].1
    · have hz1 := hz.mpr hlc
      have hd : decide (L[i].1 < k) = false := decide_eq_false (by omega)
      simp only [F_X4_placeIn_2, F_X4_placeIn_33, z_lt, z_gd, hA, x1, h3, e, hxx, hj, x2, e9, hz1, if_true, if_false, m_bef, List.takeWhile_cons, hd, List.length_nil, Nat.add_zero, Bool.false_eq_true]
    · have hz1 : ¬ nI k ≤ nI L[i].1 := fun h => hlc (hz.mp h)
      have hd : decide (L[i].1 < k) = true := decide_eq_true (by omega)
      have hr : F_X4_placeIn_2 B t (n + 1) (nI l) (nI k) (nI i) S = F_X4_placeIn_2 B t n (nI l) (nI k) (nI (i + 1)) S := by
        rw [F_X4_placeIn_2]
        simp only [z_lt, z_gd, hA, x1, h3, e, hxx, hj, x2, e9, hz1, if_true, if_false, y1]
      rw [hr, C_placeIn_loop hB hl h3 h9 hn hk hx m n (i + 1) (by omega) (by omega)]
      simp only [m_bef, List.takeWhile_cons, hd, if_true, List.length_cons]
      congr 5
      omega
theorem C_placeIn {l k : Nat} (hB : B ≤ 96) (hT : c_T B t S T) (hl : l < B) (ul : tU T l = 2) (hk : k < 2 ^ 31) (hx : ∀ x ∈ tI T l, x.1 < 2 ^ 31) : F_X4_placeIn B t (nI l) (nI k) S = some (.inl (some (nI (m_bef (tI T l) k))), S) := by
  obtain ⟨q3, q4, q9, q10, q11, qn⟩ := hT.2.2.2.1 l hl ul
  have := C_placeIn_loop (k := k) hB hl q3 q9 qn hk hx (tI T l).length z_n 0 (by omega) (by unfold z_n; omega)
  simpa [F_X4_placeIn, nI_0] using this
end CT3
