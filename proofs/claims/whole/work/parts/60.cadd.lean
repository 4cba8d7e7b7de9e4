/-! The class: a node added is the abstract one. -/
section CA
variable {B t : Nat} {S S' : z_S} {T T' : m_T}
theorem c_T_ext (h : c_T B t S T) (eU : tU T' = tU T) (eX : tX T' = tX T) (eI : ∀ b, b < B → tU T b = 2 → tI T' b = tI T b) (eK : ∀ b, b < B → tU T b = 3 → tK T' b = tK T b) (eH : ∀ b, b < B → (tU T b = 2 ∨ tU T b = 3) → tH T' b = tH T b) (eP : ∀ b, b < B → (tU T b = 2 ∨ tU T b = 3) → tP T' b = tP T b) (eR : ∀ b, b < B → (tU T b = 2 ∨ tU T b = 3) → m_pv (tR T' (tH T b)) b = m_pv (tR T (tH T b)) b ∧ m_nx (tR T' (tH T b)) b = m_nx (tR T (tH T b)) b) : c_T B t S T' := by
  obtain ⟨g0, g12, hU, hL, hN, hD⟩ := h
  refine ⟨g0, by rw [eX]; exact g12, by rw [eU]; exact hU, fun b hb hu => ?_, fun b hb hu => ?_, fun b hb hu => ?_⟩
  · rw [eU] at hu; rw [eI b hb hu]; exact hL b hb hu
  · rw [eU] at hu; rw [eK b hb hu]; exact hN b hb hu
  · rw [eU] at hu
    obtain ⟨q2, q5, q6, q7⟩ := hD b hb hu
    refine ⟨by rw [eH b hb hu]; exact q2, by rw [eP b hb hu]; exact q5, ?_, ?_⟩
    · rw [eH b hb hu, (eR b hb hu).1]; exact q6
    · rw [eH b hb hu, (eR b hb hu).2]; exact q7
theorem c_T_root {r : Nat} (h : c_T B t S T) : c_T B t (z_ui S t 12 (nI r)) (tsX T r) := by
  obtain ⟨g0, g12, hU, hL, hN, hD⟩ := h
  refine ⟨?_, ?_, hU, hL, hN, hD⟩
  · rw [m_ui2, if_pos rfl, if_neg (by decide)]; exact g0
  · rw [m_ui2, if_pos rfl, if_pos rfl]; rfl
theorem c_T_free {b : Nat} (h : c_T B t S T) : c_T B t (z_ua S (t + 1) (upd (S.1 (t + 1)) b 0)) (tsU T b 0) := by
  obtain ⟨g0, g12, hU, hL, hN, hD⟩ := h
  have fo : ∀ a, a ≠ t + 1 → (z_ua S (t + 1) (upd (S.1 (t + 1)) b 0)).1 a = S.1 a := fun a ha => by rw [m_ua1, if_neg ha]
  have hne : ∀ c, (tU (tsU T b 0) c = 2 ∨ tU (tsU T b 0) c = 3) → tU T c = tU (tsU T b 0) c := fun c hc => by
    by_cases e : c = b
    · rw [e, show tU (tsU T b 0) b = 0 from l_up_s] at hc; rcases hc with z | z <;> cases z
    · exact (l_up_n (f := tU T) (v := 0) e).symm
  refine ⟨g0, g12, fun c hc => ?_, fun c hc hu => ?_, fun c hc hu => ?_, fun c hc hu => ?_⟩
  · rw [m_ua1, if_pos rfl]
    by_cases e : c = b
    · rw [e, pk_us, show tU (tsU T b 0) b = 0 from l_up_s]; rfl
    · rw [pk_un e, hU c hc, show tU (tsU T b 0) c = tU T c from l_up_n e]
  · obtain ⟨q3, q4, q9, q10, q11, qn⟩ := hL c hc (by rw [hne c (Or.inl hu)]; exact hu)
    exact ⟨by rw [fo _ (by omega)]; exact q3, by rw [fo _ (by omega)]; exact q4, by rw [fo _ (by omega)]; exact q9, by rw [fo _ (by omega)]; exact q10, by rw [fo _ (by omega)]; exact q11, qn⟩
  · obtain ⟨q3, q4, q8, qn⟩ := hN c hc (by rw [hne c (Or.inr hu)]; exact hu)
    exact ⟨by rw [fo _ (by omega)]; exact q3, by rw [fo _ (by omega)]; exact q4, by rw [fo _ (by omega)]; exact q8, qn⟩
  · obtain ⟨q2, q5, q6, q7⟩ := hD c hc (by rw [hne c hu]; exact hu)
    exact ⟨by rw [fo _ (by omega)]; exact q2, by rw [fo _ (by omega)]; exact q5, by rw [fo _ (by omega)]; exact q6, by rw [fo _ (by omega)]; exact q7⟩
theorem C_setH {b h : Nat} (hT : c_T B t S T) (h1 : b ∉ tR T (tH T b)) (h2 : b ∉ tR T h) : c_T B t (z_ua S (t + 2) (upd (S.1 (t + 2)) b (nI h))) (tsH T b h) := by
  obtain ⟨g0, g12, hU, hL, hN, hD⟩ := hT
  have fo : ∀ a, a ≠ t + 2 → (z_ua S (t + 2) (upd (S.1 (t + 2)) b (nI h))).1 a = S.1 a := fun a ha => by rw [m_ua1, if_neg ha]
  refine ⟨g0, g12, fun c hc => ?_, fun c hc hu => ?_, fun c hc hu => ?_, fun c hc hu => ?_⟩
  · rw [fo _ (by omega)]; exact hU c hc
  · obtain ⟨q3, q4, q9, q10, q11, qn⟩ := hL c hc hu
    exact ⟨by rw [fo _ (by omega)]; exact q3, by rw [fo _ (by omega)]; exact q4, by rw [fo _ (by omega)]; exact q9, by rw [fo _ (by omega)]; exact q10, by rw [fo _ (by omega)]; exact q11, qn⟩
  · obtain ⟨q3, q4, q8, qn⟩ := hN c hc hu
    exact ⟨by rw [fo _ (by omega)]; exact q3, by rw [fo _ (by omega)]; exact q4, by rw [fo _ (by omega)]; exact q8, qn⟩
  · obtain ⟨q2, q5, q6, q7⟩ := hD c hc hu
    by_cases e : c = b
    · subst e
      have eh : tH (tsH T c h) c = h := l_up_s
      refine ⟨by rw [m_ua1, if_pos rfl, pk_us, eh], by rw [fo _ (by omega)]; exact q5, ?_, ?_⟩
      · rw [fo _ (by omega), q6, eh, pv_none h1, show tR (tsH T c h) h = tR T h from rfl, pv_none h2]
      · rw [fo _ (by omega), q7, eh, nx_none h1, show tR (tsH T c h) h = tR T h from rfl, nx_none h2]
    · have eh : tH (tsH T b h) c = tH T c := l_up_n e
      refine ⟨by rw [m_ua1, if_pos rfl, pk_un e, eh]; exact q2, by rw [fo _ (by omega)]; exact q5, ?_, ?_⟩
      · rw [fo _ (by omega), q6, eh]; rfl
      · rw [fo _ (by omega), q7, eh]; rfl
theorem c_mem {p : Nat} (hT : c_T B t S T) (hp : p < B) (up : tU T p = 3) : S.1 (t + 3) p = nI (tK T p).length := (hT.2.2.2.2.1 p hp up).1
/-- addRoot -/
theorem C_addRoot {h o x : Nat} (hB : B ≤ 96) (hT : c_T B t S T) (hs : m_sk B x 0 T) (ho : o ∈ tR T h) (hx : x ∈ tR T h) (hn : m_nx (tR T h) o = some x) (hp : tP T o = none) :
    (m_free T B = none → F_X4_addRoot B t (nI o) (nI x) S = some (.inl (some 0), S)) ∧ (∀ r, m_free T B = some r → ∃ S', F_X4_addRoot B t (nI o) (nI x) S = some (.inl (some 1), S') ∧ c_T B t S' (a_root T r o x) ∧ m_fr t S S') := by
  have hu : ∀ b, b < B → tU T b < 2 ^ 31 := fun b hb => by have := hs.2.2.2.2.2.2.2.2.2.2.2 b hb; omega
  have hrb := sk_rb hs
  obtain ⟨o1, o2, o3, o4⟩ := hs.2.2.2.1 h o ho
  obtain ⟨x1, x2, x3, x4⟩ := hs.2.2.2.1 h x hx
  have hox : o ≠ x := (l_nx_split (hs.2.2.2.2.2.1 h) hn).elim fun A w => w.elim fun C z => z.2.2.2.2.2
  constructor
  · intro hf
    unfold F_X4_addRoot
    rw [C_takeBlock_none hB (by omega) hT hu hf, m_bn, if_pos rfl, m_gd (by decide)]
  · intro r hf
    have hr := free_ok hf
    have hrn : ∀ g, r ∉ tR T g := fun g => sk_fr hs hr.2.2
    have hro : r ≠ o := fun e => hrn h (e ▸ ho)
    have hrx : r ≠ x := fun e => hrn h (e ▸ hx)
    obtain ⟨S2, e2, c2, f2⟩ := C_takeBlock (v := 3) hB (by omega) hT hu hf (hrn 0)
    have uo : tU (m_take T r 3) o = tU T o := l_up_n (Ne.symm hro)
    have ux : tU (m_take T r 3) x = tU T x := l_up_n (Ne.symm hrx)
    have ur : tU (m_take T r 3) r = 3 := l_up_s
    have hoo : tU T o = 2 ∨ tU T o = 3 := by rw [o4]; split <;> simp
    have eh : S2.1 (t + 2) o = nI h := by
      rw [(c2.2.2.2.2.2 o o2 (by rw [uo]; exact hoo)).1, show tH (m_take T r 3) o = tH T o from l_up_n (Ne.symm hro), o3]
    have eo : tH T o + 1 = h + 1 := by rw [o3]
    have c3 := C_setH (b := r) (h := h + 1) c2 (by rw [show tH (m_take T r 3) r = 0 from l_up_s]; exact hrn 0) (hrn _)
    obtain ⟨S4, e4, c4, f4⟩ := C_openChild (p := r) (i := 0) (c := o) hB c3 hr.2.1 ur o2 (Nat.zero_le _) (by rw [show tK (tsH (m_take T r 3) r (h + 1)) r = [] from l_up_s]; decide)
    have k4 : tK (tsH (m_take T r 3) r (h + 1)) r = [] := l_up_s
    rw [k4] at c4
    have c4' : c_T B t S4 (tsP (tsK (tsH (m_take T r 3) r (h + 1)) r [o]) o (some r)) := c4
    obtain ⟨S5, e5, c5, f5⟩ := C_openChild (p := r) (i := 1) (c := x) hB c4' hr.2.1 ur x2 (by rw [show tK (tsP (tsK (tsH (m_take T r 3) r (h + 1)) r [o]) o (some r)) r = [o] from l_up_s]; simp) (by rw [show tK (tsP (tsK (tsH (m_take T r 3) r (h + 1)) r [o]) o (some r)) r = [o] from l_up_s]; simp)
    have k5 : tK (tsP (tsK (tsH (m_take T r 3) r (h + 1)) r [o]) o (some r)) r = [o] := l_up_s
    rw [k5] at c5
    have c5' : c_T B t S5 (tsP (tsK (tsP (tsK (tsH (m_take T r 3) r (h + 1)) r [o]) o (some r)) r [o, x]) x (some r)) := c5
    have c6 := c_T_root (r := r) c5'
    refine ⟨z_ui S5 t 12 (nI r), ?_, c_T_ext c6 rfl rfl (fun _ _ _ => rfl) (fun _ _ _ => ?_) (fun b hb hub => ?_) (fun _ _ _ => rfl) (fun b hb hub => ?_), m_fr_tr f2 (m_fr_tr (m_fr_ua (by omega)) (m_fr_tr f4 (m_fr_tr f5 m_fr_root)))⟩
    · unfold F_X4_addRoot
      have e2' : F_X4_takeBlock B t 3 S = some (.inl (some (nI r)), S2) := e2
      rw [e2', m_bn, if_neg (m_ne1 (by omega)), m_gd (m_inb o2 (by omega)), m_lt, m_ix (i := o) (by omega), eh, m_gd (m_inb hr.2.1 (by omega)), m_lt, m_ix (i := r) (by omega), nI_1]
      have e4' : F_X4_openChild B t (nI r) 0 (nI o) (z_ua S2 (t + 2) (upd (S2.1 (t + 2)) r (nI (h + 1)))) = some (.inl none, S4) := e4
      have e5' : F_X4_openChild B t (nI r) 1 (nI x) S4 = some (.inl none, S5) := e5
      rw [e4', m_bo, e5', m_bo, m_lt, m_gd (by decide)]
    · rfl
    · show tH (a_root T r o x) b = va_up (va_up (tH T) r 0) r (h + 1) b
      rw [← o3]; rfl
    · have ehb : ∀ z, tH (tsX (tsP (tsK (tsP (tsK (tsH (m_take T r 3) r (h + 1)) r [o]) o (some r)) r [o, x]) x (some r)) r) z = va_up (va_up (tH T) r 0) r (h + 1) z := fun _ => rfl
      rw [ehb]
      have eR0 : tR (a_root T r o x) = va_up (tR T) (h + 1) [r] := by rw [← o3]; rfl
      rw [eR0]
      have eR1 : tR (tsX (tsP (tsK (tsP (tsK (tsH (m_take T r 3) r (h + 1)) r [o]) o (some r)) r [o, x]) x (some r)) r) = tR T := rfl
      rw [eR1]
      have hH := (sk_newroot hB hs ho hx hn hp hr).2.1
      by_cases e : b = r
      · subst e
        rw [l_up_s, l_up_s, pv_none (hrn _), nx_none (hrn _)]
        exact ⟨rfl, rfl⟩
      · rw [l_up_n e, l_up_n e]
        have hub2 : tU T b = 2 ∨ tU T b = 3 := by
          have : tU (tsX (tsP (tsK (tsP (tsK (tsH (m_take T r 3) r (h + 1)) r [o]) o (some r)) r [o, x]) x (some r)) r) b = tU T b := l_up_n e
          rw [this] at hub; exact hub
        have hbR := hs.2.2.2.2.1 b hb hub2
        have hle := sk_le hs hbR
        rw [l_up_n (by omega)]
        exact ⟨rfl, rfl⟩
theorem up4 {α : Type} {f : Nat → α} {p q : Nat} {a b c d : α} (h : p ≠ q) : va_up (va_up (va_up (va_up f p a) q b) p c) q d = va_up (va_up f p c) q d := by
  funext j
  simp only [va_up]
  by_cases h1 : j = q
  · rw [if_pos h1, if_pos h1]
  · rw [if_neg h1, if_neg h1]
    by_cases h2 : j = p
    · simp [h1, h2, h]
    · simp [h1, h2]
theorem h3_eq {p q c0 c1 c2 c3 c4 c5 : Nat} (h : p ≠ q) : tsP (tsK (tsK (tsP (tsK (tsK (tsP (tsK (tsK T p [c0, c1, c2, c3, c4]) q [c5]) c5 (some q)) p [c0, c1, c2, c3]) q [c4, c5]) c4 (some q)) p [c0, c1, c2]) q [c3, c4, c5]) c3 (some q) = a_h3 T p q c0 c1 c2 c3 c4 c5 := by
  have e : va_up (va_up (va_up (va_up (va_up (va_up T.2.2.2.1 p [c0, c1, c2, c3, c4]) q [c5]) p [c0, c1, c2, c3]) q [c4, c5]) p [c0, c1, c2]) q [c3, c4, c5] = va_up (va_up T.2.2.2.1 p [c0, c1, c2]) q [c3, c4, c5] := by rw [up4 h, up4 h]
  simp only [tsP, tsK, a_h3, e]
/-- the split -/
theorem C_half {p q c0 c1 c2 c3 c4 c5 n : Nat} {v5 : Int32} {k : Int32 → Int32 → Int32 → z_S → Option (z_O × z_S)} (hB : B ≤ 96) (hT : c_T B t S T) (hp : p < B) (hq : q < B) (hpq : p ≠ q) (up : tU T p = 3) (uq : tU T q = 3) (hk : tK T p = [c0, c1, c2, c3, c4, c5]) (hkq : tK T q = []) (hc : c3 < B ∧ c4 < B ∧ c5 < B) :
    ∃ S', F_X4_addNode_107 B t k (n + 4) v5 (nI p) (nI q) 0 S = k (nI q) (nI p) (v5 + 1) S' ∧ c_T B t S' (a_h3 T p q c0 c1 c2 c3 c4 c5) ∧ m_fr t S S' := by
  have i1 : z_inb (nI p) B = true := m_inb hp (by omega)
  obtain ⟨S1, e1, d1, f1⟩ := C_shiftChild (i := 5) (j := 0) (c := c5) hB hT hp hq hc.2.2 hpq up uq (by rw [hk]; rfl) (Nat.zero_le _) (by rw [hkq]; decide)
  rw [hk, hkq] at d1
  have d1' : c_T B t S1 (tsP (tsK (tsK T p [c0, c1, c2, c3, c4]) q [c5]) c5 (some q)) := d1
  have k1p : tK (tsP (tsK (tsK T p [c0, c1, c2, c3, c4]) q [c5]) c5 (some q)) p = [c0, c1, c2, c3, c4] := by
    show va_up (va_up (tK T) p [c0, c1, c2, c3, c4]) q [c5] p = _
    rw [l_up_n hpq, l_up_s]
  have k1q : tK (tsP (tsK (tsK T p [c0, c1, c2, c3, c4]) q [c5]) c5 (some q)) q = [c5] := l_up_s
  obtain ⟨S2, e2, d2, f2⟩ := C_shiftChild (i := 4) (j := 0) (c := c4) hB d1' hp hq hc.2.1 hpq up uq (by rw [k1p]; rfl) (Nat.zero_le _) (by rw [k1q]; simp)
  rw [k1p, k1q] at d2
  have d2' : c_T B t S2 (tsP (tsK (tsK (tsP (tsK (tsK T p [c0, c1, c2, c3, c4]) q [c5]) c5 (some q)) p [c0, c1, c2, c3]) q [c4, c5]) c4 (some q)) := d2
  have k2p : tK (tsP (tsK (tsK (tsP (tsK (tsK T p [c0, c1, c2, c3, c4]) q [c5]) c5 (some q)) p [c0, c1, c2, c3]) q [c4, c5]) c4 (some q)) p = [c0, c1, c2, c3] := by
    show va_up (va_up _ p [c0, c1, c2, c3]) q [c4, c5] p = _
    rw [l_up_n hpq, l_up_s]
  have k2q : tK (tsP (tsK (tsK (tsP (tsK (tsK T p [c0, c1, c2, c3, c4]) q [c5]) c5 (some q)) p [c0, c1, c2, c3]) q [c4, c5]) c4 (some q)) q = [c4, c5] := l_up_s
  obtain ⟨S3, e3, d3, f3⟩ := C_shiftChild (i := 3) (j := 0) (c := c3) hB d2' hp hq hc.1 hpq up uq (by rw [k2p]; rfl) (Nat.zero_le _) (by rw [k2q]; simp)
  rw [k2p, k2q] at d3
  have d3' : c_T B t S3 (tsP (tsK (tsK (tsP (tsK (tsK (tsP (tsK (tsK T p [c0, c1, c2, c3, c4]) q [c5]) c5 (some q)) p [c0, c1, c2, c3]) q [c4, c5]) c4 (some q)) p [c0, c1, c2]) q [c3, c4, c5]) c3 (some q)) := d3
  rw [h3_eq hpq] at d3'
  refine ⟨S3, ?_, d3', m_fr_tr f1 (m_fr_tr f2 f3)⟩
  have m0 : S.1 (t + 3) p = nI 6 := by rw [c_mem hT hp up, hk]; rfl
  have m1 : S1.1 (t + 3) p = nI 5 := by rw [c_mem d1' hp up, k1p]; rfl
  have m2 : S2.1 (t + 3) p = nI 4 := by rw [c_mem d2' hp up, k2p]; rfl
  have e1' : F_X4_shiftChild B t (nI p) (nI 6 - 1) (nI q) 0 S = some (.inl none, S1) := e1
  have e2' : F_X4_shiftChild B t (nI p) (nI 5 - 1) (nI q) 0 S1 = some (.inl none, S2) := e2
  have e3' : F_X4_shiftChild B t (nI p) (nI 4 - 1) (nI q) 0 S2 = some (.inl none, S3) := e3
  have n0 : ¬ (3 : Int32) ≤ 0 := by decide
  have n1 : ¬ (3 : Int32) ≤ 0 + 1 := by decide
  have n2 : ¬ (3 : Int32) ≤ 0 + 1 + 1 := by decide
  have n3 : (3 : Int32) ≤ 0 + 1 + 1 + 1 := by decide
  rw [F_X4_addNode_107, if_neg n0, m_gd i1, m_lt, m_ix (by omega), m0, e1', m_bo]
  rw [F_X4_addNode_107, if_neg n1, m_gd i1, m_lt, m_ix (by omega), m1, e2', m_bo]
  rw [F_X4_addNode_107, if_neg n2, m_gd i1, m_lt, m_ix (by omega), m2, e3', m_bo]
  rw [F_X4_addNode_107, if_pos n3]
theorem tsR_same {h : Nat} {L : List Nat} (e : tR T h = L) : tsR T h L = T := by
  have : va_up T.2.2.2.2.2.1 h L = T.2.2.2.2.2.1 := by rw [← e]; exact va_up_same
  simp only [tsR, this]
theorem add_sn {o x p n : Nat} (hp : tP T o = some p) (hl : ¬ (tK T p).length < 5) (hf : m_free (a_in T o x p) B = none) : a_add B (n + 1) T o x = none := by rw [a_add, hp]; simp only [hl, if_false, hf]
theorem add_ss {o x p q n : Nat} (hp : tP T o = some p) (hl : ¬ (tK T p).length < 5) (hf : m_free (a_in T o x p) B = some q) : a_add B (n + 1) T o x = a_add B n (a_spl (a_in T o x p) p q) p q := by rw [a_add, hp]; simp only [hl, if_false, hf]
theorem C_addNode_loop (hB : B ≤ 96) : ∀ (n m h o x : Nat) (T0 : m_T) (S : z_S), h + n = 8 → n < m → c_T B t S T0 → m_sk B x 0 (tsR T0 h (m_insA o x (tR T0 h))) → o ∈ tR T0 h → x ∉ tR T0 h →
    (∀ T', a_add B n (tsR T0 h (m_insA o x (tR T0 h))) o x = some T' → ∃ S', F_X4_addNode_8 B t m (nI x) (nI o) (nI h) S = some (.inl (some 1), S') ∧ c_T B t S' T' ∧ m_fr t S S') ∧ (a_add B n (tsR T0 h (m_insA o x (tR T0 h))) o x = none → ∃ S', F_X4_addNode_8 B t m (nI x) (nI o) (nI h) S = some (.inl (some 0), S') ∧ m_fr t S S')
  | 0, m, h, o, x, T0, S, hh, hm, hT, hs, ho, hx => by
    have e : tR (tsR T0 h (m_insA o x (tR T0 h))) h = m_insA o x (tR T0 h) := l_up_s
    have := sk_le hs (h := h) (b := o) (by rw [e]; exact (insA_mem ho).mpr (Or.inr ho))
    have := hs.1
    omega
  | n + 1, m, h, o, x, T0, S, hh, hm, hT, hs, ho, hx => by
    obtain ⟨m, rfl⟩ : ∃ k, m = k + 1 := ⟨m - 1, by omega⟩
    generalize hTd : tsR T0 h (m_insA o x (tR T0 h)) = T at hs
    have eR : tR T h = m_insA o x (tR T0 h) := by rw [← hTd]; exact l_up_s
    have eU : tU T = tU T0 := by rw [← hTd]; rfl
    have eH : tH T = tH T0 := by rw [← hTd]; rfl
    have ho1 : o ∈ tR T h := by rw [eR]; exact (insA_mem ho).mpr (Or.inr ho)
    have hx1 : x ∈ tR T h := by rw [eR]; exact (insA_mem ho).mpr (Or.inl rfl)
    have hnd0 : (tR T0 h).Nodup := by
      have := hs.2.2.2.2.2.1 h
      rw [eR] at this
      have h2 := (era_nodup (n := x) this).1
      rw [l_era_insA hx] at h2
      exact h2
    have hn : m_nx (tR T h) o = some x := by rw [eR, nx_insA hnd0 ho hx, if_pos rfl]
    obtain ⟨o1, o2, o3, o4⟩ := hs.2.2.2.1 h o ho1
    obtain ⟨x1, x2, x3, x4⟩ := hs.2.2.2.1 h x hx1
    have u2 : ∀ b, (tU T b = if h = 0 then 2 else 3) → tU T0 b = 2 ∨ tU T0 b = 3 := fun b hb => by rw [← eU, hb]; split <;> simp
    have hrow : ∀ z ∈ tR T0 h, z < B ∧ tH T0 z = h := fun z hz => by
      obtain ⟨z1, z2, z3, z4⟩ := hs.2.2.2.1 h z (by rw [eR]; exact (insA_mem ho).mpr (Or.inr hz))
      exact ⟨z2, by rw [← eH]; exact z3⟩
    obtain ⟨S3, e3, c3, f3⟩ := C_joinRow hB hT x2 o2 (u2 x x4) (u2 o o4) (by rw [← eH]; exact x3) (by rw [← eH]; exact o3) hnd0 ho hx hrow
    rw [hTd] at c3
    have hle := sk_le hs ho1
    have h6 := hs.1
    have g8 : ¬ (8 : Int32) ≤ nI h := by rw [m_c8]; exact nI_ge (by omega) (by omega)
    have hpo : S3.1 (t + 5) o = oI (tP T o) := (c3.2.2.2.2.2 o o2 (by rw [eU]; exact u2 o o4)).2.1
    have start : F_X4_addNode_8 B t (m + 1) (nI x) (nI o) (nI h) S = (if oI (tP T o) = (-1) then
      z_bn (F_X4_addRoot B t (nI o) (nI x) S3) fun r26 S27 =>
      (z_gd (z_b01 r26) (some (.inl (some r26), S27)))
    else
      z_bn (F_X4_placeOf B t (nI o) (oI (tP T o)) S3) fun r7 S8 =>
      (z_bo (F_X4_openChild B t (oI (tP T o)) (r7 + 1) (nI x) S8) fun S11 =>
      (z_gd (z_inb (oI (tP T o)) B) (
      z_lt (S11.1 (t + 3) (z_ix (oI (tP T o)))) fun x14 =>
      (if 5 < x14 then
        z_bn (F_X4_takeBlock B t 3 S11) fun r15 S16 =>
        (if r15 = (-1) then
          z_gd (z_b01 0) (some (.inl (some 0), S16))
        else
          z_gd (z_inb (oI (tP T o)) B) (
          z_lt (S16.1 (t + 2) (z_ix (oI (tP T o)))) fun x19 =>
          (z_gd (z_inb r15 B) (
          z_lt (z_ua S16 (t + 2) (upd (S16.1 (t + 2)) (z_ix (r15)) x19)) fun S21 =>
          (F_X4_addNode_107 B t (F_X4_addNode_8 B t m) z_n (nI h) (oI (tP T o)) r15 0 S21)))))
      else
        z_gd (z_b01 1) (some (.inl (some 1), S11))))))) := by
      rw [F_X4_addNode_8, if_neg g8, e3, m_bo, m_gd (m_inb o2 (by omega)), m_lt, m_ix (by omega), hpo]
    rw [start]
    cases hp : tP T o with
    | none =>
      rw [if_pos (show oI none = -1 from rfl)]
      obtain ⟨r1, r2⟩ := C_addRoot hB c3 hs ho1 hx1 hn hp
      constructor
      · intro T' ha
        rw [a_add, hp] at ha
        cases hf : m_free T B with
        | none => rw [hf] at ha; cases ha
        | some r =>
          rw [hf] at ha
          have e := Option.some.inj ha
          obtain ⟨S', e4, c4, f4⟩ := r2 r hf
          exact ⟨S', by rw [e4, m_bn, m_gd (by decide)], by rw [← e]; exact c4, m_fr_tr f3 f4⟩
      · intro ha
        rw [a_add, hp] at ha
        cases hf : m_free T B with
        | none => exact ⟨S3, by rw [r1 hf, m_bn, m_gd (by decide)], f3⟩
        | some r => rw [hf] at ha; cases ha
    | some p =>
      obtain ⟨h1, h2, h3, h4⟩ := sk_in hs ho1 hx1 hn hp
      obtain ⟨p1, p2, p3, p4⟩ := hs.2.2.2.1 _ p h2
      rw [if_neg (by omega)] at p4
      have h5 := hs.2.2.2.2.2.2.2.2.2.1 h p h2 (fun e => sk_0 hs (e ▸ h2))
      have hkb : ∀ c ∈ tK T p, c < B := fun c hc => (hs.2.2.2.1 h c (sk_kid hs h2 hc).2.1).2.1
      have ep : F_X4_placeOf B t (nI o) (nI p) S3 = some (.inl (some (nI ((tK T p).idxOf o))), S3) := C_placeOf hB c3 p2 p4 (by omega) (fun c hc => by have := hkb c hc; omega)
      have hidx : (tK T p).idxOf o < (tK T p).length := List.idxOf_lt_length_iff.mpr h4
      obtain ⟨S11, e11, c11, f11⟩ := C_openChild (p := p) (i := (tK T p).idxOf o + 1) (c := x) hB c3 p2 p4 x2 (by omega) (by omega)
      rw [← insA_idx h4] at c11
      have c11' : c_T B t S11 (a_in T o x p) := c11
      have ek : tK (a_in T o x p) p = m_insA o x (tK T p) := l_up_s
      have el : (tK (a_in T o x p) p).length = (tK T p).length + 1 := by rw [ek, l_insA_len h4]
      have em : S11.1 (t + 3) p = nI ((tK T p).length + 1) := by rw [c_mem c11' p2 p4, el]
      have ip : z_inb (nI p) B = true := m_inb p2 (by omega)
      rw [show oI (some p) = nI p from rfl, if_neg (m_ne1 (by omega)), ep, m_bn, nI_1, e11, m_bo, m_gd ip, m_lt, m_ix (by omega), em]
      by_cases hl : (tK T p).length < 5
      · have g5 : ¬ (5 : Int32) < nI ((tK T p).length + 1) := by rw [m_c5]; exact nI_nlt (by omega) (by omega)
        rw [if_neg g5, m_gd (by decide)]
        have ea : a_add B (n + 1) T o x = some (a_in T o x p) := by rw [a_add, hp]; simp only [hl, if_true]
        rw [ea]
        exact ⟨fun T' h => ⟨S11, rfl, by rw [← Option.some.inj h]; exact c11', m_fr_tr f3 f11⟩, fun h => by cases h⟩
      · have g5 : (5 : Int32) < nI ((tK T p).length + 1) := by rw [m_c5]; exact nI_lt (by omega) (by omega)
        rw [if_pos g5]
        have hu1 : ∀ b, b < B → tU (a_in T o x p) b < 2 ^ 31 := fun b hb => by have := h1.2.2.2.2.2.2.2.2.2.2.2 b hb; omega
        cases hf : m_free (a_in T o x p) B with
        | none =>
          rw [C_takeBlock_none hB (by omega) c11' hu1 hf, m_bn, if_pos rfl, m_gd (by decide), add_sn hp hl hf]
          exact ⟨fun T' h => (by cases h), fun _ => ⟨S11, rfl, m_fr_tr f3 f11⟩⟩
        | some q =>
          have hq := free_ok hf
          have hqn : ∀ g, q ∉ tR T g := fun g => sk_fr hs hq.2.2
          have hqp : q ≠ p := fun e => hqn _ (e ▸ h2)
          obtain ⟨c0, c1, c2, c3', c4, c5, hk⟩ := l_six (L := tK (a_in T o x p) p) (by omega)
          obtain ⟨k1, k2, k3, k4, k5⟩ := sk_half h1 (h := h) h2 hk hq
          obtain ⟨S16, e16, c16, f16⟩ := C_takeBlock (v := 3) hB (by omega) c11' hu1 hf (hqn 0)
          have e16' : F_X4_takeBlock B t 3 S11 = some (.inl (some (nI q)), S16) := e16
          have up2 : tU (m_take (a_in T o x p) q 3) p = 3 := by rw [show tU (m_take (a_in T o x p) q 3) p = tU T p from l_up_n (Ne.symm hqp)]; exact p4
          have eh : S16.1 (t + 2) p = nI (h + 1) := by
            rw [(c16.2.2.2.2.2 p p2 (Or.inr up2)).1, show tH (m_take (a_in T o x p) q 3) p = tH T p from l_up_n (Ne.symm hqp), p3]
          have c21 := C_setH (b := q) (h := h + 1) c16 (by rw [show tH (m_take (a_in T o x p) q 3) q = 0 from l_up_s]; exact hqn 0) (hqn _)
          have eN : tsH (m_take (a_in T o x p) q 3) q (h + 1) = a_new (a_in T o x p) p q := by
            unfold a_new
            rw [show tH (a_in T o x p) p = tH T p from rfl, p3]
          rw [eN] at c21
          have ekn : tK (a_new (a_in T o x p) p q) p = [c0, c1, c2, c3', c4, c5] := by
            rw [show tK (a_new (a_in T o x p) p q) = va_up (tK (a_in T o x p)) q [] from rfl, l_up_n (Ne.symm hqp), hk]
          have hcb : ∀ c ∈ tK (a_in T o x p) p, c < B := fun c hc => (h1.2.2.2.1 h c (sk_kid h1 (h := h) h2 hc).2.1).2.1
          obtain ⟨S24, e24, c24, f24⟩ := C_half (n := 99996) (v5 := nI h) (k := F_X4_addNode_8 B t m) hB c21 p2 hq.2.1 (Ne.symm hqp) up2 (show tU (a_new (a_in T o x p) p q) q = 3 from l_up_s) ekn (show tK (a_new (a_in T o x p) p q) q = [] from l_up_s) ⟨hcb c3' (by rw [hk]; simp), hcb c4 (by rw [hk]; simp), hcb c5 (by rw [hk]; simp)⟩
          have e24' : F_X4_addNode_107 B t (F_X4_addNode_8 B t m) z_n (nI h) (nI p) (nI q) 0 (z_ua S16 (t + 2) (upd (S16.1 (t + 2)) q (nI (h + 1)))) = F_X4_addNode_8 B t m (nI q) (nI p) (nI h + 1) S24 := e24
          rw [e16', m_bn, if_neg (m_ne1 (by omega)), m_gd ip, m_lt, eh, m_gd (m_inb hq.2.1 (by omega)), m_lt, m_ix (i := q) (by omega), e24', nI_1]
          have eT : a_spl (a_in T o x p) p q = tsR (a_h3 (a_new (a_in T o x p) p q) p q c0 c1 c2 c3' c4 c5) (h + 1) (m_insA p q (tR (a_h3 (a_new (a_in T o x p) p q) p q c0 c1 c2 c3' c4 c5) (h + 1))) := by
            unfold a_spl a_half
            rw [ekn]
            simp only []
            rw [show tH (a_in T o x p) p = tH T p from rfl, p3]; rfl
          rw [eT] at k1
          obtain ⟨i1, i2⟩ := C_addNode_loop hB n m (h + 1) p q (a_h3 (a_new (a_in T o x p) p q) p q c0 c1 c2 c3' c4 c5) S24 (by omega) (by omega) c24 k1 h2 (hqn _)
          have fr : m_fr t S S24 := m_fr_tr f3 (m_fr_tr f11 (m_fr_tr f16 (m_fr_tr (m_fr_ua (by omega)) f24)))
          rw [add_ss hp hl hf, eT]
          constructor
          · intro T' ha
            obtain ⟨S', w1, w2, w3⟩ := i1 T' ha
            exact ⟨S', w1, w2, m_fr_tr fr w3⟩
          · intro ha
            obtain ⟨S', w1, w3⟩ := i2 ha
            exact ⟨S', w1, m_fr_tr fr w3⟩
end CA
