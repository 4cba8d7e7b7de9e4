/-! A leaf looked at: it goes, or joins a neighbour, again and again; the tree stays sound. -/
def a_all (T : m_T) (l a : Nat) : m_T := tsI (tsI T a (tI T a ++ tI T l)) l []
def a_lookR (rec : m_T → Nat → m_T) (T : m_T) (l : Nat) : Option Nat → m_T
  | none => T
  | some c => if 72 < m_cost (tI T l) + m_cost (tI T c) then T else rec (a_gone 8 (a_all T c l) c) l
def a_lookL (rec : m_T → Nat → m_T) (T : m_T) (l : Nat) (r : Option Nat) : Option Nat → m_T
  | none => a_lookR rec T l r
  | some a => if 72 < m_cost (tI T a) + m_cost (tI T l) then a_lookR rec T l r else rec (a_gone 8 (a_all T l a) l) a
def a_look1 (rec : m_T → Nat → m_T) (T : m_T) (l : Nat) (a c : Option Nat) : m_T :=
  if (tI T l).length = 0 then (match a, c with
    | none, none => a_lookL rec T l c a
    | some a, _ => rec (a_gone 8 T l) a
    | none, some c => rec (a_gone 8 T l) c) else a_lookL rec T l c a
def a_look : Nat → m_T → Nat → m_T
  | 0, T, _ => T
  | n + 1, T, l => a_look1 (a_look n) T l (m_pv (tR T 0) l) (m_nx (tR T 0) l)
/-- leaves are sound but that l may be empty -/
def a_lo (T : m_T) (l : Nat) : Prop := (∀ b ∈ tR T 0, (b ≠ l → tI T b ≠ []) ∧ m_cost (tI T b) ≤ 120) ∧ (∀ x ∈ flat T, m_ig x) ∧ flat T ≠ []
/-- what taking items out leaves as it was, seen from outside -/
def a_ug (T T' : m_T) : Prop := ∀ b, tU T' b = tU T b ∨ (tU T' b = 0 ∧ (tU T b = 2 ∨ tU T b = 3))
theorem ug_tr {T T1 T2 : m_T} (h1 : a_ug T T1) (h2 : a_ug T1 T2) : a_ug T T2 := fun b => by
  rcases h2 b with e | ⟨e1, e2⟩
  · rcases h1 b with w | ⟨w1, w2⟩
    · exact Or.inl (e.trans w)
    · exact Or.inr ⟨e.trans w1, w2⟩
  · rcases h1 b with w | ⟨w1, w2⟩
    · exact Or.inr ⟨e1, by rw [← w]; exact e2⟩
    · exact Or.inr ⟨e1, w2⟩
section LK
variable {B : Nat} {T T' : m_T}
theorem sk_any {x y : Nat} (hs : m_sk B x 0 T) : m_sk B x y T := by
  have hs' := hs
  obtain ⟨a1, a2, a3, a4, a5, a6, a7, a8, a9, a10, a11, a12⟩ := hs
  exact ⟨a1, a2, a3, a4, a5, a6, a7, a8, a9, fun g p hp _ => a10 g p hp (fun e => sk_0 hs' (e ▸ hp)), a11, a12⟩
/-- an empty leaf with a neighbour is gone -/
theorem gone_leaf {d b : Nat} (hs : m_sk B 0 0 T) (hd : d ∈ tR T 0) (hb : b ∈ tR T 0) (hdb : d ≠ b) (he : tI T d = []) : m_sk B 0 0 (a_gone 8 T d) ∧ tI (a_gone 8 T d) = tI T ∧ tR (a_gone 8 T d) 0 = m_era d (tR T 0) ∧ flat (a_gone 8 T d) = flat T ∧ a_ug T (a_gone 8 T d) ∧ ∃ p, tP T d = some p := by
  have hd0 : d ≠ 0 := fun e => sk_0 hs (e ▸ hd)
  have hu : tU T d = 2 := by have := (hs.2.2.2.1 0 d hd).2.2.2; rw [if_pos rfl] at this; exact this
  obtain ⟨p, hp⟩ : ∃ p, tP T d = some p := by
    obtain ⟨-, p, -, -, hq⟩ | ⟨hH, -, -⟩ := sk_par hs hd hd0
    · exact ⟨p, hq⟩
    · exfalso
      have h3 := hs.2.2.1
      rw [← hH, l_era_no (sk_0 hs)] at h3
      rw [h3] at hd hb
      have e1 : d = tX T := by simpa using hd
      have e2 : b = tX T := by simpa using hb
      exact hdb (e1.trans e2.symm)
  obtain ⟨k1, k2, k3, k4, k5⟩ := gone_ok 8 0 d p T (by omega) (sk_any hs) hd hp (fun h => absurd rfl h)
  rw [if_pos rfl] at k4
  refine ⟨k1, k3, k4, ?_, fun b => ?_, p, hp⟩
  · unfold flat
    rw [k3, k4, l_fm_off he]
  · rcases k2 b with e | ⟨e1, e2⟩
    · exact Or.inl e
    · exact Or.inr ⟨e1, by rcases e2 with e2 | e2; exact Or.inl (e2 ▸ hu); exact Or.inr e2⟩
/-- one of two neighbours takes all; the other is gone -/
theorem join_leaf {d b : Nat} (hs : m_sk B 0 0 T) (hd : d ∈ tR T 0) (hb : b ∈ tR T 0) (hdb : d ≠ b) (hf : flat (a_all T d b) = flat T) (hv : ∀ z ∈ tR T 0, z ≠ d → z ≠ b → tI T z ≠ [] ∧ m_cost (tI T z) ≤ 120) (hne : tI T d ++ tI T b ≠ []) (hc : m_cost (tI T d) + m_cost (tI T b) ≤ 72) (hi : ∀ x ∈ flat T, m_ig x) (hn : flat T ≠ []) :
    m_sk B 0 0 (a_gone 8 (a_all T d b) d) ∧ b ∈ tR (a_gone 8 (a_all T d b) d) 0 ∧ a_lo (a_gone 8 (a_all T d b) d) b ∧ flat (a_gone 8 (a_all T d b) d) = flat T ∧ a_ug T (a_gone 8 (a_all T d b) d) ∧ tR (a_gone 8 (a_all T d b) d) 0 = m_era d (tR T 0) ∧ ∃ p, tP T d = some p := by
  have s1 : m_sk B 0 0 (a_all T d b) := it_sk (it_tr it_sI it_sI) hs
  have eI : tI (a_all T d b) = va_up (va_up (tI T) b (tI T b ++ tI T d)) d [] := rfl
  obtain ⟨k1, k2, k3, k4, k5, k6⟩ := gone_leaf (T := a_all T d b) s1 hd hb hdb (by rw [eI, l_up_s])
  refine ⟨k1, ?_, ⟨fun z hz => ?_, by rw [k4, hf]; exact hi, by rw [k4, hf]; exact hn⟩, by rw [k4, hf], k5, k3, k6⟩
  · rw [k3]; exact era_mem (Ne.symm hdb) hb
  · rw [k3] at hz
    have hz1 : z ∈ tR T 0 := era_sub hz
    have hz2 : z ≠ d := fun e => (era_nodup (n := d) (hs.2.2.2.2.2.1 0)).2 (e ▸ hz)
    rw [k2, eI, l_up_n hz2]
    by_cases e : z = b
    · subst e
      rw [l_up_s]
      refine ⟨fun h => absurd rfl h, ?_⟩
      rw [m_cost_app]; omega
    · rw [l_up_n e]
      exact ⟨fun _ => (hv z hz1 hz2 e).1, (hv z hz1 hz2 e).2⟩
theorem look_ok : ∀ (n l : Nat) (T : m_T), (tR T 0).length ≤ n → m_sk B 0 0 T → l ∈ tR T 0 → a_lo T l → m_sk B 0 0 (a_look n T l) ∧ flat (a_look n T l) = flat T ∧ (∀ b ∈ tR (a_look n T l) 0, tI (a_look n T l) b ≠ [] ∧ m_cost (tI (a_look n T l) b) ≤ 120) ∧ a_ug T (a_look n T l)
  | 0, l, T, hn, hs, hl, hv => by
    have : tR T 0 = [] := List.eq_nil_of_length_eq_zero (by omega)
    rw [this] at hl; cases hl
  | n + 1, l, T, hn, hs, hl, hv => by
    obtain ⟨v1, v2, v3⟩ := hv
    have hnd := hs.2.2.2.2.2.1 0
    have hlen : (m_era l (tR T 0)).length ≤ n := by rw [l_era_len hl]; omega
    -- what stops
    have stop : (tI T l ≠ []) → m_sk B 0 0 T ∧ flat T = flat T ∧ (∀ b ∈ tR T 0, tI T b ≠ [] ∧ m_cost (tI T b) ≤ 120) ∧ a_ug T T := fun hne => ⟨hs, rfl, fun b hb => ⟨by
        by_cases e : b = l
        · rw [e]; exact hne
        · exact (v1 b hb).1 e, (v1 b hb).2⟩, fun _ => Or.inl rfl⟩
    have hR : ∀ c, tI T l ≠ [] → m_nx (tR T 0) l = c → m_sk B 0 0 (a_lookR (a_look n) T l c) ∧ flat (a_lookR (a_look n) T l c) = flat T ∧ (∀ b ∈ tR (a_lookR (a_look n) T l c) 0, tI (a_lookR (a_look n) T l c) b ≠ [] ∧ m_cost (tI (a_lookR (a_look n) T l c) b) ≤ 120) ∧ a_ug T (a_lookR (a_look n) T l c) := fun c hne hc => by
      cases c with
      | none => exact stop hne
      | some c =>
        rw [show a_lookR (a_look n) T l (some c) = if 72 < m_cost (tI T l) + m_cost (tI T c) then T else a_look n (a_gone 8 (a_all T c l) c) l from rfl]
        by_cases h72 : 72 < m_cost (tI T l) + m_cost (tI T c)
        · rw [if_pos h72]; exact stop hne
        · rw [if_neg h72]
          have hcm : c ∈ tR T 0 := List.mem_of_mem_tail (nx_mem hc)
          have hcl : c ≠ l := fun e => nx_ne hnd (e ▸ hc : m_nx (tR T 0) c = some c)
          have hf : flat (a_all T c l) = flat T := by
            show (tR T 0).flatMap (va_up (va_up (tI T) l (tI T l ++ tI T c)) c []) = _
            rw [l_fm_adj hnd hc (by simp)]; rfl
          obtain ⟨j1, j2, j3, j4, j5, j6, -⟩ := join_leaf hs hcm hl hcl hf (fun z hz _ h2 => ⟨(v1 z hz).1 h2, (v1 z hz).2⟩) (by simp [hne]) (by omega) v2 v3
          obtain ⟨i1, i2, i3, i4⟩ := look_ok n l _ (by rw [j6, l_era_len hcm]; omega) j1 j2 j3
          exact ⟨i1, i2.trans j4, i3, ug_tr j5 i4⟩
    have hL : ∀ a, tI T l ≠ [] → m_pv (tR T 0) l = a → m_sk B 0 0 (a_lookL (a_look n) T l (m_nx (tR T 0) l) a) ∧ flat (a_lookL (a_look n) T l (m_nx (tR T 0) l) a) = flat T ∧ (∀ b ∈ tR (a_lookL (a_look n) T l (m_nx (tR T 0) l) a) 0, tI (a_lookL (a_look n) T l (m_nx (tR T 0) l) a) b ≠ [] ∧ m_cost (tI (a_lookL (a_look n) T l (m_nx (tR T 0) l) a) b) ≤ 120) ∧ a_ug T (a_lookL (a_look n) T l (m_nx (tR T 0) l) a) := fun a hne ha => by
      cases a with
      | none => exact hR _ hne rfl
      | some a =>
        rw [show a_lookL (a_look n) T l (m_nx (tR T 0) l) (some a) = if 72 < m_cost (tI T a) + m_cost (tI T l) then a_lookR (a_look n) T l (m_nx (tR T 0) l) else a_look n (a_gone 8 (a_all T l a) l) a from rfl]
        by_cases h72 : 72 < m_cost (tI T a) + m_cost (tI T l)
        · rw [if_pos h72]; exact hR _ hne rfl
        · rw [if_neg h72]
          have hx : m_nx (tR T 0) a = some l := (nx_pv hnd).mpr ha
          have ham : a ∈ tR T 0 := nx_src hx
          have hla : l ≠ a := fun e => nx_ne hnd (e ▸ hx : m_nx (tR T 0) l = some l)
          have hf : flat (a_all T l a) = flat T := by
            show (tR T 0).flatMap (va_up (va_up (tI T) a (tI T a ++ tI T l)) l []) = _
            rw [l_fm_adj hnd hx (by simp)]; rfl
          obtain ⟨j1, j2, j3, j4, j5, j6, -⟩ := join_leaf hs hl ham hla hf (fun z hz h1 _ => ⟨(v1 z hz).1 h1, (v1 z hz).2⟩) (by simp [hne]) (by omega) v2 v3
          obtain ⟨i1, i2, i3, i4⟩ := look_ok n a _ (by rw [j6]; exact hlen) j1 j2 j3
          exact ⟨i1, i2.trans j4, i3, ug_tr j5 i4⟩
    have hE : ∀ b, b ∈ tR T 0 → l ≠ b → tI T l = [] → m_sk B 0 0 (a_look n (a_gone 8 T l) b) ∧ flat (a_look n (a_gone 8 T l) b) = flat T ∧ (∀ z ∈ tR (a_look n (a_gone 8 T l) b) 0, tI (a_look n (a_gone 8 T l) b) z ≠ [] ∧ m_cost (tI (a_look n (a_gone 8 T l) b) z) ≤ 120) ∧ a_ug T (a_look n (a_gone 8 T l) b) := fun b hb hlb he => by
      obtain ⟨k1, k2, k3, k4, k5, -⟩ := gone_leaf hs hl hb hlb he
      obtain ⟨i1, i2, i3, i4⟩ := look_ok n b _ (by rw [k3]; exact hlen) k1 (by rw [k3]; exact era_mem (Ne.symm hlb) hb) ⟨fun z hz => by
        rw [k3] at hz
        have hz1 : z ∈ tR T 0 := era_sub hz
        have hz2 : z ≠ l := fun e => (era_nodup (n := l) hnd).2 (e ▸ hz)
        rw [k2]
        exact ⟨fun _ => (v1 z hz1).1 hz2, (v1 z hz1).2⟩, by rw [k4]; exact v2, by rw [k4]; exact v3⟩
      exact ⟨i1, i2.trans k4, i3, ug_tr k5 i4⟩
    rw [a_look]
    unfold a_look1
    by_cases he : (tI T l).length = 0
    · have he2 : tI T l = [] := List.eq_nil_of_length_eq_zero he
      rw [if_pos he]
      cases ha : m_pv (tR T 0) l with
      | none =>
        cases hc : m_nx (tR T 0) l with
        | none =>
          exfalso
          have := l_alone hnd hl ha hc
          unfold flat at v3
          rw [this] at v3
          simp [he2] at v3
        | some c =>
          have hcm : c ∈ tR T 0 := List.mem_of_mem_tail (nx_mem hc)
          have hcl : c ≠ l := fun e => nx_ne hnd (e ▸ hc : m_nx (tR T 0) c = some c)
          exact hE c hcm (Ne.symm hcl) he2
      | some a =>
        have hx : m_nx (tR T 0) a = some l := (nx_pv hnd).mpr ha
        have hla : l ≠ a := fun e => nx_ne hnd (e ▸ hx : m_nx (tR T 0) l = some l)
        exact hE a (nx_src hx) hla he2
    · rw [if_neg he]
      exact hL _ (fun e => he (by rw [e]; rfl)) rfl
end LK
