/-! Gone, on: the loop keeps the skeleton. -/
def a_goL (T : m_T) (p c l : Nat) : m_T := tsP (tsK (tsK T p []) l (tK T l ++ [c])) c (some l)
def a_goR (T : m_T) (p c r : Nat) : m_T := tsP (tsK (tsK T p []) r (c :: tK T r)) c (some r)
def a_boL (T : m_T) (p c l : Nat) : m_T := match (tK T l).getLast? with
  | some e => tsP (tsK (tsK T l (tK T l).dropLast) p [e, c]) e (some p)
  | none => T
def a_boR (T : m_T) (p c r : Nat) : m_T := match tK T r with
  | e :: L => tsP (tsK (tsK T r L) p [c, e]) e (some p)
  | [] => T
def a_rest (rec : m_T → Nat → m_T) (T : m_T) (p c : Nat) : Option Nat → Option Nat → m_T
  | some l, some r => if (tK T l).length < 5 then rec (a_goL T p c l) p else if (tK T r).length < 5 then rec (a_goR T p c r) p else a_boL T p c l
  | some l, none => if (tK T l).length < 5 then rec (a_goL T p c l) p else a_boL T p c l
  | none, some r => if (tK T r).length < 5 then rec (a_goR T p c r) p else a_boR T p c r
  | none, none => T
def a_low (rec : m_T → Nat → m_T) (T : m_T) (p : Nat) : m_T := match tK T p with
  | [c] => match tP T p with
    | none => a_coll T p c
    | some _ => a_rest rec T p c (m_pv (tR T (tH T p)) p) (m_nx (tR T (tH T p)) p)
  | _ => T
def a_gone : Nat → m_T → Nat → m_T
  | 0, T, _ => T
  | n + 1, T, d => match tP T d with
    | none => T
    | some p => a_low (a_gone n) (a_off T d p) p
theorem l_last {α : Type} : ∀ {L : List α}, L ≠ [] → ∃ D e, L = D ++ [e]
  | [], h => absurd rfl h
  | [a], _ => ⟨[], a, rfl⟩
  | a :: b :: L, _ => by
    obtain ⟨D, e, h⟩ := l_last (L := b :: L) (by simp)
    exact ⟨a :: D, e, by rw [h]; rfl⟩
theorem l_alone {p : Nat} {L : List Nat} (hd : L.Nodup) (hm : p ∈ L) (h1 : m_pv L p = none) (h2 : m_nx L p = none) : L = [p] := by
  obtain ⟨A, C, rfl, hA, hC⟩ := l_split2 hd hm
  rw [nx_app hd] at h2
  have eC : C = [] := by
    cases C with
    | nil => rfl
    | cons c C => cases h2
  subst eC
  have eA : A = [] := by
    have h3 := idx_pv hd hm
    rw [h1] at h3
    cases A with
    | nil => rfl
    | cons a A =>
      exfalso
      have hne : a ≠ p := fun e => hA (by rw [e]; exact List.mem_cons_self)
      have h0 : ¬ (a :: A ++ [p]).idxOf p = 0 := by
        rw [List.cons_append, List.idxOf_cons, show (a == p) = false by simpa using hne]; simp
      have hl := List.idxOf_lt_length_iff.mpr hm
      rw [if_neg h0, List.getElem?_eq_getElem (by omega)] at h3
      cases h3
  subst eA
  rfl
/-- what a node that is gone leaves as it was -/
def a_gf (d h : Nat) (T T' : m_T) : Prop := (∀ b, tU T' b = tU T b ∨ (tU T' b = 0 ∧ (b = d ∨ tU T b = 3))) ∧ tI T' = tI T ∧ tR T' 0 = (if h = 0 then m_era d (tR T 0) else tR T 0) ∧ tU T' d = 0
section G2
variable {B x y : Nat} {T T' : m_T}
theorem sk_goL {h p c l : Nat} (hs : m_sk B 0 p T) (hp : p ∈ tR T (h + 1)) (hk : tK T p = [c]) (hl : m_pv (tR T (h + 1)) p = some l) (h5 : (tK T l).length < 5) : m_sk B 0 p (a_goL T p c l) := by
  have hx : m_nx (tR T (h + 1)) l = some p := (nx_pv (hs.2.2.2.2.2.1 _)).mpr hl
  obtain ⟨A, C, hR, q1, q2, q3, q4, q5⟩ := l_nx_split (hs.2.2.2.2.2.1 (h + 1)) hx
  have h10 := hs.2.2.2.2.2.2.2.2.2.1 h l (nx_src hx) q5
  have eP : ∀ z, z ≠ c → tP (a_goL T p c l) z = tP T z := fun z hz => l_up_n hz
  have hcl : ∀ z ∈ tK T l, z ≠ c := fun z hz e => by
    have w1 := hs.2.2.2.2.2.2.2.1 h l (nx_src hx) z hz
    have w2 := hs.2.2.2.2.2.2.2.1 h p hp c (by rw [hk]; exact List.mem_cons_self)
    rw [e, w2] at w1
    exact q5 (Option.some.inj w1).symm
  refine sk_adj (T' := a_goL T p c l) (L1 := tK T l ++ [c]) (L2 := []) hs hx (Or.inr rfl) (by rw [hk]; simp) rfl rfl rfl rfl ?_ (fun z hz => ?_) (fun z hz => by cases hz) (fun z h1 _ => eP z (fun e => h1 (by rw [e]; simp))) (fun _ => ?_) (fun h => absurd rfl h)
  · show va_up (va_up (tK T) p []) l (tK T l ++ [c]) = va_up (va_up (tK T) l (tK T l ++ [c])) p []
    exact l_up_comm (Ne.symm q5)
  · by_cases e : z = c
    · rw [e]; exact l_up_s
    · rw [eP z e]
      rcases List.mem_append.mp hz with w | w
      · exact hs.2.2.2.2.2.2.2.1 h l (nx_src hx) z w
      · exact absurd (by simpa using w) e
  · rw [List.length_append, List.length_singleton]; omega
theorem sk_goR {h p c r : Nat} (hs : m_sk B 0 p T) (hp : p ∈ tR T (h + 1)) (hk : tK T p = [c]) (hx : m_nx (tR T (h + 1)) p = some r) (h5 : (tK T r).length < 5) : m_sk B 0 p (a_goR T p c r) := by
  obtain ⟨A, C, hR, q1, q2, q3, q4, q5⟩ := l_nx_split (hs.2.2.2.2.2.1 (h + 1)) hx
  have hr : r ∈ tR T (h + 1) := List.mem_of_mem_tail (nx_mem hx)
  have h10 := hs.2.2.2.2.2.2.2.2.2.1 h r hr (Ne.symm q5)
  have eP : ∀ z, z ≠ c → tP (a_goR T p c r) z = tP T z := fun z hz => l_up_n hz
  refine sk_adj (T' := a_goR T p c r) (L1 := []) (L2 := c :: tK T r) hs hx (Or.inl rfl) (by rw [hk]; simp) rfl rfl rfl rfl rfl (fun z hz => by cases hz) (fun z hz => ?_) (fun z _ h1 => eP z (fun e => h1 (by rw [e]; simp))) (fun h => absurd rfl h) (fun _ => ?_)
  · by_cases e : z = c
    · rw [e]; exact l_up_s
    · rw [eP z e]
      rcases List.mem_cons.mp hz with w | w
      · exact absurd w e
      · exact hs.2.2.2.2.2.2.2.1 h r hr z w
  · rw [List.length_cons]; omega
theorem sk_boL {h p c l : Nat} (hs : m_sk B 0 p T) (hp : p ∈ tR T (h + 1)) (hk : tK T p = [c]) (hl : m_pv (tR T (h + 1)) p = some l) (h5 : ¬ (tK T l).length < 5) : m_sk B 0 0 (a_boL T p c l) ∧ ∃ e, (tK T l).getLast? = some e := by
  have hx : m_nx (tR T (h + 1)) l = some p := (nx_pv (hs.2.2.2.2.2.1 _)).mpr hl
  obtain ⟨A, C, hR, q1, q2, q3, q4, q5⟩ := l_nx_split (hs.2.2.2.2.2.1 (h + 1)) hx
  have h10 := hs.2.2.2.2.2.2.2.2.2.1 h l (nx_src hx) q5
  have hne : tK T l ≠ [] := fun e => by rw [e] at h5; simp at h5
  obtain ⟨D, e, hD⟩ := l_last hne
  have eg : (tK T l).getLast? = some e := by rw [hD]; simp
  refine ⟨?_, e, eg⟩
  have eT : a_boL T p c l = tsP (tsK (tsK T l (tK T l).dropLast) p [e, c]) e (some p) := by unfold a_boL; rw [eg]
  rw [eT]
  have hsp : (tK T l).dropLast ++ [e] = tK T l := by rw [hD]; simp
  have hel : e ∈ tK T l := by rw [← hsp]; simp
  have hnd : (tK T l).Nodup := by
    have h1 := sk_nd hs (h := h) (by have := sk_le hs hp; omega)
    obtain ⟨A, C, e, -, -⟩ := l_split2 (hs.2.2.2.2.2.1 (h + 1)) (nx_src hx)
    rw [e, l_fm_at] at h1
    exact (List.nodup_append.mp (List.nodup_append.mp h1).2.1).1
  have hed : e ∉ (tK T l).dropLast := by
    rw [← hsp] at hnd
    have := (List.nodup_append.mp hnd).2.2
    exact fun hm => this e hm e List.mem_cons_self rfl
  generalize hT' : tsP (tsK (tsK T l (tK T l).dropLast) p [e, c]) e (some p) = T'
  have eP : ∀ z, z ≠ e → tP T' z = tP T z := fun z hz => by rw [← hT']; exact l_up_n hz
  have ePe : tP T' e = some p := by rw [← hT']; exact l_up_s
  refine sk_adj (T' := T') (L1 := (tK T l).dropLast) (L2 := [e, c]) hs hx (Or.inr rfl) ?_ (by rw [← hT']; rfl) (by rw [← hT']; rfl) (by rw [← hT']; rfl) (by rw [← hT']; rfl) (by rw [← hT']; rfl) (fun z hz => ?_) (fun z hz => ?_) (fun z _ h1 => eP z (fun w => h1 (by rw [w]; simp))) (fun _ => ?_) (fun _ => by simp)
  · rw [hk]
    have : (tK T l).dropLast ++ [e, c] = ((tK T l).dropLast ++ [e]) ++ [c] := by simp
    rw [this, hsp]
  · rw [eP z (fun w => hed (w ▸ hz))]
    exact hs.2.2.2.2.2.2.2.1 h l (nx_src hx) z (by rw [← hsp]; exact List.mem_append_left _ hz)
  · by_cases w : z = e
    · rw [w]; exact ePe
    · rw [eP z w]
      have : z = c := by simpa [w] using hz
      rw [this]
      exact hs.2.2.2.2.2.2.2.1 h p hp c (by rw [hk]; exact List.mem_cons_self)
  · rw [List.length_dropLast]; omega
theorem sk_boR {h p c r : Nat} (hs : m_sk B 0 p T) (hp : p ∈ tR T (h + 1)) (hk : tK T p = [c]) (hx : m_nx (tR T (h + 1)) p = some r) (h5 : ¬ (tK T r).length < 5) : m_sk B 0 0 (a_boR T p c r) ∧ ∃ e L, tK T r = e :: L := by
  obtain ⟨A, C, hR, q1, q2, q3, q4, q5⟩ := l_nx_split (hs.2.2.2.2.2.1 (h + 1)) hx
  have hr : r ∈ tR T (h + 1) := List.mem_of_mem_tail (nx_mem hx)
  have h10 := hs.2.2.2.2.2.2.2.2.2.1 h r hr (Ne.symm q5)
  cases hkr : tK T r with
  | nil => rw [hkr] at h5; simp at h5
  | cons e L =>
    refine ⟨?_, e, L, rfl⟩
    have eT : a_boR T p c r = tsP (tsK (tsK T r L) p [c, e]) e (some p) := by unfold a_boR; rw [hkr]
    rw [eT]
    have hnd : (tK T r).Nodup := by
      have h1 := sk_nd hs (h := h) (by have := sk_le hs hp; omega)
      obtain ⟨A, C, e, -, -⟩ := l_split2 (hs.2.2.2.2.2.1 (h + 1)) hr
      rw [e, l_fm_at] at h1
      exact (List.nodup_append.mp (List.nodup_append.mp h1).2.1).1
    have hed : e ∉ L := by rw [hkr] at hnd; exact (List.nodup_cons.mp hnd).1
    generalize hT' : tsP (tsK (tsK T r L) p [c, e]) e (some p) = T'
    have eP : ∀ z, z ≠ e → tP T' z = tP T z := fun z hz => by rw [← hT']; exact l_up_n hz
    have ePe : tP T' e = some p := by rw [← hT']; exact l_up_s
    rw [hkr, List.length_cons] at h5 h10
    refine sk_adj (T' := T') (L1 := [c, e]) (L2 := L) hs hx (Or.inl rfl) (by rw [hk, hkr]; rfl) (by rw [← hT']; rfl) (by rw [← hT']; rfl) (by rw [← hT']; rfl) (by rw [← hT']; rfl) ?_ (fun z hz => ?_) (fun z hz => ?_) (fun z h1 _ => eP z (fun w => h1 (by rw [w]; simp))) (fun _ => by simp) (fun _ => by omega)
    · rw [← hT']
      show va_up (va_up (tK T) r L) p [c, e] = va_up (va_up (tK T) p [c, e]) r L
      exact l_up_comm (Ne.symm q5)
    · by_cases w : z = e
      · rw [w]; exact ePe
      · rw [eP z w]
        have : z = c := by simpa [w] using hz
        rw [this]
        exact hs.2.2.2.2.2.2.2.1 h p hp c (by rw [hk]; exact List.mem_cons_self)
    · rw [eP z (fun w => hed (w ▸ hz))]
      exact hs.2.2.2.2.2.2.2.1 h r hr z (by rw [hkr]; exact List.mem_cons_of_mem _ hz)
/-- a node with one child that isn't the root has a neighbour -/
theorem sk_beside {h p q : Nat} (hs : m_sk B 0 p T) (hp : p ∈ tR T (h + 1)) (hq : tP T p = some q) : ¬ (m_pv (tR T (h + 1)) p = none ∧ m_nx (tR T (h + 1)) p = none) := by
  rintro ⟨h1, h2⟩
  have hR := l_alone (hs.2.2.2.2.2.1 _) hp h1 h2
  have hp0 : p ≠ 0 := fun e => sk_0 hs (e ▸ hp)
  obtain ⟨hh, u, hu, hpu, -⟩ | ⟨-, -, hn⟩ := sk_par hs hp hp0
  case inr => rw [hq] at hn; cases hn
  have hup : u ≠ p := fun e => sk_ht hs hp (show h + 1 + 1 ≠ h + 1 by omega) (e ▸ hu)
  have h10 := hs.2.2.2.2.2.2.2.2.2.1 (h + 1) u hu hup
  have h7 := hs.2.2.2.2.2.2.1 (h + 1) hh
  rw [l_era_no (sk_0 hs), hR] at h7
  obtain ⟨A, C, e, -, -⟩ := l_split2 (hs.2.2.2.2.2.1 (h + 1 + 1)) hu
  rw [e, l_fm_at] at h7
  have h8 := congrArg List.length h7
  simp only [List.length_append, List.length_singleton] at h8
  omega
theorem gf_off {d p h : Nat} (hdh : tH T d = h) : a_gf d h T (a_off T d p) := by
  refine ⟨fun b => ?_, rfl, ?_, l_up_s⟩
  · rw [show tU (a_off T d p) = va_up (tU T) d 0 from rfl]
    by_cases e : b = d
    · rw [e, l_up_s]; exact Or.inr ⟨rfl, Or.inl rfl⟩
    · rw [l_up_n e]; exact Or.inl rfl
  · rw [show tR (a_off T d p) = va_up (tR T) (tH T d) (m_era d (tR T (tH T d))) from rfl, hdh]
    by_cases e : h = 0
    · subst e; rw [l_up_s, if_pos rfl]
    · rw [l_up_n (Ne.symm e), if_neg e]
theorem gf_same {d h : Nat} {T1 : m_T} (h1 : a_gf d h T T1) (eU : tU T' = tU T1) (eI : tI T' = tI T1) (eR : tR T' 0 = tR T1 0) : a_gf d h T T' := by
  obtain ⟨a1, a2, a3, a4⟩ := h1
  exact ⟨by rw [eU]; exact a1, by rw [eI]; exact a2, by rw [eR]; exact a3, by rw [eU]; exact a4⟩
theorem gf_tr {d p h g : Nat} {T1 : m_T} (h1 : a_gf d h T T1) (hp : tU T p = 3) (h2 : a_gf p (g + 1) T1 T') : a_gf d h T T' := by
  obtain ⟨a1, a2, a3, a4⟩ := h1
  obtain ⟨b1, b2, b3, b4⟩ := h2
  refine ⟨fun b => ?_, b2.trans a2, by rw [b3, if_neg (by omega)]; exact a3, ?_⟩
  · rcases b1 b with e | ⟨e1, e2⟩
    · rcases a1 b with w | ⟨w1, w2⟩
      · exact Or.inl (e.trans w)
      · exact Or.inr ⟨e.trans w1, w2⟩
    · refine Or.inr ⟨e1, ?_⟩
      rcases e2 with e2 | e2
      · exact Or.inr (e2 ▸ hp)
      · rcases a1 b with w | ⟨w1, w2⟩
        · exact Or.inr (w ▸ e2)
        · exact w2
  · rcases b1 d with e | ⟨e1, e2⟩
    · rw [e]; exact a4
    · exact e1
theorem gone_ok : ∀ (n h d p : Nat) (T : m_T), h + n = 8 → m_sk B 0 d T → d ∈ tR T h → tP T d = some p → (h ≠ 0 → tK T d = []) → m_sk B 0 0 (a_gone n T d) ∧ a_gf d h T (a_gone n T d)
  | 0, h, d, p, T, hh, hs, hd, hp, hk => by
    have := sk_le hs hd
    have := hs.1
    omega
  | n + 1, h, d, p, T, hh, hs, hd, hp, hk => by
    obtain ⟨s1, s2, s3, s4, s5, s6, s7⟩ := sk_off hs hd hp hk
    have hdh : tH T d = h := (hs.2.2.2.1 h d hd).2.2.1
    have hph : tH T p = h + 1 := (hs.2.2.2.1 _ p s2).2.2.1
    have hpu : tU T p = 3 := by have := (hs.2.2.2.1 _ p s2).2.2.2; rw [if_neg (by omega)] at this; exact this
    have eg : a_gone (n + 1) T d = a_low (a_gone n) (a_off T d p) p := by rw [a_gone, hp]
    rw [eg]
    have gf := gf_off (p := p) hdh
    generalize hT2 : a_off T d p = T2 at s1 gf
    have eKp : tK T2 p = m_era d (tK T p) := by rw [← hT2]; exact l_up_s
    have eR : tR T2 (h + 1) = tR T (h + 1) := by
      rw [← hT2, show tR (a_off T d p) = va_up (tR T) (tH T d) (m_era d (tR T (tH T d))) from rfl, hdh, l_up_n (by omega)]
    have eH : tH T2 p = h + 1 := by rw [← hT2]; exact hph
    have hp2 : p ∈ tR T2 (h + 1) := by rw [eR]; exact s2
    have hlen : (tK T2 p).length = (tK T p).length - 1 := by rw [eKp, l_era_len s3]
    have stop : ∀ Tz, tU Tz = tU T2 → tI Tz = tI T2 → tR Tz = tR T2 → a_gf d h T Tz := fun Tz e1 e2 e3 => gf_same gf e1 e2 (by rw [e3])
    unfold a_low
    match hkp : tK T2 p, hlen with
    | [], hlen => simp at hlen; omega
    | c0 :: c1 :: L, hlen =>
      exact ⟨sk_done s1 (by rw [hkp]; simp only [List.length_cons] at hlen ⊢; omega), gf⟩
    | [c], hlen =>
      show m_sk B 0 0 (match tP T2 p with | none => a_coll T2 p c | some _ => a_rest (a_gone n) T2 p c (m_pv (tR T2 (tH T2 p)) p) (m_nx (tR T2 (tH T2 p)) p)) ∧ a_gf d h T (match tP T2 p with | none => a_coll T2 p c | some _ => a_rest (a_gone n) T2 p c (m_pv (tR T2 (tH T2 p)) p) (m_nx (tR T2 (tH T2 p)) p))
      cases hpp : tP T2 p with
      | none =>
        refine ⟨(sk_coll s1 hp2 hkp hpp).1, ?_⟩
        obtain ⟨g1, g2, g3, g4⟩ := gf
        refine ⟨fun b => ?_, g2, ?_, ?_⟩
        · rw [show tU (a_coll T2 p c) = va_up (tU T2) p 0 from rfl]
          by_cases e : b = p
          · rw [e, l_up_s]; exact Or.inr ⟨rfl, Or.inr hpu⟩
          · rw [l_up_n e]; exact g1 b
        · rw [show tR (a_coll T2 p c) = va_up (tR T2) (tH T2 p) [] from rfl, eH, l_up_n (by omega)]; exact g3
        · rw [show tU (a_coll T2 p c) = va_up (tU T2) p 0 from rfl, l_up_n (Ne.symm s5)]; exact g4
      | some q =>
        have hnb := sk_beside s1 hp2 hpp
        simp only []
        rw [eH]
        have goL : ∀ l, m_pv (tR T2 (h + 1)) p = some l → (tK T2 l).length < 5 → m_sk B 0 0 (a_gone n (a_goL T2 p c l) p) ∧ a_gf d h T (a_gone n (a_goL T2 p c l) p) := fun l hl h5 => by
          have hpl : p ≠ l := fun e => by
            have w := (nx_pv (s1.2.2.2.2.2.1 _)).mpr hl
            rw [← e] at w
            exact nx_ne (s1.2.2.2.2.2.1 _) w
          have hpc : p ≠ c := fun e => by
            have w := (sk_kid s1 hp2 (c := c) (by rw [hkp]; exact List.mem_cons_self)).2.1
            rw [← e] at w
            exact sk_ht s1 hp2 (show h ≠ h + 1 by omega) w
          obtain ⟨k1, k2⟩ := gone_ok n (h + 1) p q (a_goL T2 p c l) (by omega) (sk_goL s1 hp2 hkp hl h5) hp2 (by
            show va_up (tP T2) c (some l) p = some q
            rw [l_up_n hpc]; exact hpp) (fun _ => by
            show va_up (va_up (tK T2) p []) l (tK T2 l ++ [c]) p = []
            rw [l_up_n hpl, l_up_s])
          exact ⟨k1, gf_tr (T1 := a_goL T2 p c l) (gf_same gf rfl rfl rfl) hpu k2⟩
        have goR : ∀ r, m_nx (tR T2 (h + 1)) p = some r → (tK T2 r).length < 5 → m_sk B 0 0 (a_gone n (a_goR T2 p c r) p) ∧ a_gf d h T (a_gone n (a_goR T2 p c r) p) := fun r hl h5 => by
          have hpl : p ≠ r := fun e => by
            rw [← e] at hl
            exact nx_ne (s1.2.2.2.2.2.1 _) hl
          have hpc : p ≠ c := fun e => by
            have w := (sk_kid s1 hp2 (c := c) (by rw [hkp]; exact List.mem_cons_self)).2.1
            rw [← e] at w
            exact sk_ht s1 hp2 (show h ≠ h + 1 by omega) w
          obtain ⟨k1, k2⟩ := gone_ok n (h + 1) p q (a_goR T2 p c r) (by omega) (sk_goR s1 hp2 hkp hl h5) hp2 (by
            show va_up (tP T2) c (some r) p = some q
            rw [l_up_n hpc]; exact hpp) (fun _ => by
            show va_up (va_up (tK T2) p []) r (c :: tK T2 r) p = []
            rw [l_up_n hpl, l_up_s])
          exact ⟨k1, gf_tr (T1 := a_goR T2 p c r) (gf_same gf rfl rfl rfl) hpu k2⟩
        have boL : ∀ l, m_pv (tR T2 (h + 1)) p = some l → ¬ (tK T2 l).length < 5 → m_sk B 0 0 (a_boL T2 p c l) ∧ a_gf d h T (a_boL T2 p c l) := fun l hl h5 => by
          obtain ⟨k1, e, k2⟩ := sk_boL s1 hp2 hkp hl h5
          refine ⟨k1, ?_⟩
          have eT : a_boL T2 p c l = tsP (tsK (tsK T2 l (tK T2 l).dropLast) p [e, c]) e (some p) := by unfold a_boL; rw [k2]
          rw [eT]
          exact stop _ rfl rfl rfl
        have boR : ∀ r, m_nx (tR T2 (h + 1)) p = some r → ¬ (tK T2 r).length < 5 → m_sk B 0 0 (a_boR T2 p c r) ∧ a_gf d h T (a_boR T2 p c r) := fun r hl h5 => by
          obtain ⟨k1, e, L, k2⟩ := sk_boR s1 hp2 hkp hl h5
          refine ⟨k1, ?_⟩
          have eT : a_boR T2 p c r = tsP (tsK (tsK T2 r L) p [c, e]) e (some p) := by unfold a_boR; rw [k2]
          rw [eT]
          exact stop _ rfl rfl rfl
        cases hl : m_pv (tR T2 (h + 1)) p with
        | none =>
          cases hr : m_nx (tR T2 (h + 1)) p with
          | none => exact absurd ⟨hl, hr⟩ hnb
          | some r =>
            simp only [a_rest]
            by_cases h5 : (tK T2 r).length < 5
            · rw [if_pos h5]; exact goR r hr h5
            · rw [if_neg h5]; exact boR r hr h5
        | some l =>
          cases hr : m_nx (tR T2 (h + 1)) p with
          | none =>
            simp only [a_rest]
            by_cases h5 : (tK T2 l).length < 5
            · rw [if_pos h5]; exact goL l hl h5
            · rw [if_neg h5]; exact boL l hl h5
          | some r =>
            simp only [a_rest]
            by_cases h5 : (tK T2 l).length < 5
            · rw [if_pos h5]; exact goL l hl h5
            · rw [if_neg h5]
              by_cases h6 : (tK T2 r).length < 5
              · rw [if_pos h6]; exact goR r hr h6
              · rw [if_neg h6]; exact boL l hl h5
end G2
