/-! Data blocks: taken and freed. -/
def a_tk (B : Nat) : Nat → m_T → List Nat → Option (m_T × List Nat)
  | 0, T, P => some (T, P)
  | k + 1, T, P => match m_free T B with
    | none => none
    | some b => a_tk B k (m_take T b 4) (P ++ [b])
def a_rel : List Nat → m_T → m_T
  | [], T => T
  | b :: L, T => a_rel L (tsU T b 0)
def a_data (B : Nat) (T : m_T) (P : List Nat) (w : Nat) : Option (m_T × List Nat) := if P.length ≤ w then a_tk B (w - P.length) T P else some (a_rel (P.drop w).reverse T, P.take w)
section DA
variable {B J : Nat} {S S' S0 : z_S} {A : m_A} {T T' T1 T2 : m_T} {O O' : m_O} {f f' : Nat → Int32}
theorem ok_off {b : Nat} (h : m_ok B T) (hR : tR T' = tR T) (hX : tX T' = tX T) (hn : ∀ g, b ∉ tR T g) (hb : b ≠ 0) (hU : ∀ c, c ≠ b → tU T' c = tU T c) (hH : ∀ c, c ≠ b → tH T' c = tH T c) (hI : ∀ c, c ≠ b → tI T' c = tI T c) (hK : ∀ c, c ≠ b → tK T' c = tK T c) (hP : ∀ c, c ≠ b → tP T' c = tP T c) (hu : tU T' b = 0 ∨ tU T' b = 4) : m_ok B T' ∧ flat T' = flat T := by
  obtain ⟨hs, hv, hi, hso⟩ := h
  have nb : ∀ g c, c ∈ tR T g → c ≠ b := fun g c hc e => hn g (e ▸ hc)
  have hXb := nb _ _ (sk_root hs).1
  have fm : ∀ {α : Type} (K K' : Nat → List α) (g : Nat), (∀ c, c ≠ b → K' c = K c) → (tR T g).flatMap K' = (tR T g).flatMap K := fun {α} K K' g hk => by
    exact l_fm_eq (fun c hc => hk c (nb g c hc))
  have hfl : flat T' = flat T := by
    unfold flat
    rw [hR]
    exact fm _ _ 0 hI
  obtain ⟨s1, s2, s3, s4, s5, s6, s7, s8, s9, s10, s11, s12⟩ := id hs
  refine ⟨⟨⟨?_, ?_, ?_, ?_, ?_, ?_, ?_, ?_, ?_, ?_, ?_, ?_⟩, ?_, by rw [hfl]; exact hi, by rw [hfl]; exact hso⟩, hfl⟩
  · rw [hX, hH _ hXb]; exact s1
  · rw [hX, hH _ hXb, hR]; exact s2
  · rw [hX, hH _ hXb, hR]; exact s3
  · rw [hR]
    intro g c hc
    rw [hH c (nb g c hc), hU c (nb g c hc)]
    exact s4 g c hc
  · intro c hc hcu
    have e : c ≠ b := fun e => by rw [e] at hcu; omega
    rw [hU c e] at hcu
    rw [hR, hH c e]; exact s5 c hc hcu
  · rw [hR]; exact s6
  · rw [hX, hH _ hXb, hR]
    intro g hg
    rw [fm _ _ (g + 1) hK]; exact s7 g hg
  · rw [hR]
    intro g p hp c hc
    rw [hK p (nb _ p hp)] at hc
    rw [hP c (nb _ c (sk_kid hs hp hc).2.1)]
    exact s8 g p hp c hc
  · rw [hX, hP _ hXb]; exact s9
  · rw [hR]
    intro g p hp hy
    rw [hK p (nb _ p hp)]; exact s10 g p hp hy
  · rw [hU 0 (Ne.symm hb)]; exact s11
  · intro c hc
    by_cases e : c = b
    · rw [e]; omega
    · rw [hU c e]; exact s12 c hc
  · rw [hR]
    intro c hc
    rw [hI c (nb 0 c hc)]; exact hv c hc
theorem ok_take {b : Nat} (h : m_ok B T) (hb : 1 ≤ b) (hu : tU T b = 0) : m_ok B (m_take T b 4) ∧ flat (m_take T b 4) = flat T :=
  ok_off h rfl rfl (fun g => sk_fr h.1 hu) (by omega) (fun c hc => l_up_n hc) (fun c hc => l_up_n hc) (fun c hc => l_up_n hc) (fun c hc => l_up_n hc) (fun c hc => l_up_n hc) (Or.inr l_up_s)
theorem ok_free {b : Nat} (h : m_ok B T) (hb : 1 ≤ b) (hu : tU T b = 4) : m_ok B (tsU T b 0) ∧ flat (tsU T b 0) = flat T :=
  ok_off h rfl rfl (fun g hm => by
    have := (h.1.2.2.2.1 g b hm).2.2.2
    rw [hu] at this
    split at this <;> cases this) (by omega) (fun c hc => l_up_n hc) (fun _ _ => rfl) (fun _ _ => rfl) (fun _ _ => rfl) (fun _ _ => rfl) (Or.inl l_up_s)
/-- what is known behind a_tk -/
theorem tk_ok : ∀ {k : Nat} {T : m_T} {P : List Nat} {T' : m_T} {P' : List Nat}, m_ok B T → P.Nodup → (∀ b ∈ P, 1 ≤ b ∧ b < B ∧ tU T b = 4) → a_tk B k T P = some (T', P') →
    m_ok B T' ∧ flat T' = flat T ∧ P'.length = P.length + k ∧ P'.Nodup ∧ (∀ b ∈ P', 1 ≤ b ∧ b < B ∧ tU T' b = 4) ∧ (∀ b, b ∉ P' → tU T' b = tU T b) ∧ (∀ b ∈ P', b ∈ P ∨ tU T b = 0) ∧ ∃ Q, P' = P ++ Q
  | 0, T, P, T', P', h, hn, hp, ha => by
    have := Option.some.inj ha
    injection this with e1 e2
    subst e1; subst e2
    exact ⟨h, rfl, rfl, hn, hp, fun _ _ => rfl, fun b hb => Or.inl hb, [], by simp⟩
  | k + 1, T, P, T', P', h, hn, hp, ha => by
    rw [a_tk] at ha
    cases hf : m_free T B with
    | none => rw [hf] at ha; cases ha
    | some b =>
      rw [hf] at ha
      obtain ⟨f1, f2, f3⟩ := fr0_spec hf
      have hbP : b ∉ P := fun hm => by have := (hp b hm).2.2; rw [f3] at this; cases this
      obtain ⟨k1, k2⟩ := ok_take h f1 f3
      have un : ∀ c, c ≠ b → tU (m_take T b 4) c = tU T c := fun c hc => l_up_n hc
      have us : tU (m_take T b 4) b = 4 := l_up_s
      obtain ⟨q1, q2, q3, q4, q5, q6, q7, Q, q8⟩ := tk_ok (k := k) k1 (by
        rw [List.nodup_append]
        exact ⟨hn, by simp, fun x hx y hy e => by
          have : y = b := by simpa using hy
          rw [e, this] at hx; exact hbP hx⟩) (fun c hc => by
        rcases List.mem_append.mp hc with w | w
        · have hcb : c ≠ b := fun e => hbP (e ▸ w)
          rw [un c hcb]; exact hp c w
        · have : c = b := by simpa using w
          rw [this]; exact ⟨f1, by omega, us⟩) ha
      refine ⟨q1, q2.trans k2, by rw [q3, List.length_append, List.length_singleton]; omega, q4, q5, fun c hc => ?_, fun c hc => ?_, [b] ++ Q, by rw [q8, List.append_assoc]⟩
      · have hcb : c ≠ b := fun e => hc (by rw [q8, e]; simp)
        rw [q6 c hc, un c hcb]
      · rcases q7 c hc with w | w
        · rcases List.mem_append.mp w with z | z
          · exact Or.inl z
          · have : c = b := by simpa using z
            rw [this]; exact Or.inr f3
        · have hcb : c ≠ b := fun e => by rw [e, us] at w; cases w
          rw [un c hcb] at w; exact Or.inr w
theorem fr_ok : ∀ {L : List Nat} {T : m_T}, m_ok B T → L.Nodup → (∀ b ∈ L, 1 ≤ b ∧ tU T b = 4) → m_ok B (a_rel L T) ∧ flat (a_rel L T) = flat T ∧ (∀ b ∈ L, tU (a_rel L T) b = 0) ∧ ∀ b, b ∉ L → tU (a_rel L T) b = tU T b
  | [], T, h, _, _ => ⟨h, rfl, fun b hb => (by cases hb), fun _ _ => rfl⟩
  | a :: L, T, h, hn, hp => by
    obtain ⟨n1, n2⟩ := List.nodup_cons.mp hn
    obtain ⟨p1, p2⟩ := hp a List.mem_cons_self
    obtain ⟨k1, k2⟩ := ok_free h p1 p2
    have un : ∀ c, c ≠ a → tU (tsU T a 0) c = tU T c := fun c hc => l_up_n hc
    have us : tU (tsU T a 0) a = 0 := l_up_s
    obtain ⟨q1, q2, q3, q4⟩ := fr_ok k1 n2 (fun b hb => by
      rw [un b (fun e => n1 (e ▸ hb))]
      exact hp b (List.mem_cons_of_mem _ hb))
    refine ⟨q1, q2.trans k2, fun b hb => ?_, fun b hb => ?_⟩
    · show tU (a_rel L (tsU T a 0)) b = 0
      rcases List.mem_cons.mp hb with w | w
      · rw [w, q4 a n1, us]
      · exact q3 b w
    · show tU (a_rel L (tsU T a 0)) b = _
      rw [q4 b (fun w => hb (List.mem_cons_of_mem _ w)), un b (fun e => hb (e ▸ List.mem_cons_self))]
theorem data_ok {P P' : List Nat} {w : Nat} (h : m_ok B T) (hn : P.Nodup) (hp : ∀ b ∈ P, 1 ≤ b ∧ b < B ∧ tU T b = 4) (ha : a_data B T P w = some (T', P')) :
    m_ok B T' ∧ flat T' = flat T ∧ P'.length = w ∧ P'.Nodup ∧ (∀ b ∈ P', 1 ≤ b ∧ b < B ∧ tU T' b = 4) ∧ (∀ b, b ∉ P → b ∉ P' → tU T' b = tU T b) ∧ (∀ b ∈ P', b ∈ P ∨ tU T b = 0) ∧ (∀ b ∈ P, b ∉ P' → tU T' b = 0) ∧ ∃ k Q, P' = P.take k ++ Q ∧ (Q = [] ∨ P.take k = P) := by
  unfold a_data at ha
  by_cases e : P.length ≤ w
  · rw [if_pos e] at ha
    obtain ⟨q1, q2, q3, q4, q5, q6, q7, Q, q8⟩ := tk_ok h hn hp ha
    exact ⟨q1, q2, by rw [q3]; omega, q4, q5, fun b _ hb => q6 b hb, q7, fun b hb hb' => absurd (by rw [q8]; exact List.mem_append_left _ hb) hb', P.length, Q, by rw [List.take_length]; exact q8, Or.inr List.take_length⟩
  · rw [if_neg e] at ha
    have := Option.some.inj ha
    injection this with e1 e2
    subst e1; subst e2
    have hsp : P.take w ++ P.drop w = P := List.take_append_drop w P
    have hnd := hn
    rw [← hsp, List.nodup_append] at hnd
    obtain ⟨d1, d2, d3⟩ := hnd
    obtain ⟨q1, q2, q3, q4⟩ := fr_ok (L := (P.drop w).reverse) h (List.pairwise_reverse.mpr (List.Pairwise.imp (fun h => Ne.symm h) d2)) (fun b hb => by
      have := hp b (List.mem_of_mem_drop (List.mem_reverse.mp hb))
      exact ⟨this.1, this.2.2⟩)
    refine ⟨q1, q2, by rw [List.length_take]; omega, d1, fun b hb => ?_, fun b hb _ => ?_, fun b hb => Or.inl (List.mem_of_mem_take hb), fun b hb hb' => ?_, w, [], by simp, Or.inl rfl⟩
    · obtain ⟨z1, z2, z3⟩ := hp b (List.mem_of_mem_take hb)
      exact ⟨z1, z2, by rw [q4 b (fun w2 => d3 b hb b (List.mem_reverse.mp w2) rfl)]; exact z3⟩
    · exact q4 b (fun w2 => hb (List.mem_of_mem_drop (List.mem_reverse.mp w2)))
    · refine q3 b (List.mem_reverse.mpr ?_)
      rw [← hsp] at hb
      rcases List.mem_append.mp hb with z | z
      · exact absurd z hb'
      · exact z
end DA
