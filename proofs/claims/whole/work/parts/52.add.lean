/-! A node added: a full parent is split, a new root; the skeleton stays sound. -/
/-- child i of p goes to place j of q -/
def a_sh (T : m_T) (p i q j c : Nat) : m_T := tsP (tsK (tsK T p ((tK T p).eraseIdx i)) q ((tK (tsK T p ((tK T p).eraseIdx i)) q).insertIdx j c)) c (some q)
def a_h3 (T : m_T) (p q c0 c1 c2 c3 c4 c5 : Nat) : m_T := tsP (tsP (tsP (tsK (tsK T p [c0, c1, c2]) q [c3, c4, c5]) c5 (some q)) c4 (some q)) c3 (some q)
/-- the last three children of p go to q, and q stands behind p -/
def a_half (T : m_T) (p q : Nat) : m_T := match tK T p with
  | [c0, c1, c2, c3, c4, c5] => a_h3 T p q c0 c1 c2 c3 c4 c5
  | _ => T
def a_new (T : m_T) (p q : Nat) : m_T := tsH (m_take T q 3) q (tH T p)
def a_spl (T : m_T) (p q : Nat) : m_T := tsR (a_half (a_new T p q) p q) (tH T p) (m_insA p q (tR T (tH T p)))
def a_root (T : m_T) (r o x : Nat) : m_T := tsX (tsR (tsP (tsK (tsP (tsK (tsH (m_take T r 3) r (tH T o + 1)) r [o]) o (some r)) r [o, x]) x (some r)) (tH T o + 1) [r]) r
def a_add (B : Nat) : Nat → m_T → Nat → Nat → Option m_T
  | 0, _, _, _ => none
  | n + 1, T, o, x => match tP T o with
    | none => match m_free T B with
      | none => none
      | some r => some (a_root T r o x)
    | some p => if (tK T p).length < 5 then some (a_in T o x p) else match m_free (a_in T o x p) B with
      | none => none
      | some q => a_add B n (a_spl (a_in T o x p) p q) p q
theorem l_six {L : List Nat} (h : L.length = 6) : ∃ c0 c1 c2 c3 c4 c5, L = [c0, c1, c2, c3, c4, c5] := by
  match L, h with
  | [c0, c1, c2, c3, c4, c5], _ => exact ⟨c0, c1, c2, c3, c4, c5, rfl⟩
section AD
variable {B x y : Nat} {T : m_T}
theorem free_ok {b : Nat} (h : m_free T B = some b) : 1 ≤ b ∧ b < B ∧ tU T b = 0 := by
  obtain ⟨h1, h2, h3⟩ := fr0_spec h
  exact ⟨h1, by omega, h3⟩
theorem sk_newroot {h o r : Nat} (hB : B ≤ 96) (hs : m_sk B x 0 T) (ho : o ∈ tR T h) (hx : x ∈ tR T h) (hn : m_nx (tR T h) o = some x) (hp : tP T o = none) (hr : 1 ≤ r ∧ r < B ∧ tU T r = 0) : m_sk B 0 0 (a_root T r o x) ∧ h = tH T (tX T) ∧ o = tX T := by
  obtain ⟨A, C, hR, q1, q2, q3, q4, q5⟩ := l_nx_split (hs.2.2.2.2.2.1 h) hn
  obtain ⟨hh, p', hp', hc, hq⟩ | ⟨hH, hoX, -⟩ := sk_par hs ho q5
  case inl => rw [hp] at hq; cases hq
  have hrn : ∀ g, r ∉ tR T g := fun g => sk_fr hs hr.2.2
  have hxr : ∀ g, g ≠ h → x ∉ tR T g := fun g hg => sk_ht hs hx hg
  have hoh : tH T o = h := (hs.2.2.2.1 h o ho).2.2.1
  have hro : r ≠ o := fun e => hrn h (e ▸ ho)
  have hrx : r ≠ x := fun e => hrn h (e ▸ hx)
  have hRh : tR T h = [o, x] := by
    have h3 := hs.2.2.1
    rw [← hH, hR, show A ++ o :: x :: C = (A ++ [o]) ++ x :: C by simp, l_era_app (by simp [q2, Ne.symm q5])] at h3
    cases A with
    | nil =>
      simp only [List.nil_append, List.cons_append, List.cons.injEq] at h3
      rw [hR, h3.2]; rfl
    | cons a A => simp at h3
  have hs' := hs
  obtain ⟨a1, a2, a3, a4, a5, a6, a7, a8, a9, a10, a11, a12⟩ := hs
  have eX : tX (a_root T r o x) = r := rfl
  have eH : tH (a_root T r o x) = va_up (va_up (tH T) r 0) r (h + 1) := by rw [← hoh]; rfl
  have eR : tR (a_root T r o x) = va_up (tR T) (h + 1) [r] := by rw [← hoh]; rfl
  have eK : tK (a_root T r o x) = va_up (va_up (va_up (tK T) r []) r [o]) r [o, x] := rfl
  have eP : tP (a_root T r o x) = va_up (va_up (va_up (tP T) r none) o (some r)) x (some r) := rfl
  have eU : tU (a_root T r o x) = va_up (tU T) r 3 := rfl
  have eHr : tH (a_root T r o x) r = h + 1 := by rw [eH, l_up_s]
  have eHn : ∀ b, b ≠ r → tH (a_root T r o x) b = tH T b := fun b hb => by rw [eH, l_up_n hb, l_up_n hb]
  have eKr : tK (a_root T r o x) r = [o, x] := by rw [eK, l_up_s]
  have eKn : ∀ b, b ≠ r → tK (a_root T r o x) b = tK T b := fun b hb => by rw [eK, l_up_n hb, l_up_n hb, l_up_n hb]
  have eRr : tR (a_root T r o x) (h + 1) = [r] := by rw [eR, l_up_s]
  have eRn : ∀ g, g ≠ h + 1 → tR (a_root T r o x) g = tR T g := fun g hg => by rw [eR, l_up_n hg]
  have hrow : ∀ g, ∀ b ∈ tR (a_root T r o x) g, 1 ≤ b ∧ b < B ∧ tH (a_root T r o x) b = g ∧ tU (a_root T r o x) b = if g = 0 then 2 else 3 := fun g b hb => by
    by_cases e : g = h + 1
    · subst e
      rw [eRr] at hb
      have e2 : b = r := by simpa using hb
      subst e2
      exact ⟨hr.1, hr.2.1, eHr, by rw [eU, l_up_s, if_neg (by omega)]⟩
    · rw [eRn g e] at hb
      have e2 : b ≠ r := fun z => hrn g (z ▸ hb)
      obtain ⟨z1, z2, z3, z4⟩ := a4 g b hb
      exact ⟨z1, z2, by rw [eHn b e2]; exact z3, by rw [eU, l_up_n e2]; exact z4⟩
  have hnod : ∀ g, (tR (a_root T r o x) g).Nodup := fun g => by
    by_cases e : g = h + 1
    · subst e; rw [eRr]; simp
    · rw [eRn g e]; exact a6 g
  have z0 : ∀ g, m_era 0 (tR (a_root T r o x) g) = tR (a_root T r o x) g := fun g => l_era_no (fun hb => by have := (hrow g 0 hb).1; omega)
  have h7 : ∀ g, g < h + 1 → (tR (a_root T r o x) (g + 1)).flatMap (tK (a_root T r o x)) = tR (a_root T r o x) g := fun g hg => by
    by_cases e : g = h
    · subst e
      rw [eRr, eRn g (by omega), hRh]
      simp [eKr]
    · rw [eRn (g + 1) (by omega), eRn g (by omega), l_fm_eq (K := tK T) (fun z hz => eKn z (fun e => hrn _ (e ▸ hz))), a7 g (by omega), l_era_no (hxr g e)]
  have h10 : ∀ g, ∀ p ∈ tR (a_root T r o x) (g + 1), 2 ≤ (tK (a_root T r o x) p).length ∧ (tK (a_root T r o x) p).length ≤ 5 := fun g p hp => by
    by_cases e : g = h
    · subst e
      rw [eRr] at hp
      have e2 : p = r := by simpa using hp
      subst e2
      rw [eKr]; simp
    · rw [eRn _ (by omega)] at hp
      rw [eKn p (fun z => hrn _ (z ▸ hp))]
      exact a10 g p hp (fun z => sk_0 hs' (z ▸ hp))
  refine ⟨⟨?_, ?_, ?_, hrow, ?_, hnod, ?_, ?_, ?_, fun g p hp _ => h10 g p hp, ?_, ?_⟩, hH, hoX⟩
  · rw [eX, eHr]
    refine sk_top (R := tR (a_root T r o x)) (by rw [eRr]; simp) (fun g hg => ?_) ?_
    · rw [← h7 g hg]; exact l_fm_two (fun p hp => (h10 g p hp).1)
    · rw [eRn 0 (by omega)]; have := sk_len hs' (h := 0); omega
  · rw [eX, eHr]
    intro g hg
    rw [eRn g (by omega)]; exact a2 g (by omega)
  · rw [eX, eHr, z0, eRr]
  · intro b hb hu
    by_cases e : b = r
    · subst e; rw [eHr, eRr]; exact List.mem_cons_self
    · rw [eU, l_up_n e] at hu
      have := a5 b hb hu
      have h2 := sk_le hs' this
      rw [eHn b e, eRn _ (by omega)]; exact this
  · rw [eX, eHr]
    intro g hg
    rw [z0]; exact h7 g hg
  · intro g p hp c hc
    by_cases e : g = h
    · subst e
      rw [eRr] at hp
      have e2 : p = r := by simpa using hp
      subst e2
      rw [eKr] at hc
      rw [eP]
      by_cases e3 : c = x
      · subst e3; rw [l_up_s]
      · have e4 : c = o := by simpa [e3] using hc
        subst e4
        rw [l_up_n e3, l_up_s]
    · rw [eRn _ (by omega)] at hp
      rw [eKn p (fun z => hrn _ (z ▸ hp))] at hc
      obtain ⟨k1, k2, k3⟩ := sk_kid hs' hp hc
      have k4 : c ≠ o := fun z => by
        have := (a4 _ _ k2).2.2.1
        rw [z, hoh] at this
        exact e this.symm
      rw [eP, l_up_n k3, l_up_n k4, l_up_n (fun z => hrn _ (z ▸ k2))]
      exact a8 g p hp c hc
  · rw [eX, eP, l_up_n hrx, l_up_n hro, l_up_s]
  · rw [eU, l_up_n (by omega)]; exact a11
  · intro b hb
    rw [eU]
    by_cases e : b = r
    · rw [e, l_up_s]; omega
    · rw [l_up_n e]; exact a12 b hb
/-- the split of a node with six children -/
theorem sk_half {h p q c0 c1 c2 c3 c4 c5 : Nat} (hs : m_sk B 0 p T) (hp : p ∈ tR T (h + 1)) (hk : tK T p = [c0, c1, c2, c3, c4, c5]) (hq : 1 ≤ q ∧ q < B ∧ tU T q = 0) :
    m_sk B q 0 (a_spl T p q) ∧ tR (a_spl T p q) (h + 1) = m_insA p q (tR T (h + 1)) ∧ (∀ g, g ≠ h + 1 → tR (a_spl T p q) g = tR T g) ∧ m_nx (tR (a_spl T p q) (h + 1)) p = some q ∧ tH (a_spl T p q) (tX (a_spl T p q)) = tH T (tX T) := by
  have hph : tH T p = h + 1 := (hs.2.2.2.1 _ p hp).2.2.1
  have hqn : ∀ g, q ∉ tR T g := fun g => sk_fr hs hq.2.2
  have hpr : ∀ g, g ≠ h + 1 → p ∉ tR T g := fun g hg => sk_ht hs hp hg
  have hqp : q ≠ p := fun e => hqn _ (e ▸ hp)
  have hs' := hs
  have hle := sk_le hs hp
  obtain ⟨a1, a2, a3, a4, a5, a6, a7, a8, a9, a10, a11, a12⟩ := hs
  have ekn : tK (a_new T p q) p = [c0, c1, c2, c3, c4, c5] := by
    rw [show tK (a_new T p q) = va_up (tK T) q [] from rfl, l_up_n (Ne.symm hqp), hk]
  have eT : a_spl T p q = tsR (a_h3 (a_new T p q) p q c0 c1 c2 c3 c4 c5) (h + 1) (m_insA p q (tR T (h + 1))) := by
    unfold a_spl a_half
    rw [ekn, hph]
  rw [eT]
  generalize hT' : tsR (a_h3 (a_new T p q) p q c0 c1 c2 c3 c4 c5) (h + 1) (m_insA p q (tR T (h + 1))) = T'
  have eX : tX T' = tX T := by rw [← hT']; rfl
  have eH : tH T' = va_up (va_up (tH T) q 0) q (h + 1) := by rw [← hT', ← hph]; rfl
  have eR : tR T' = va_up (tR T) (h + 1) (m_insA p q (tR T (h + 1))) := by rw [← hT']; rfl
  have eK : tK T' = va_up (va_up (va_up (tK T) q []) p [c0, c1, c2]) q [c3, c4, c5] := by rw [← hT']; rfl
  have eP : tP T' = va_up (va_up (va_up (va_up (tP T) q none) c5 (some q)) c4 (some q)) c3 (some q) := by rw [← hT']; rfl
  have eU : tU T' = va_up (tU T) q 3 := by rw [← hT']; rfl
  clear hT' eT
  have eHq : tH T' q = h + 1 := by rw [eH, l_up_s]
  have eHn : ∀ b, b ≠ q → tH T' b = tH T b := fun b hb => by rw [eH, l_up_n hb, l_up_n hb]
  have eRr : tR T' (h + 1) = m_insA p q (tR T (h + 1)) := by rw [eR, l_up_s]
  have eRn : ∀ g, g ≠ h + 1 → tR T' g = tR T g := fun g hg => by rw [eR, l_up_n hg]
  have eKq : tK T' q = [c3, c4, c5] := by rw [eK, l_up_s]
  have eKp : tK T' p = [c0, c1, c2] := by rw [eK, l_up_n (Ne.symm hqp), l_up_s]
  have eKn : ∀ b, b ≠ p → b ≠ q → tK T' b = tK T b := fun b h1 h2 => by rw [eK, l_up_n h2, l_up_n h1, l_up_n h2]
  have hXq : tX T ≠ q := fun e => hqn _ (e ▸ (sk_root hs').1)
  have eHX : tH T' (tX T') = tH T (tX T) := by rw [eX, eHn _ hXq]
  have hkin : ∀ c, c ∈ [c0, c1, c2, c3, c4, c5] → c ∈ tR T h ∧ tP T c = some p := fun c hc => by
    rw [← hk] at hc
    exact ⟨(sk_kid hs' hp hc).2.1, a8 h p hp c hc⟩
  have hh : h < tH T (tX T) := by omega
  have hnd : [c0, c1, c2, c3, c4, c5].Nodup := by
    have h1 := sk_nd hs' hh
    obtain ⟨A, C, e, -, -⟩ := l_split2 (a6 (h + 1)) hp
    rw [e, l_fm_at, hk] at h1
    exact (List.nodup_append.mp (List.nodup_append.mp h1).2.1).1
  have z0 : ∀ g, m_era 0 (tR T g) = tR T g := fun g => l_era_no (sk_0 hs')
  have hPn : ∀ c, c ≠ q → c ∉ [c3, c4, c5] → tP T' c = tP T c := fun c h1 h2 => by
    have n3 : c ≠ c3 := fun e => h2 (by simp [e])
    have n4 : c ≠ c4 := fun e => h2 (by simp [e])
    have n5 : c ≠ c5 := fun e => h2 (by simp [e])
    rw [eP, l_up_n n3, l_up_n n4, l_up_n n5, l_up_n h1]
  have hPq : ∀ c, c ∈ [c3, c4, c5] → tP T' c = some q := fun c hc => by
    rw [eP]
    by_cases e3 : c = c3
    · subst e3; rw [l_up_s]
    · rw [l_up_n e3]
      by_cases e4 : c = c4
      · subst e4; rw [l_up_s]
      · have e5 : c = c5 := by simpa [e3, e4] using hc
        subst e5
        rw [l_up_n e4, l_up_s]
  have hsub : ∀ c, c ∈ [c3, c4, c5] → c ∈ tK T p := fun c hc => by
    rw [hk]
    simp only [List.mem_cons, List.not_mem_nil, or_false] at hc ⊢
    rcases hc with e | e | e <;> simp [e]
  refine ⟨⟨?_, ?_, ?_, ?_, ?_, ?_, ?_, ?_, ?_, ?_, ?_, ?_⟩, eRr, eRn, ?_, eHX⟩
  · rw [eHX]; exact a1
  · rw [eHX]; intro g hg
    rw [eRn g (by omega)]; exact a2 g hg
  · rw [eHX, eX]
    by_cases e : tH T (tX T) = h + 1
    · rw [e, eRr, l_era_insA (hqn _), ← e, ← a3, z0]
    · rw [eRn _ e, l_era_no (hqn _), ← a3, z0]
  · intro g b hb
    by_cases e : b = q
    · subst e
      have eg : g = h + 1 := by
        by_cases eg : g = h + 1
        · exact eg
        · rw [eRn g eg] at hb; exact absurd hb (hqn g)
      subst eg
      exact ⟨hq.1, hq.2.1, eHq, by rw [eU, l_up_s, if_neg (by omega)]⟩
    · have hb2 : b ∈ tR T g := by
        by_cases eg : g = h + 1
        · subst eg
          rw [eRr] at hb
          rcases (insA_mem hp).mp hb with z | z
          · exact absurd z e
          · exact z
        · rw [eRn g eg] at hb; exact hb
      obtain ⟨w1, w2, w3, w4⟩ := a4 g b hb2
      exact ⟨w1, w2, by rw [eHn b e]; exact w3, by rw [eU, l_up_n e]; exact w4⟩
  · intro b hb hu
    by_cases e : b = q
    · subst e; rw [eHq, eRr]; exact (insA_mem hp).mpr (Or.inl rfl)
    · rw [eU, l_up_n e] at hu
      have := a5 b hb hu
      rw [eHn b e]
      by_cases eg : tH T b = h + 1
      · rw [eg] at this ⊢
        rw [eRr]; exact (insA_mem hp).mpr (Or.inr this)
      · rw [eRn _ eg]; exact this
  · intro g
    by_cases eg : g = h + 1
    · subst eg; rw [eRr]; exact insA_nodup (a6 _) hp (hqn _)
    · rw [eRn g eg]; exact a6 g
  · rw [eHX]
    intro g hg
    by_cases e1 : g = h
    · subst e1
      rw [eRr, eRn g (by omega), eK, l_fm_half (K := va_up (tK T) q []) (a6 _) hp (hqn _) (by rw [l_up_n (Ne.symm hqp), hk]; rfl), l_fm_no (hqn _), a7 g hg, z0, l_era_no (hqn _)]
    · rw [eRn (g + 1) (by omega), l_fm_eq (K := tK T) (fun z hz => eKn z (fun e => hpr _ (by omega) (e ▸ hz)) (fun e => hqn _ (e ▸ hz))), a7 g hg, z0]
      by_cases e2 : g = h + 1
      · subst e2; rw [eRr, l_era_insA (hqn _)]
      · rw [eRn g e2, l_era_no (hqn _)]
  · intro g u hu c hc
    by_cases e : u = q
    · subst e; rw [eKq] at hc; exact hPq c hc
    · have hu2 : u ∈ tR T (g + 1) := by
        by_cases eg : g = h
        · subst eg
          rw [eRr] at hu
          rcases (insA_mem hp).mp hu with z | z
          · exact absurd z e
          · exact z
        · rw [eRn _ (by omega)] at hu; exact hu
      by_cases e2 : u = p
      · subst e2
        rw [eKp] at hc
        have hc6 : c ∈ [c0, c1, c2, c3, c4, c5] := by
          simp only [List.mem_cons, List.not_mem_nil, or_false] at hc ⊢
          rcases hc with z | z | z <;> simp [z]
        have hno : c ∉ [c3, c4, c5] := by
          have := (List.nodup_append (l₁ := [c0, c1, c2]) (l₂ := [c3, c4, c5])).mp hnd
          exact fun hm => this.2.2 c hc c hm rfl
        rw [hPn c (fun z => hqn _ (z ▸ (hkin c hc6).1)) hno]
        exact (hkin c hc6).2
      · rw [eKn u e2 e] at hc
        obtain ⟨k1, k2, k3⟩ := sk_kid hs' hu2 hc
        rw [hPn c (fun z => hqn _ (z ▸ k2)) (fun hm => ?_)]
        · exact a8 g u hu2 c hc
        · have w1 := a8 h p hp c (hsub c hm)
          have w2 := a8 g u hu2 c hc
          rw [w1] at w2
          exact e2 (Option.some.inj w2).symm
  · rw [eX, hPn _ hXq (fun hm => ?_)]
    · exact a9
    · have w1 := a8 h p hp _ (hsub _ hm)
      rw [a9] at w1; cases w1
  · intro g u hu _
    by_cases e : u = q
    · subst e; rw [eKq]; simp
    · by_cases e2 : u = p
      · subst e2; rw [eKp]; simp
      · rw [eKn u e2 e]
        have hu2 : u ∈ tR T (g + 1) := by
          by_cases eg : g = h
          · subst eg
            rw [eRr] at hu
            rcases (insA_mem hp).mp hu with z | z
            · exact absurd z e
            · exact z
          · rw [eRn _ (by omega)] at hu; exact hu
        exact a10 g u hu2 e2
  · rw [eU, l_up_n (by omega)]; exact a11
  · intro b hb
    rw [eU]
    by_cases e : b = q
    · rw [e, l_up_s]; omega
    · rw [l_up_n e]; exact a12 b hb
  · rw [eRr, nx_insA (a6 _) hp (hqn _), if_pos rfl]
end AD
