/-! Added: the loop keeps the skeleton. Gone: a node leaves its row and its parent; what its parent does then. -/
/-- what a change of the skeleton leaves as it was -/
def a_fr (T T' : m_T) : Prop := (∀ b, tU T b ≠ 0 → tU T' b = tU T b ∧ tI T' b = tI T b) ∧ (∀ b, tU T b = 0 → tU T' b = 0 ∨ tU T' b = 3) ∧ tR T' 0 = tR T 0
theorem a_fr_tr {T T1 T2 : m_T} (h1 : a_fr T T1) (h2 : a_fr T1 T2) : a_fr T T2 := by
  obtain ⟨a1, a2, a3⟩ := h1
  obtain ⟨b1, b2, b3⟩ := h2
  refine ⟨fun b hb => ?_, fun b hb => ?_, b3.trans a3⟩
  · obtain ⟨c1, c2⟩ := a1 b hb
    obtain ⟨d1, d2⟩ := b1 b (by rw [c1]; exact hb)
    exact ⟨d1.trans c1, d2.trans c2⟩
  · rcases a2 b hb with e | e
    · exact b2 b e
    · exact Or.inr ((b1 b (by rw [e]; decide)).1.trans e)
section GN
variable {B x y : Nat} {T T' : m_T}
theorem fr_in {o c p : Nat} : a_fr T (a_in T o c p) := ⟨fun _ _ => ⟨rfl, rfl⟩, fun _ hb => Or.inl hb, rfl⟩
theorem fr_root {r o c : Nat} (hr : tU T r = 0) : a_fr T (a_root T r o c) := by
  refine ⟨fun b hb => ?_, fun b hb => ?_, ?_⟩
  · have e : b ≠ r := fun z => hb (z ▸ hr)
    exact ⟨by rw [show tU (a_root T r o c) = va_up (tU T) r 3 from rfl, l_up_n e], by rw [show tI (a_root T r o c) = va_up (tI T) r [] from rfl, l_up_n e]⟩
  · rw [show tU (a_root T r o c) = va_up (tU T) r 3 from rfl]
    by_cases e : b = r
    · rw [e, l_up_s]; exact Or.inr rfl
    · rw [l_up_n e]; exact Or.inl hb
  · rw [show tR (a_root T r o c) = va_up (tR T) (tH T o + 1) [r] from rfl, l_up_n (by omega)]
theorem fr_spl {h p q c0 c1 c2 c3 c4 c5 : Nat} (hq : tU T q = 0) (hqp : q ≠ p) (hk : tK T p = [c0, c1, c2, c3, c4, c5]) (hph : tH T p = h + 1) : a_fr T (a_spl T p q) := by
  have ekn : tK (a_new T p q) p = [c0, c1, c2, c3, c4, c5] := by
    rw [show tK (a_new T p q) = va_up (tK T) q [] from rfl, l_up_n (Ne.symm hqp), hk]
  have eT : a_spl T p q = tsR (a_h3 (a_new T p q) p q c0 c1 c2 c3 c4 c5) (h + 1) (m_insA p q (tR T (h + 1))) := by
    unfold a_spl a_half
    rw [ekn, hph]
  rw [eT]
  generalize hT' : tsR (a_h3 (a_new T p q) p q c0 c1 c2 c3 c4 c5) (h + 1) (m_insA p q (tR T (h + 1))) = T'
  have eR : tR T' = va_up (tR T) (h + 1) (m_insA p q (tR T (h + 1))) := by rw [← hT']; rfl
  have eI : tI T' = va_up (tI T) q [] := by rw [← hT']; rfl
  have eU : tU T' = va_up (tU T) q 3 := by rw [← hT']; rfl
  refine ⟨fun b hb => ?_, fun b hb => ?_, ?_⟩
  · have e : b ≠ q := fun z => hb (z ▸ hq)
    exact ⟨by rw [eU, l_up_n e], by rw [eI, l_up_n e]⟩
  · rw [eU]
    by_cases e : b = q
    · rw [e, l_up_s]; exact Or.inr rfl
    · rw [l_up_n e]; exact Or.inl hb
  · rw [eR, l_up_n (by omega)]
theorem add_ok (hB : B ≤ 96) : ∀ (n h o x : Nat) (T : m_T), m_sk B x 0 T → o ∈ tR T h → x ∈ tR T h → m_nx (tR T h) o = some x → a_add B n T o x = some T' → m_sk B 0 0 T' ∧ a_fr T T'
  | 0, h, o, x, T, _, _, _, _, ha => by simp [a_add] at ha
  | n + 1, h, o, x, T, hs, ho, hx, hn, ha => by
    rw [a_add] at ha
    cases hp : tP T o with
    | none =>
      rw [hp] at ha
      cases hf : m_free T B with
      | none => rw [hf] at ha; cases ha
      | some r =>
        rw [hf] at ha
        have e := Option.some.inj ha
        have hr := free_ok hf
        rw [← e]
        exact ⟨(sk_newroot hB hs ho hx hn hp hr).1, fr_root hr.2.2⟩
    | some p =>
      rw [hp] at ha
      obtain ⟨h1, h2, h3, h4⟩ := sk_in hs ho hx hn hp
      have h5 := hs.2.2.2.2.2.2.2.2.2.1 h p h2 (fun e => sk_0 hs (e ▸ h2))
      have ek : tK (a_in T o x p) p = m_insA o x (tK T p) := l_up_s
      have el : (tK (a_in T o x p) p).length = (tK T p).length + 1 := by rw [ek, l_insA_len h4]
      by_cases hl : (tK T p).length < 5
      · simp only [hl, if_true] at ha
        have e := Option.some.inj ha
        rw [← e]
        exact ⟨sk_done h1 (by omega), fr_in⟩
      · simp only [hl, if_false] at ha
        cases hf : m_free (a_in T o x p) B with
        | none => rw [hf] at ha; cases ha
        | some q =>
          rw [hf] at ha
          have hq := free_ok hf
          obtain ⟨c0, c1, c2, c3, c4, c5, hk⟩ := l_six (L := tK (a_in T o x p) p) (by omega)
          have hqn : q ∉ tR T (h + 1) := sk_fr hs hq.2.2
          have hqp : q ≠ p := fun e => hqn (e ▸ h2)
          obtain ⟨k1, k2, k3, k4, k5⟩ := sk_half h1 (h := h) h2 hk hq
          have m1 : p ∈ tR (a_spl (a_in T o x p) p q) (h + 1) := by rw [k2]; exact (insA_mem h2).mpr (Or.inr h2)
          have m2 : q ∈ tR (a_spl (a_in T o x p) p q) (h + 1) := by rw [k2]; exact (insA_mem h2).mpr (Or.inl rfl)
          obtain ⟨j1, j2⟩ := add_ok hB n (h + 1) p q _ k1 m1 m2 k4 ha
          exact ⟨j1, a_fr_tr fr_in (a_fr_tr (fr_spl hq.2.2 hqp hk (hs.2.2.2.1 _ _ h2).2.2.1) j2)⟩
/-- a node leaves its row and its parent and is free -/
def a_off (T : m_T) (d p : Nat) : m_T := tsK (tsU (tsR T (tH T d) (m_era d (tR T (tH T d)))) d 0) p (m_era d (tK T p))
theorem sk_off {h d p : Nat} (hs : m_sk B 0 d T) (hd : d ∈ tR T h) (hp : tP T d = some p) (hk : h ≠ 0 → tK T d = []) : m_sk B 0 p (a_off T d p) ∧ p ∈ tR T (h + 1) ∧ d ∈ tK T p ∧ h < tH T (tX T) ∧ p ≠ d ∧ 2 ≤ (tK T p).length ∧ (tK T p).length ≤ 5 := by
  have hd0 : d ≠ 0 := fun e => sk_0 hs (e ▸ hd)
  obtain ⟨hh, p', hp', hc, hq⟩ | ⟨-, -, hq⟩ := sk_par hs hd hd0
  case inr => rw [hp] at hq; cases hq
  have e : p = p' := by rw [hp] at hq; exact Option.some.inj hq
  subst e
  have hpd : p ≠ d := fun e => sk_ht hs hd (show h + 1 ≠ h by omega) (e ▸ hp')
  have hdh : tH T d = h := (hs.2.2.2.1 h d hd).2.2.1
  have hdr : ∀ g, g ≠ h → d ∉ tR T g := fun g hg => sk_ht hs hd hg
  have hpr : ∀ g, g ≠ h + 1 → p ∉ tR T g := fun g hg => sk_ht hs hp' hg
  have hdX : tX T ≠ d := fun e => by rw [← e, hs.2.2.2.2.2.2.2.2.1] at hp; cases hp
  have z0 : ∀ g, m_era 0 (tR T g) = tR T g := fun g => l_era_no (sk_0 hs)
  have hnd := sk_nd hs hh
  have hs' := hs
  obtain ⟨a1, a2, a3, a4, a5, a6, a7, a8, a9, a10, a11, a12⟩ := hs
  have h10 := a10 h p hp' hpd
  refine ⟨?_, hp', hc, hh, hpd, h10.1, h10.2⟩
  generalize hT' : a_off T d p = T'
  have eX : tX T' = tX T := by rw [← hT']; rfl
  have eH : tH T' = tH T := by rw [← hT']; rfl
  have eR : tR T' = va_up (tR T) h (m_era d (tR T h)) := by rw [← hT', ← hdh]; rfl
  have eK : tK T' = va_up (tK T) p (m_era d (tK T p)) := by rw [← hT']; rfl
  have eP : tP T' = tP T := by rw [← hT']; rfl
  have eU : tU T' = va_up (tU T) d 0 := by rw [← hT']; rfl
  clear hT'
  have eRr : tR T' h = m_era d (tR T h) := by rw [eR, l_up_s]
  have eRn : ∀ g, g ≠ h → tR T' g = tR T g := fun g hg => by rw [eR, l_up_n hg]
  have hsub : ∀ g b, b ∈ tR T' g → b ∈ tR T g ∧ b ≠ d := fun g b hb => by
    by_cases e : g = h
    · subst e
      rw [eRr] at hb
      exact ⟨era_sub hb, fun e => (era_nodup (n := d) (a6 g)).2 (e ▸ hb)⟩
    · rw [eRn g e] at hb
      exact ⟨hb, fun z => hdr g e (z ▸ hb)⟩
  have zz : ∀ g, m_era 0 (tR T' g) = tR T' g := fun g => l_era_no (fun hb => sk_0 hs' (hsub g 0 hb).1)
  have eKp : tK T' p = m_era d (tK T p) := by rw [eK, l_up_s]
  have eKn : ∀ b, b ≠ p → tK T' b = tK T b := fun b hb => by rw [eK, l_up_n hb]
  refine ⟨by rw [eX, eH]; exact a1, ?_, ?_, ?_, ?_, ?_, ?_, ?_, by rw [eX, eP]; exact a9, ?_, ?_, ?_⟩
  · rw [eX, eH]; intro g hg
    rw [eRn g (by omega)]; exact a2 g hg
  · rw [eX, eH, eRn _ (by omega)]; exact a3
  · intro g b hb
    obtain ⟨w1, w2⟩ := hsub g b hb
    rw [eH, eU, l_up_n w2]; exact a4 g b w1
  · intro b hb hu
    have e : b ≠ d := fun z => by rw [z, eU, l_up_s] at hu; rcases hu with z | z <;> cases z
    rw [eU, l_up_n e] at hu
    have w := a5 b hb hu
    rw [eH]
    by_cases eg : tH T b = h
    · rw [eg] at w ⊢
      rw [eRr]; exact era_mem e w
    · rw [eRn _ eg]; exact w
  · intro g
    by_cases e : g = h
    · subst e; rw [eRr]; exact (era_nodup (a6 g)).1
    · rw [eRn g e]; exact a6 g
  · rw [eX, eH]
    intro g hg
    rw [zz]
    by_cases e1 : g = h
    · subst e1
      rw [eRn (g + 1) (by omega), eRr, eK, l_fm_era (a6 _) hp' hc hnd, a7 g hg, z0]
    · rw [eRn g e1]
      by_cases e2 : g + 1 = h
      · rw [e2, eRr, eK, l_fm_no (fun hm => hpr h (by omega) (era_sub hm)), l_fm_off (hk (by omega)), ← e2, a7 g hg, z0]
      · rw [eRn _ e2, eK, l_fm_no (hpr _ (by omega)), a7 g hg, z0]
  · intro g u hu c hcc
    rw [eP]
    obtain ⟨w1, w2⟩ := hsub _ u hu
    by_cases e : u = p
    · subst e; rw [eKp] at hcc; exact a8 g u w1 c (era_sub hcc)
    · rw [eKn u e] at hcc; exact a8 g u w1 c hcc
  · intro g u hu hup
    obtain ⟨w1, w2⟩ := hsub _ u hu
    rw [eKn u hup]; exact a10 g u w1 w2
  · rw [eU, l_up_n (Ne.symm hd0)]; exact a11
  · intro b hb
    rw [eU]
    by_cases e : b = d
    · rw [e, l_up_s]; omega
    · rw [l_up_n e]; exact a12 b hb
/-- children go over between neighbours -/
theorem sk_adj {h l r y' : Nat} {L1 L2 : List Nat} (hs : m_sk B 0 y T) (hx : m_nx (tR T (h + 1)) l = some r) (hy : y = l ∨ y = r) (hL : L1 ++ L2 = tK T l ++ tK T r) (eX : tX T' = tX T) (eH : tH T' = tH T) (eR : tR T' = tR T) (eU : tU T' = tU T) (eK : tK T' = va_up (va_up (tK T) l L1) r L2) (p1 : ∀ c ∈ L1, tP T' c = some l) (p2 : ∀ c ∈ L2, tP T' c = some r) (p3 : ∀ c, c ∉ L1 → c ∉ L2 → tP T' c = tP T c) (n1 : l ≠ y' → 2 ≤ L1.length ∧ L1.length ≤ 5) (n2 : r ≠ y' → 2 ≤ L2.length ∧ L2.length ≤ 5) : m_sk B 0 y' T' := by
  obtain ⟨A, C, hR, q1, q2, q3, q4, q5⟩ := l_nx_split (hs.2.2.2.2.2.1 (h + 1)) hx
  have hl : l ∈ tR T (h + 1) := nx_src hx
  have hr : r ∈ tR T (h + 1) := List.mem_of_mem_tail (nx_mem hx)
  have hmem : ∀ c, c ∈ L1 ∨ c ∈ L2 → c ∈ tK T l ∨ c ∈ tK T r := fun c hc => by
    rw [← List.mem_append, ← hL, List.mem_append]; exact hc
  have hs' := hs
  obtain ⟨a1, a2, a3, a4, a5, a6, a7, a8, a9, a10, a11, a12⟩ := hs
  have eKl : tK T' l = L1 := by rw [eK, l_up_n q5, l_up_s]
  have eKr : tK T' r = L2 := by rw [eK, l_up_s]
  have eKn : ∀ b, b ≠ l → b ≠ r → tK T' b = tK T b := fun b h1 h2 => by rw [eK, l_up_n h2, l_up_n h1]
  have hpar : ∀ c, c ∈ L1 ∨ c ∈ L2 → tP T c = some l ∨ tP T c = some r := fun c hc => by
    rcases hmem c hc with z | z
    · exact Or.inl (a8 h l hl c z)
    · exact Or.inr (a8 h r hr c z)
  refine ⟨by rw [eX, eH]; exact a1, by rw [eX, eH, eR]; exact a2, by rw [eX, eH, eR]; exact a3, by rw [eH, eR, eU]; exact a4, by rw [eH, eR, eU]; exact a5, by rw [eR]; exact a6, ?_, ?_, ?_, ?_, by rw [eU]; exact a11, by rw [eU]; exact a12⟩
  · rw [eX, eH, eR]
    intro g hg
    rw [← a7 g hg]
    by_cases e : g = h
    · subst e
      rw [eK, l_fm_adj (a6 _) hx hL]
    · exact l_fm_eq (fun z hz => eKn z (fun w => sk_ht hs' hl (show g + 1 ≠ h + 1 by omega) (w ▸ hz)) (fun w => sk_ht hs' hr (show g + 1 ≠ h + 1 by omega) (w ▸ hz)))
  · rw [eR]
    intro g u hu c hc
    by_cases e1 : u = l
    · subst e1; rw [eKl] at hc; exact p1 c hc
    · by_cases e2 : u = r
      · subst e2; rw [eKr] at hc; exact p2 c hc
      · rw [eKn u e1 e2] at hc
        have w := a8 g u hu c hc
        have hno : ¬ (c ∈ L1 ∨ c ∈ L2) := fun hm => by
          rcases hpar c hm with z | z
          · rw [w] at z; exact e1 (Option.some.inj z)
          · rw [w] at z; exact e2 (Option.some.inj z)
        rw [p3 c (fun z => hno (Or.inl z)) (fun z => hno (Or.inr z))]; exact w
  · rw [eX]
    have hno : ¬ (tX T ∈ L1 ∨ tX T ∈ L2) := fun hm => by
      rcases hpar _ hm with z | z <;> rw [a9] at z <;> cases z
    rw [p3 _ (fun z => hno (Or.inl z)) (fun z => hno (Or.inr z))]; exact a9
  · rw [eR]
    intro g u hu huy
    by_cases e1 : u = l
    · subst e1; rw [eKl]; exact n1 huy
    · by_cases e2 : u = r
      · subst e2; rw [eKr]; exact n2 huy
      · rw [eKn u e1 e2]
        exact a10 g u hu (fun e => by rcases hy with z | z; exact e1 (e.trans z); exact e2 (e.trans z))
def a_coll (T : m_T) (p c : Nat) : m_T := tsX (tsP (tsR (tsU T p 0) (tH T p) []) c none) c
theorem sk_coll {h p c : Nat} (hs : m_sk B 0 p T) (hp : p ∈ tR T (h + 1)) (hk : tK T p = [c]) (hpn : tP T p = none) : m_sk B 0 0 (a_coll T p c) ∧ h + 1 = tH T (tX T) ∧ p = tX T ∧ tR T (h + 1) = [p] ∧ c ∈ tR T h := by
  have hp0 : p ≠ 0 := fun e => sk_0 hs (e ▸ hp)
  obtain ⟨-, q, -, -, hq⟩ | ⟨hH, hpX, -⟩ := sk_par hs hp hp0
  case inl => rw [hpn] at hq; cases hq
  have z0 : ∀ g, m_era 0 (tR T g) = tR T g := fun g => l_era_no (sk_0 hs)
  have hph : tH T p = h + 1 := (hs.2.2.2.1 _ p hp).2.2.1
  have hRp : tR T (h + 1) = [p] := by rw [hH, ← z0, hs.2.2.1, ← hpX]
  have hRc : tR T h = [c] := by
    rw [← z0, ← hs.2.2.2.2.2.2.1 h (by omega), hRp]; simp [hk]
  have hcm : c ∈ tR T h := by rw [hRc]; exact List.mem_cons_self
  have hpr : ∀ g, g ≠ h + 1 → p ∉ tR T g := fun g hg => sk_ht hs hp hg
  have hs' := hs
  obtain ⟨a1, a2, a3, a4, a5, a6, a7, a8, a9, a10, a11, a12⟩ := hs
  refine ⟨?_, hH, hpX, hRp, hcm⟩
  generalize hT' : a_coll T p c = T'
  have eX : tX T' = c := by rw [← hT']; rfl
  have eH : tH T' = tH T := by rw [← hT']; rfl
  have eR : tR T' = va_up (tR T) (h + 1) [] := by rw [← hT', ← hph]; rfl
  have eK : tK T' = tK T := by rw [← hT']; rfl
  have eP : tP T' = va_up (tP T) c none := by rw [← hT']; rfl
  have eU : tU T' = va_up (tU T) p 0 := by rw [← hT']; rfl
  clear hT'
  have eRr : tR T' (h + 1) = [] := by rw [eR, l_up_s]
  have eRn : ∀ g, g ≠ h + 1 → tR T' g = tR T g := fun g hg => by rw [eR, l_up_n hg]
  have ehc : tH T c = h := (a4 _ _ hcm).2.2.1
  have hsub : ∀ g b, b ∈ tR T' g → b ∈ tR T g ∧ b ≠ p ∧ g ≠ h + 1 := fun g b hb => by
    by_cases e : g = h + 1
    · subst e; rw [eRr] at hb; cases hb
    · rw [eRn g e] at hb
      exact ⟨hb, fun z => hpr g e (z ▸ hb), e⟩
  have zz : ∀ g, m_era 0 (tR T' g) = tR T' g := fun g => l_era_no (fun hb => sk_0 hs' (hsub g 0 hb).1)
  refine ⟨?_, ?_, ?_, ?_, ?_, ?_, ?_, ?_, ?_, ?_, ?_, ?_⟩
  · rw [eX, eH, ehc]; omega
  · rw [eX, eH, ehc]; intro g hg
    by_cases e : g = h + 1
    · rw [e, eRr]
    · rw [eRn g e]; exact a2 g (by omega)
  · rw [zz, eX, eH, ehc, eRn h (by omega), hRc]
  · intro g b hb
    obtain ⟨w1, w2, w3⟩ := hsub g b hb
    rw [eH, eU, l_up_n w2]; exact a4 g b w1
  · intro b hb hu
    have e : b ≠ p := fun z => by rw [z, eU, l_up_s] at hu; rcases hu with z | z <;> cases z
    rw [eU, l_up_n e] at hu
    have w := a5 b hb hu
    rw [eH, eRn _ (fun z => e (by rw [z, hRp] at w; simpa using w))]; exact w
  · intro g
    by_cases e : g = h + 1
    · rw [e, eRr]; exact List.nodup_nil
    · rw [eRn g e]; exact a6 g
  · rw [eX, eH, ehc]
    intro g hg
    rw [zz, eRn (g + 1) (by omega), eRn g (by omega), eK, a7 g (by omega), z0]
  · intro g u hu c' hc'
    obtain ⟨w1, w2, w3⟩ := hsub _ u hu
    rw [eK] at hc'
    obtain ⟨k1, k2, k3⟩ := sk_kid hs' w1 hc'
    have hne : c' ≠ c := fun z => sk_ht hs' hcm (show g ≠ h by omega) (z ▸ k2)
    rw [eP, l_up_n hne]; exact a8 g u w1 c' hc'
  · rw [eX, eP, l_up_s]
  · intro g u hu _
    obtain ⟨w1, w2, w3⟩ := hsub _ u hu
    rw [eK]; exact a10 g u w1 w2
  · rw [eU, l_up_n (Ne.symm hp0)]; exact a11
  · intro b hb
    rw [eU]
    by_cases e : b = p
    · rw [e, l_up_s]; omega
    · rw [l_up_n e]; exact a12 b hb
end GN
