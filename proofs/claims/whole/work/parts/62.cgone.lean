/-! The class: a node gone is the abstract one. -/
section CG
variable {B t : Nat} {S S' : z_S} {T T' : m_T}
/-- a node leaves its row and is free -/
theorem C_leave {h d : Nat} (hB : B ≤ 96) (hT : c_T B t S T) (hd : d < B) (ud : tU T d = 2 ∨ tU T d = 3) (hh : tH T d = h) (hnd : (tR T h).Nodup) (hr : ∀ x ∈ tR T h, x < B ∧ tH T x = h) :
    ∃ S4, F_X4_leaveRow B t (nI d) S = some (.inl none, S4) ∧ c_T B t (z_ua S4 (t + 1) (upd (S4.1 (t + 1)) d 0)) (tsU (tsR T h (m_era d (tR T h))) d 0) ∧ m_fr t S (z_ua S4 (t + 1) (upd (S4.1 (t + 1)) d 0)) := by
  obtain ⟨S4, e, f67, fo, f2⟩ := C_leaveRow hB hT hd ud hh hnd hr
  obtain ⟨g0, g12, hU, hL, hN, hD⟩ := hT
  have ho : ∀ a, a ≠ t + 1 → a ≠ t + 6 → a ≠ t + 7 → (z_ua S4 (t + 1) (upd (S4.1 (t + 1)) d 0)).1 a = S.1 a := fun a h1 h2 h3 => by rw [m_ua1, if_neg h1]; exact fo a h2 h3
  have hne : ∀ c, (tU (tsU (tsR T h (m_era d (tR T h))) d 0) c = 2 ∨ tU (tsU (tsR T h (m_era d (tR T h))) d 0) c = 3) → c ≠ d ∧ tU (tsU (tsR T h (m_era d (tR T h))) d 0) c = tU T c := fun c hc => by
    by_cases e : c = d
    · rw [e, show tU (tsU (tsR T h (m_era d (tR T h))) d 0) d = 0 from l_up_s] at hc; rcases hc with z | z <;> cases z
    · exact ⟨e, l_up_n (f := tU T) (v := 0) e⟩
  refine ⟨S4, e, ⟨?_, ?_, fun c hc => ?_, fun c hc hu => ?_, fun c hc hu => ?_, fun c hc hu => ?_⟩, fun a ha => ?_, fun a k _ => ?_, ?_⟩
  · show S4.2.1 t 0 = nI B
    rw [f2]; exact g0
  · show S4.2.1 t 12 = _
    rw [f2]; exact g12
  · rw [m_ua1, if_pos rfl]
    by_cases e : c = d
    · rw [e, pk_us, show tU (tsU (tsR T h (m_era d (tR T h))) d 0) d = 0 from l_up_s]; rfl
    · rw [pk_un e, fo _ (by omega) (by omega), hU c hc, show tU (tsU (tsR T h (m_era d (tR T h))) d 0) c = tU T c from l_up_n e]
  · obtain ⟨n1, n2⟩ := hne c (Or.inl hu)
    obtain ⟨q3, q4, q9, q10, q11, qn⟩ := hL c hc (by rw [← n2]; exact hu)
    exact ⟨by rw [ho _ (by omega) (by omega) (by omega)]; exact q3, by rw [ho _ (by omega) (by omega) (by omega)]; exact q4, by rw [ho _ (by omega) (by omega) (by omega)]; exact q9, by rw [ho _ (by omega) (by omega) (by omega)]; exact q10, by rw [ho _ (by omega) (by omega) (by omega)]; exact q11, qn⟩
  · obtain ⟨n1, n2⟩ := hne c (Or.inr hu)
    obtain ⟨q3, q4, q8, qn⟩ := hN c hc (by rw [← n2]; exact hu)
    exact ⟨by rw [ho _ (by omega) (by omega) (by omega)]; exact q3, by rw [ho _ (by omega) (by omega) (by omega)]; exact q4, by rw [ho _ (by omega) (by omega) (by omega)]; exact q8, qn⟩
  · obtain ⟨n1, n2⟩ := hne c hu
    obtain ⟨q2, q5, q6, q7⟩ := hD c hc (by rw [← n2]; exact hu)
    obtain ⟨w6, w7⟩ := f67 c hc n1 (by rw [← n2]; exact hu)
    have eh : tH (tsU (tsR T h (m_era d (tR T h))) d 0) c = tH T c := rfl
    have eR : tR (tsU (tsR T h (m_era d (tR T h))) d 0) = va_up (tR T) h (m_era d (tR T h)) := rfl
    refine ⟨by rw [ho _ (by omega) (by omega) (by omega)]; exact q2, by rw [ho _ (by omega) (by omega) (by omega)]; exact q5, ?_, ?_⟩
    · rw [m_ua1, if_neg (by omega), w6, eh, eR]
      by_cases e : tH T c = h
      · rw [if_pos e, e, l_up_s]
      · rw [if_neg e, l_up_n e]; exact q6
    · rw [m_ua1, if_neg (by omega), w7, eh, eR]
      by_cases e : tH T c = h
      · rw [if_pos e, e, l_up_s]
      · rw [if_neg e, l_up_n e]; exact q7
  · rw [ho a (by omega) (by omega) (by omega)]
  · show S4.2.1 a k = S.2.1 a k
    rw [f2]
  · show S4.2.2 = S.2.2
    rw [f2]
theorem low_ne {rec : m_T → Nat → m_T} {p : Nat} (h : (tK T p).length ≠ 1) : a_low rec T p = T := by
  unfold a_low
  match hk : tK T p, h with
  | [], _ => rfl
  | [c], h => exact absurd rfl h
  | a :: b :: L, _ => rfl
theorem low_root {rec : m_T → Nat → m_T} {p c : Nat} (hk : tK T p = [c]) (hp : tP T p = none) : a_low rec T p = a_coll T p c := by
  unfold a_low
  rw [hk]
  simp only []
  rw [hp]
theorem low_rest {rec : m_T → Nat → m_T} {p c q : Nat} (hk : tK T p = [c]) (hp : tP T p = some q) : a_low rec T p = a_rest rec T p c (m_pv (tR T (tH T p)) p) (m_nx (tR T (tH T p)) p) := by
  unfold a_low
  rw [hk]
  simp only []
  rw [hp]
/-- the root with one child goes -/
theorem C_coll {h p c : Nat} (hT : c_T B t S T) (hs : m_sk B 0 p T) (hp : p ∈ tR T (h + 1)) (hk : tK T p = [c]) (hpn : tP T p = none) : c_T B t (z_ua (z_ua (z_ui S t 12 (nI c)) (t + 5) (upd (S.1 (t + 5)) c (-1))) (t + 1) (upd (S.1 (t + 1)) p 0)) (a_coll T p c) := by
  obtain ⟨-, -, -, hR, -⟩ := sk_coll hs hp hk hpn
  have hph : tH T p = h + 1 := (hs.2.2.2.1 _ p hp).2.2.1
  have c1 := c_T_root (r := c) hT
  have c2 : c_T B t (z_ua (z_ui S t 12 (nI c)) (t + 5) (upd (S.1 (t + 5)) c (-1))) (tsP (tsX T c) c none) := c_T_par (c := c) (p := none) c1 (by rw [m_ua1, if_pos rfl]; rfl) (fun a ha => by rw [m_ua1, if_neg ha]) rfl
  have c3 := c_T_free (b := p) c2
  have e1 : (z_ua (z_ui S t 12 (nI c)) (t + 5) (upd (S.1 (t + 5)) c (-1))).1 (t + 1) = S.1 (t + 1) := by rw [m_ua1, if_neg (by omega)]; rfl
  rw [e1] at c3
  refine c_T_ext c3 rfl rfl (fun _ _ _ => rfl) (fun _ _ _ => rfl) (fun _ _ _ => rfl) (fun _ _ _ => rfl) (fun b hb hu => ?_)
  have eR1 : tR (a_coll T p c) = va_up (tR T) (h + 1) [] := by rw [← hph]; rfl
  have eR2 : tR (tsU (tsP (tsX T c) c none) p 0) = tR T := rfl
  have eH : tH (tsU (tsP (tsX T c) c none) p 0) b = tH T b := rfl
  rw [eR1, eR2, eH]
  have hbp : b ≠ p := fun e => by
    rw [e, show tU (tsU (tsP (tsX T c) c none) p 0) p = 0 from l_up_s] at hu
    rcases hu with z | z <;> cases z
  by_cases e : tH T b = h + 1
  · rw [e, l_up_s, hR, pv_none (by simp [hbp]), nx_none (by simp [hbp])]
    exact ⟨rfl, rfl⟩
  · rw [l_up_n e]; exact ⟨rfl, rfl⟩
/-- the one child goes to a neighbour, or one comes -/
theorem C_rest {h p c q m n : Nat} (hB : B ≤ 96) (hT : c_T B t S T) (hs : m_sk B 0 p T) (hp : p ∈ tR T (h + 1)) (hk : tK T p = [c]) (hq : tP T p = some q)
    (IH : ∀ (T' : m_T) (S' : z_S), c_T B t S' T' → m_sk B 0 p T' → p ∈ tR T' (h + 1) → tK T' p = [] → tP T' p = some q → ∃ S'', F_X4_dropNode_4 B t m (nI p) (nI (h + 1)) S' = some (.inl none, S'') ∧ c_T B t S'' (a_gone n T' p) ∧ m_fr t S' S'') :
    ∃ S', (if oI (m_pv (tR T (h + 1)) p) = (-1) then
            F_X4_dropNode_160 B t (F_X4_dropNode_238 B t (F_X4_dropNode_4 B t m) ) (nI h) (nI p) (oI (m_pv (tR T (h + 1)) p)) (oI (m_nx (tR T (h + 1)) p)) S
          else
            z_gd (z_inb (oI (m_pv (tR T (h + 1)) p)) B) (
            z_lt (S.1 (t + 3) (z_ix (oI (m_pv (tR T (h + 1)) p)))) fun x23 =>
            (if 5 ≤ x23 then
              F_X4_dropNode_160 B t (F_X4_dropNode_238 B t (F_X4_dropNode_4 B t m) ) (nI h) (nI p) (oI (m_pv (tR T (h + 1)) p)) (oI (m_nx (tR T (h + 1)) p)) S
            else
              z_gd (z_inb (oI (m_pv (tR T (h + 1)) p)) B) (
              z_lt (S.1 (t + 3) (z_ix (oI (m_pv (tR T (h + 1)) p)))) fun x25 =>
              (z_bo (F_X4_shiftChild B t (nI p) 0 (oI (m_pv (tR T (h + 1)) p)) x25 S) fun S27 =>
              (F_X4_dropNode_238 B t (F_X4_dropNode_4 B t m) (nI h) (nI p) S27)))))) = some (.inl none, S') ∧ c_T B t S' (a_rest (a_gone n) T p c (m_pv (tR T (h + 1)) p) (m_nx (tR T (h + 1)) p)) ∧ m_fr t S S' := by
  have hnd := hs.2.2.2.2.2.1 (h + 1)
  have row : ∀ b ∈ tR T (h + 1), b < B ∧ tU T b = 3 := fun b hb => by
    obtain ⟨b1, b2, b3, b4⟩ := hs.2.2.2.1 _ b hb
    rw [if_neg (by omega)] at b4
    exact ⟨b2, b4⟩
  have five : ∀ b ∈ tR T (h + 1), b ≠ p → 2 ≤ (tK T b).length ∧ (tK T b).length ≤ 5 := fun b hb hbp => hs.2.2.2.2.2.2.2.2.2.1 h b hb hbp
  have mem : ∀ b ∈ tR T (h + 1), S.1 (t + 3) b = nI (tK T b).length := fun b hb => c_mem hT (row b hb).1 (row b hb).2
  have kidB : ∀ b ∈ tR T (h + 1), ∀ e ∈ tK T b, e < B := fun b hb e he => (hs.2.2.2.1 h e (sk_kid hs hb he).2.1).2.1
  obtain ⟨pB, pU⟩ := row p hp
  have cB : c < B := kidB p hp c (by rw [hk]; exact List.mem_cons_self)
  have hcp : p ≠ c := fun e => by
    have := (sk_kid hs hp (c := c) (by rw [hk]; exact List.mem_cons_self)).2.1
    exact sk_ht hs hp (show h ≠ h + 1 by omega) (e ▸ this)
  have hnb : ∀ l, m_pv (tR T (h + 1)) p = some l → l ∈ tR T (h + 1) ∧ l ≠ p := fun l hl => by
    have hx := (nx_pv hnd).mpr hl
    exact ⟨nx_src hx, fun e => nx_ne hnd (e ▸ hx : m_nx (tR T (h + 1)) l = some l)⟩
  have hnr : ∀ r, m_nx (tR T (h + 1)) p = some r → r ∈ tR T (h + 1) ∧ r ≠ p := fun r hr => ⟨List.mem_of_mem_tail (nx_mem hr), fun e => nx_ne hnd (e ▸ hr : m_nx (tR T (h + 1)) r = some r)⟩
  -- to the left
  have goL : ∀ l, m_pv (tR T (h + 1)) p = some l → (tK T l).length < 5 → ∃ S', z_bo (F_X4_shiftChild B t (nI p) 0 (nI l) (nI (tK T l).length) S) (fun S27 => F_X4_dropNode_238 B t (F_X4_dropNode_4 B t m) (nI h) (nI p) S27) = some (.inl none, S') ∧ c_T B t S' (a_gone n (a_goL T p c l) p) ∧ m_fr t S S' := fun l hl h5 => by
    obtain ⟨l1, l2⟩ := hnb l hl
    obtain ⟨S1, e1, d1, f1⟩ := C_shiftChild (f := p) (i := 0) (g := l) (j := (tK T l).length) (c := c) hB hT pB (row l l1).1 cB (Ne.symm l2) pU (row l l1).2 (by rw [hk]; rfl) (Nat.le_refl _) (by omega)
    have e1' : F_X4_shiftChild B t (nI p) 0 (nI l) (nI (tK T l).length) S = some (.inl none, S1) := e1
    have d1' : c_T B t S1 (a_goL T p c l) := by
      have w1 : (tK T p).eraseIdx 0 = [] := by rw [hk]; rfl
      have w2 : (tK T l).insertIdx (tK T l).length c = tK T l ++ [c] := by simp
      rw [w1, w2] at d1
      exact d1
    have hK : tK (a_goL T p c l) p = [] := by
      rw [show tK (a_goL T p c l) = va_up (va_up (tK T) p []) l (tK T l ++ [c]) from rfl, l_up_n (Ne.symm l2), l_up_s]
    have hP : tP (a_goL T p c l) p = some q := by
      rw [show tP (a_goL T p c l) = va_up (tP T) c (some l) from rfl, l_up_n hcp]; exact hq
    obtain ⟨S2, e2, d2, f2⟩ := IH (a_goL T p c l) S1 d1' (sk_goL hs hp hk hl h5) hp hK hP
    refine ⟨S2, ?_, d2, m_fr_tr f1 f2⟩
    rw [e1', m_bo, F_X4_dropNode_238, nI_1]
    exact e2
  have goR : ∀ r, m_nx (tR T (h + 1)) p = some r → (tK T r).length < 5 → ∃ S', z_bo (F_X4_shiftChild B t (nI p) 0 (nI r) 0 S) (fun S4 => F_X4_dropNode_238 B t (F_X4_dropNode_4 B t m) (nI h) (nI p) S4) = some (.inl none, S') ∧ c_T B t S' (a_gone n (a_goR T p c r) p) ∧ m_fr t S S' := fun r hr h5 => by
    obtain ⟨r1, r2⟩ := hnr r hr
    obtain ⟨S1, e1, d1, f1⟩ := C_shiftChild (f := p) (i := 0) (g := r) (j := 0) (c := c) hB hT pB (row r r1).1 cB (Ne.symm r2) pU (row r r1).2 (by rw [hk]; rfl) (Nat.zero_le _) (by omega)
    have e1' : F_X4_shiftChild B t (nI p) 0 (nI r) 0 S = some (.inl none, S1) := e1
    have d1' : c_T B t S1 (a_goR T p c r) := by
      have w1 : (tK T p).eraseIdx 0 = [] := by rw [hk]; rfl
      rw [w1] at d1
      exact d1
    have hK : tK (a_goR T p c r) p = [] := by
      rw [show tK (a_goR T p c r) = va_up (va_up (tK T) p []) r (c :: tK T r) from rfl, l_up_n (Ne.symm r2), l_up_s]
    have hP : tP (a_goR T p c r) p = some q := by
      rw [show tP (a_goR T p c r) = va_up (tP T) c (some r) from rfl, l_up_n hcp]; exact hq
    obtain ⟨S2, e2, d2, f2⟩ := IH (a_goR T p c r) S1 d1' (sk_goR hs hp hk hr h5) hp hK hP
    refine ⟨S2, ?_, d2, m_fr_tr f1 f2⟩
    rw [e1', m_bo, F_X4_dropNode_238, nI_1]
    exact e2
  have boL : ∀ l (v6 : Int32), m_pv (tR T (h + 1)) p = some l → ¬ (tK T l).length < 5 → ∃ S', F_X4_dropNode_190 B t (nI p) (nI l) v6 S = some (.inl none, S') ∧ c_T B t S' (a_boL T p c l) ∧ m_fr t S S' := fun l v6 hl h5 => by
    obtain ⟨l1, l2⟩ := hnb l hl
    have h5' := five l l1 l2
    obtain ⟨e, eg⟩ := (sk_boL hs hp hk hl h5).2
    have hdl := l_gl eg
    have lD : (tK T l).dropLast.length = (tK T l).length - 1 := List.length_dropLast
    have hLk : (tK T l)[(tK T l).length - 1]? = some e := by
      rw [← lD]
      have : ((tK T l).dropLast ++ [e])[(tK T l).dropLast.length]? = some e := by simp
      rw [hdl] at this
      exact this
    have hLe : (tK T l).eraseIdx ((tK T l).length - 1) = (tK T l).dropLast := by
      have : ((tK T l).dropLast ++ [e]).eraseIdx (tK T l).dropLast.length = (tK T l).dropLast := by rw [List.eraseIdx_append_of_length_le (Nat.le_refl _)]; simp
      rw [hdl, lD] at this
      exact this
    have eB : e < B := kidB l l1 e (List.mem_of_getElem? hLk)
    obtain ⟨S1, e1, d1, f1⟩ := C_shiftChild (f := l) (i := (tK T l).length - 1) (g := p) (j := 0) (c := e) hB hT (row l l1).1 pB eB l2 (row l l1).2 pU hLk (Nat.zero_le _) (by rw [hk]; simp)
    rw [hLe, hk] at d1
    have d1' : c_T B t S1 (a_boL T p c l) := by
      unfold a_boL
      rw [eg]
      exact d1
    refine ⟨S1, ?_, d1', f1⟩
    unfold F_X4_dropNode_190
    have es : nI (tK T l).length - 1 = nI ((tK T l).length - 1) := by rw [m_c1, pk_sub (by omega)]
    have e1' : F_X4_shiftChild B t (nI l) (nI ((tK T l).length - 1)) (nI p) 0 S = some (.inl none, S1) := e1
    have lB := (row l l1).1
    rw [if_neg (m_ne1 (by omega)), m_gd (m_inb lB (by omega)), m_lt, m_ix (i := l) (by omega), mem l l1, es, e1', m_bo]
  have boR : ∀ r, m_nx (tR T (h + 1)) p = some r → ¬ (tK T r).length < 5 → ∃ S', F_X4_dropNode_190 B t (nI p) (-1) (nI r) S = some (.inl none, S') ∧ c_T B t S' (a_boR T p c r) ∧ m_fr t S S' := fun r hr h5 => by
    obtain ⟨r1, r2⟩ := hnr r hr
    obtain ⟨e, L, ek⟩ := (sk_boR hs hp hk hr h5).2
    have eB : e < B := kidB r r1 e (by rw [ek]; exact List.mem_cons_self)
    obtain ⟨S1, e1, d1, f1⟩ := C_shiftChild (f := r) (i := 0) (g := p) (j := 1) (c := e) hB hT (row r r1).1 pB eB r2 (row r r1).2 pU (by rw [ek]; rfl) (by rw [hk]; simp) (by rw [hk]; simp)
    rw [hk, ek] at d1
    have d1' : c_T B t S1 (a_boR T p c r) := by
      unfold a_boR
      rw [ek]
      exact d1
    refine ⟨S1, ?_, d1', f1⟩
    unfold F_X4_dropNode_190
    have m1 : S.1 (t + 3) p = 1 := by rw [mem p hp, hk]; rfl
    have e1' : F_X4_shiftChild B t (nI r) 0 (nI p) 1 S = some (.inl none, S1) := e1
    have rB := (row r r1).1
    rw [if_pos rfl, if_neg (m_ne1 (by omega)), m_gd (m_inb pB (by omega)), m_lt, m_ix (i := p) (by omega), m1, e1', m_bo, F_X4_dropNode_237]
  have five' : ∀ b ∈ tR T (h + 1), ((5 : Int32) ≤ nI (tK T b).length ↔ ¬ (tK T b).length < 5) := fun b hb => by
    have hle : (tK T b).length < 2 ^ 31 := by
      by_cases e : b = p
      · rw [e, hk]; simp
      · have := (five b hb e).2; omega
    rw [m_c5, nI_leI (by omega) hle]
    omega
  -- the four
  have R160 : ∀ (v5 : Int32) r, m_nx (tR T (h + 1)) p = some r → F_X4_dropNode_160 B t (F_X4_dropNode_238 B t (F_X4_dropNode_4 B t m) ) (nI h) (nI p) v5 (nI r) S = if (tK T r).length < 5 then z_bo (F_X4_shiftChild B t (nI p) 0 (nI r) 0 S) (fun S4 => F_X4_dropNode_238 B t (F_X4_dropNode_4 B t m) (nI h) (nI p) S4) else F_X4_dropNode_190 B t (nI p) v5 (nI r) S := fun v5 r hr => by
    obtain ⟨r1, r2⟩ := hnr r hr
    have rB := (row r r1).1
    unfold F_X4_dropNode_160
    rw [if_neg (m_ne1 (by omega)), m_gd (m_inb rB (by omega)), m_lt, m_ix (i := r) (by omega), mem r r1]
    by_cases h5 : (tK T r).length < 5
    · rw [if_neg (fun e => (five' r r1).mp e h5), if_pos h5]
    · rw [if_pos ((five' r r1).mpr h5), if_neg h5]
  cases hl : m_pv (tR T (h + 1)) p with
  | none =>
    rw [if_pos (show oI none = -1 from rfl)]
    cases hr : m_nx (tR T (h + 1)) p with
    | none => exact absurd ⟨hl, hr⟩ (sk_beside hs hp hq)
    | some r =>
      rw [show oI (some r) = nI r from rfl, R160 _ r hr, show a_rest (a_gone n) T p c none (some r) = if (tK T r).length < 5 then a_gone n (a_goR T p c r) p else a_boR T p c r from rfl]
      by_cases h5 : (tK T r).length < 5
      · rw [if_pos h5, if_pos h5]; exact goR r hr h5
      · rw [if_neg h5, if_neg h5]; exact boR r hr h5
  | some l =>
    obtain ⟨l1, l2⟩ := hnb l hl
    have lB := (row l l1).1
    rw [show oI (some l) = nI l from rfl, if_neg (m_ne1 (by omega)), m_gd (m_inb lB (by omega)), m_lt, m_ix (i := l) (by omega), mem l l1]
    by_cases h5 : (tK T l).length < 5
    · rw [if_neg (fun e => (five' l l1).mp e h5), m_gd (m_inb lB (by omega)), m_lt]
      have ea : ∀ r, a_rest (a_gone n) T p c (some l) r = a_gone n (a_goL T p c l) p := fun r => by
        cases r with
        | none => rw [show a_rest (a_gone n) T p c (some l) none = if (tK T l).length < 5 then a_gone n (a_goL T p c l) p else a_boL T p c l from rfl, if_pos h5]
        | some r => rw [show a_rest (a_gone n) T p c (some l) (some r) = if (tK T l).length < 5 then a_gone n (a_goL T p c l) p else if (tK T r).length < 5 then a_gone n (a_goR T p c r) p else a_boL T p c l from rfl, if_pos h5]
      rw [ea]
      exact goL l hl h5
    · rw [if_pos ((five' l l1).mpr h5)]
      cases hr : m_nx (tR T (h + 1)) p with
      | none =>
        rw [show a_rest (a_gone n) T p c (some l) none = if (tK T l).length < 5 then a_gone n (a_goL T p c l) p else a_boL T p c l from rfl, if_neg h5]
        unfold F_X4_dropNode_160
        rw [if_pos (show oI none = -1 from rfl)]
        exact boL l _ hl h5
      | some r =>
        rw [show oI (some r) = nI r from rfl, R160 _ r hr, show a_rest (a_gone n) T p c (some l) (some r) = if (tK T l).length < 5 then a_gone n (a_goL T p c l) p else if (tK T r).length < 5 then a_gone n (a_goR T p c r) p else a_boL T p c l from rfl, if_neg h5]
        by_cases h6 : (tK T r).length < 5
        · rw [if_pos h6, if_pos h6]; exact goR r hr h6
        · rw [if_neg h6, if_neg h6]; exact boL l _ hl h5
theorem C_dropNode_loop (hB : B ≤ 96) : ∀ (n m h d p : Nat) (T : m_T) (S : z_S), h + n = 8 → n < m → c_T B t S T → m_sk B 0 d T → d ∈ tR T h → tP T d = some p → (h ≠ 0 → tK T d = []) → ∃ S', F_X4_dropNode_4 B t m (nI d) (nI h) S = some (.inl none, S') ∧ c_T B t S' (a_gone n T d) ∧ m_fr t S S'
  | 0, m, h, d, p, T, S, hh, hm, hT, hs, hd, hp, hk => by
    have := sk_le hs hd
    have := hs.1
    omega
  | n + 1, m, h, d, p, T, S, hh, hm, hT, hs, hd, hp, hk => by
    obtain ⟨m, rfl⟩ : ∃ k, m = k + 1 := ⟨m - 1, by omega⟩
    obtain ⟨s1, s2, s3, s4, s5, s6, s7⟩ := sk_off hs hd hp hk
    obtain ⟨d1, d2, d3, d4⟩ := hs.2.2.2.1 h d hd
    obtain ⟨p1, p2, p3, p4⟩ := hs.2.2.2.1 _ p s2
    rw [if_neg (by omega)] at p4
    have h6 := hs.1
    have ud : tU T d = 2 ∨ tU T d = 3 := by rw [d4]; split <;> simp
    have hrow : ∀ z ∈ tR T h, z < B ∧ tH T z = h := fun z hz => ⟨(hs.2.2.2.1 h z hz).2.1, (hs.2.2.2.1 h z hz).2.2.1⟩
    obtain ⟨S4, e4, c4, f4⟩ := C_leave hB hT d2 ud d3 (hs.2.2.2.2.2.1 h) hrow
    generalize hS7 : z_ua S4 (t + 1) (upd (S4.1 (t + 1)) d 0) = S7 at c4 f4
    have g8 : ¬ (8 : Int32) ≤ nI h := by rw [m_c8]; exact nI_ge (by omega) (by omega)
    have q5 : S.1 (t + 5) d = nI p := by rw [(hT.2.2.2.2.2 d d2 ud).2.1, hp]; rfl
    have hkb : ∀ c ∈ tK T p, c < B := fun c hc => (hs.2.2.2.1 h c (sk_kid hs s2 hc).2.1).2.1
    have up7 : tU (tsU (tsR T h (m_era d (tR T h))) d 0) p = 3 := by rw [show tU (tsU (tsR T h (m_era d (tR T h))) d 0) p = tU T p from l_up_n s5]; exact p4
    have ep : F_X4_placeOf B t (nI d) (nI p) S7 = some (.inl (some (nI ((tK T p).idxOf d))), S7) := C_placeOf (T := tsU (tsR T h (m_era d (tR T h))) d 0) hB c4 p2 up7 (by omega) (fun c hc => by have := hkb c hc; omega)
    have hix : (tK T p)[(tK T p).idxOf d]? = some d := by
      have := List.idxOf_lt_length_iff.mpr s3
      rw [List.getElem?_eq_getElem this, List.getElem_idxOf]
    obtain ⟨S12, e12, c12, f12⟩ := C_closeChild (p := p) (i := (tK T p).idxOf d) (c := d) hB c4 p2 up7 hix
    have c12' : c_T B t S12 (a_off T d p) := by
      unfold a_off
      rw [d3, era_idx s3]
      exact c12
    have eg : a_gone (n + 1) T d = a_low (a_gone n) (a_off T d p) p := by rw [a_gone, hp]
    have eK : tK (a_off T d p) p = m_era d (tK T p) := l_up_s
    have eP : tP (a_off T d p) = tP T := rfl
    have eH : tH (a_off T d p) = tH T := rfl
    have eR : tR (a_off T d p) (h + 1) = tR T (h + 1) := by
      rw [show tR (a_off T d p) = va_up (tR T) (tH T d) (m_era d (tR T (tH T d))) from rfl, d3, l_up_n (by omega)]
    have up2 : tU (a_off T d p) p = 3 := up7
    have lK : (tK (a_off T d p) p).length = (tK T p).length - 1 := by rw [eK, l_era_len s3]
    have e15 : S12.1 (t + 3) p = nI (tK (a_off T d p) p).length := c_mem c12' p2 up2
    obtain ⟨y2, y5, y6, y7⟩ := c12'.2.2.2.2.2 p p2 (Or.inr up2)
    have s2' : p ∈ tR (a_off T d p) (h + 1) := by rw [eR]; exact s2
    generalize hT2 : a_off T d p = T2 at s1 c12' eK eP eH eR up2 lK e15 y2 y5 y6 y7 s2' eg
    have hph : tH T2 p = h + 1 := by rw [eH]; exact p3
    rw [eg, F_X4_dropNode_4, if_neg g8, m_gd (m_inb d2 (by omega)), m_lt, m_ix (i := d) (by omega), q5, e4, m_bo, m_gd (m_inb d2 (by omega)), m_lt, hS7, if_neg (m_ne1 (by omega)), ep, m_bn, e12, m_bo, m_gd (m_inb p2 (by omega)), m_lt, m_ix (i := p) (by omega), e15]
    by_cases h1 : (tK T2 p).length = 1
    · obtain ⟨c, hc⟩ : ∃ c, tK T2 p = [c] := by
        match hq : tK T2 p, h1 with
        | [c], _ => exact ⟨c, rfl⟩
      rw [if_pos (show nI (tK T2 p).length = 1 by rw [h1]; rfl), m_gd (m_inb p2 (by omega)), m_lt, y5]
      cases hq : tP T2 p with
      | none =>
        rw [if_pos (show oI none = -1 from rfl), low_root hc hq]
        have y8 : S12.1 (t + 8) (p * 6) = nI c := by
          have := (c12'.2.2.2.2.1 p p2 up2).2.2.1 0 (nI c) (by rw [hc]; rfl)
          simpa using this
        have cB : c < B := (s1.2.2.2.1 h c (sk_kid s1 s2' (c := c) (by rw [hc]; exact List.mem_cons_self)).2.1).2.1
        have e6 : nI p * 6 = nI (p * 6) := by rw [m_c6, pk_mul]
        have cc := C_coll c12' s1 s2' hc hq
        refine ⟨_, ?_, cc, m_fr_tr f4 (m_fr_tr f12 (m_fr_tr m_fr_root (m_fr_tr (m_fr_ua (by omega)) (m_fr_ua (by omega)))))⟩
        have er : (z_ui S12 t 12 (nI c)).2.1 t 12 = nI c := by rw [m_ui2, if_pos rfl, if_pos rfl]
        have ez : (z_ua (z_ui S12 t 12 (nI c)) (t + 5) (upd (S12.1 (t + 5)) c (-1))).1 (t + 1) = S12.1 (t + 1) := by rw [m_ua1, if_neg (by omega)]; rfl
        rw [e6, m_gd (m_inb (by omega) (by omega)), m_lt, m_ix (i := p * 6) (by omega), y8, m_lt, er, m_gd (m_inb cB (by omega)), m_lt, m_ix (i := c) (by omega), m_gd (m_inb p2 (by omega)), m_lt]
        rw [show (z_ui S12 t 12 (nI c)).1 (t + 5) = S12.1 (t + 5) from rfl, ez]
      | some q =>
        rw [show oI (some q) = nI q from rfl]
        have hqB : q < B := by
          have hp0 : p ≠ 0 := by omega
          obtain ⟨-, q', hq1, -, hq2⟩ | ⟨-, -, hn⟩ := sk_par s1 s2' hp0
          · rw [hq] at hq2
            rw [Option.some.inj hq2]
            exact (s1.2.2.2.1 _ q' hq1).2.1
          · rw [hq] at hn; cases hn
        rw [hph] at y6 y7
        rw [if_neg (m_ne1 (by omega)), m_gd (m_inb p2 (by omega)), m_lt, y6, m_gd (m_inb p2 (by omega)), m_lt, y7, low_rest hc hq, hph]
        obtain ⟨S', w1, w2, w3⟩ := C_rest (n := n) (m := m) (q := q) hB c12' s1 s2' hc hq (fun T' S' z1 z2 z3 z4 z5 => C_dropNode_loop hB n m (h + 1) p q T' S' (by omega) (by omega) z1 z2 z3 z5 (fun _ => z4))
        exact ⟨S', w1, w2, m_fr_tr f4 (m_fr_tr f12 w3)⟩
    · have hz : ¬ nI (tK T2 p).length = 1 := fun e => h1 ((nI_eq (by omega) (by omega)).mp (e.trans m_c1))
      rw [if_neg hz, low_ne h1]
      exact ⟨S12, rfl, c12', m_fr_tr f4 f12⟩
theorem C_dropNode {d p : Nat} (hB : B ≤ 96) (hT : c_T B t S T) (hs : m_sk B 0 0 T) (hd : d ∈ tR T 0) (hp : tP T d = some p) : ∃ S', F_X4_dropNode B t (nI d) S = some (.inl none, S') ∧ c_T B t S' (a_gone 8 T d) ∧ m_fr t S S' :=
  C_dropNode_loop hB 8 z_n 0 d p T S rfl (by unfold z_n; omega) hT (sk_any hs) hd hp (fun h => absurd rfl h)
end CG
