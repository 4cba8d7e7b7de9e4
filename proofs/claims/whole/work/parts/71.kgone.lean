/-! The reference: a node gone is the abstract one. -/
section KG
variable {B : Nat} {S : z_S} {T : m_T} {f : Nat → Int32}
theorem k_T_Yset {X p : Nat} {L : List Nat} (hT : k_T B X 0 f T) (hz : ∀ b, b < B → (tU T b = 2 ∨ tU T b = 3) → b ≠ 0) : k_T B X p f (tsK T p L) := by
  obtain ⟨g1, g2, g3, g4, g5, g6, g7, g8⟩ := hT
  refine ⟨g1, g2, g3, fun b hb hY hu => ?_, g5, g6, g7, g8⟩
  rw [tK_ne hY]
  exact g4 b hb (hz b hb (Or.inr hu)) hu
/-- the root with one child goes -/
theorem K_coll {h p c : Nat} (hB : B ≤ 96) (hT : k_T B 0 0 f T) (hs : m_sk B 0 p T) (hp : p ∈ tR T (h + 1)) (hk : tK T p = [c]) (hpn : tP T p = none) :
    ∃ f', (z_bn (F_X6_height B (nI p) (z_ua S 61 f)) fun r36 S37 =>
      (z_gd (z_inb (13068 + r36) 25366) (
      z_lt (z_ua S37 61 (upd (S37.1 61) (z_ix (13068 + r36)) 0)) fun S40 =>
      (z_bo (F_X6_free B (nI p) S40) fun S42 =>
      (z_gd (z_inb (3948 + nI c) 25366) (
      z_lt (z_ua S42 61 (upd (S42.1 61) (z_ix (3948 + nI c)) (-1))) fun S45 =>
      (z_gd (z_inb 13076 25366) (
      z_lt (z_ua S45 61 (upd (S45.1 61) (z_ix (13076)) (nI c))) fun S47 =>
      (z_gd (z_inb 13077 25366) (
      z_lt (S47.1 61 (z_ix (13077))) fun x49 =>
      (z_gd (z_inb 13077 25366) (
      z_lt (z_ua S47 61 (upd (S47.1 61) (z_ix (13077)) (x49 - 1))) fun S51 =>
      (some (.inl none, S51)))))))))))))) = some (.inl none, z_ua S 61 f') ∧ k_T B 0 0 f' (a_coll T p c) ∧ k_fr f f' := by
  obtain ⟨w1, hH, hpX, hR, hcm⟩ := sk_coll hs hp hk hpn
  obtain ⟨p1, p2, p3, p4⟩ := hs.2.2.2.1 _ p hp
  obtain ⟨c1, c2, c3, c4⟩ := hs.2.2.2.1 _ c hcm
  have h6 := hs.1
  have eh := K_height (B := B) (S := z_ua S 61 f) (b := p) (h := h + 1) (by omega) (by rw [z_ua_at, hT.2.1 p p2, sk_kh hs hp])
  have e1 : (13068 : Int32) + nI (h + 1) = nI (13068 + (h + 1)) := by rw [m_c13068, nI_add]
  have e2 : (3948 : Int32) + nI c = nI (3948 + c) := by rw [m_c3948, nI_add]
  have t1 : k_T B 0 0 (upd f (13068 + (h + 1)) 0) (tsR T (h + 1) []) := by
    refine k_T_row hB hT (by omega) ?_ m_l_nil (by simp) (fun j j1 j2 => ?_)
    · rw [pk_us]; rfl
    · rw [pk_un j1]
  obtain ⟨f2, a2, t2, r2⟩ := KT_free (S := S) (Y' := 0) hB t1 p2 (Or.inl rfl)
  have t3 := k_T_par (c := c) (p := none) (X' := 0) hB t2 (Or.inl rfl) c2
  have g8 : upd f2 (3948 + c) (-1) 13077 = nI (h + 1 + 1) := by
    have := t3.2.2.2.2.2.2.2
    rw [show oI none = -1 from rfl] at this
    rw [this]
    congr 1
    show tH T (tX T) + 1 = h + 1 + 1
    omega
  have t4 := k_T_root (r := c) (n := h + 1) t3 hB (by
    show h + 1 = tH T c + 1
    rw [c3])
  have eT : tsX (tsP (tsU (tsR T (h + 1) []) p 0) c none) c = a_coll T p c := by unfold a_coll; rw [p3]; rfl
  rw [eT] at t4
  refine ⟨_, ?_, t4, k_fr_tr (k_fr_u (by omega)) (k_fr_tr r2 (fun j hj => by rw [pk_un (by omega), pk_un (by omega), pk_un (by omega)]))⟩
  have e5 : nI (h + 1 + 1) - 1 = nI (h + 1) := nI_pred (h + 1)
  rw [eh, m_bn, e1, m_gd (m_inb (by omega) (by omega)), m_lt, m_ix (i := 13068 + (h + 1)) (by omega), z_ua_at, z_ua_ua, a2, m_bo, e2, m_gd (m_inb (by omega) (by omega)), m_lt, m_ix (i := 3948 + c) (by omega), z_ua_at, z_ua_ua, m_gd (by decide), m_lt, show z_ix (13076 : Int32) = 13076 from m_ix (i := 13076) (by omega), z_ua_at, z_ua_ua, m_gd (by decide), m_lt, show z_ix (13077 : Int32) = 13077 from m_ix (i := 13077) (by omega), z_ua_at, m_gd (by decide), m_lt, z_ua_ua, pk_un (by decide), g8, e5, z_ua_ua]
  rfl
/-- the one child goes to a neighbour, or one comes -/
theorem K_rest {h p c q m n : Nat} (hB : B ≤ 96) (hT : k_T B 0 0 f T) (hs : m_sk B 0 p T) (hp : p ∈ tR T (h + 1)) (hk : tK T p = [c]) (hq : tP T p = some q)
    (IH : ∀ (T' : m_T) (f1 : Nat → Int32), k_T B 0 p f1 T' → m_sk B 0 p T' → p ∈ tR T' (h + 1) → tK T' p = [] → tP T' p = some q → ∃ f', F_X6_gone_2 B m (nI p) (z_ua S 61 f1) = some (.inl none, z_ua S 61 f') ∧ k_T B 0 0 f' (a_gone n T' p) ∧ k_fr f1 f') :
    ∃ f', (if oI (m_pv (tR T (h + 1)) p) = (-1) then
        F_X6_gone_194 B (F_X6_gone_275 B (F_X6_gone_2 B m) ) (nI p) (nI c) (oI (m_pv (tR T (h + 1)) p)) (oI (m_nx (tR T (h + 1)) p)) (z_ua S 61 f)
      else
        z_gd (z_inb (3852 + oI (m_pv (tR T (h + 1)) p)) 25366) (
        z_lt ((z_ua S 61 f).1 61 (z_ix (3852 + oI (m_pv (tR T (h + 1)) p)))) fun x28 =>
        (if 5 ≤ x28 then
          F_X6_gone_194 B (F_X6_gone_275 B (F_X6_gone_2 B m) ) (nI p) (nI c) (oI (m_pv (tR T (h + 1)) p)) (oI (m_nx (tR T (h + 1)) p)) (z_ua S 61 f)
        else
          z_gd (z_inb (3852 + oI (m_pv (tR T (h + 1)) p)) 25366) (
          z_lt ((z_ua S 61 f).1 61 (z_ix (3852 + oI (m_pv (tR T (h + 1)) p)))) fun x30 =>
          (z_bo (F_X6_child B (oI (m_pv (tR T (h + 1)) p)) x30 (nI c) (z_ua S 61 f)) fun S32 =>
          (F_X6_gone_275 B (F_X6_gone_2 B m) (nI p) S32)))))) = some (.inl none, z_ua S 61 f') ∧ k_T B 0 0 f' (a_rest (a_gone n) T p c (m_pv (tR T (h + 1)) p) (m_nx (tR T (h + 1)) p)) ∧ k_fr f f' := by
  have hnd := hs.2.2.2.2.2.1 (h + 1)
  have row : ∀ b ∈ tR T (h + 1), b < B ∧ tU T b = 3 ∧ b ≠ 0 := fun b hb => by
    obtain ⟨b1, b2, b3, b4⟩ := hs.2.2.2.1 _ b hb
    rw [if_neg (by omega)] at b4
    exact ⟨b2, b4, by omega⟩
  have five : ∀ b ∈ tR T (h + 1), b ≠ p → 2 ≤ (tK T b).length ∧ (tK T b).length ≤ 5 := fun b hb hbp => hs.2.2.2.2.2.2.2.2.2.1 h b hb hbp
  have mem : ∀ b ∈ tR T (h + 1), f (3852 + b) = nI (tK T b).length := fun b hb => K_cnt hT (row b hb).1 (row b hb).2.2 (row b hb).2.1
  have e38 : ∀ b, (3852 : Int32) + nI b = nI (3852 + b) := fun b => by rw [m_c3852, nI_add]
  have kidB : ∀ b ∈ tR T (h + 1), ∀ e ∈ tK T b, e < B := fun b hb e he => (hs.2.2.2.1 h e (sk_kid hs hb he).2.1).2.1
  obtain ⟨pB, pU, p0⟩ := row p hp
  have cB : c < B := kidB p hp c (by rw [hk]; exact List.mem_cons_self)
  have hcp : p ≠ c := fun e => by
    have := (sk_kid hs hp (c := c) (by rw [hk]; exact List.mem_cons_self)).2.1
    exact sk_ht hs hp (show h ≠ h + 1 by omega) (e ▸ this)
  have hnb : ∀ l, m_pv (tR T (h + 1)) p = some l → l ∈ tR T (h + 1) ∧ l ≠ p := fun l hl => by
    have hx := (nx_pv hnd).mpr hl
    exact ⟨nx_src hx, fun e => nx_ne hnd (e ▸ hx : m_nx (tR T (h + 1)) l = some l)⟩
  have hnr : ∀ r, m_nx (tR T (h + 1)) p = some r → r ∈ tR T (h + 1) ∧ r ≠ p := fun r hr => ⟨List.mem_of_mem_tail (nx_mem hr), fun e => nx_ne hnd (e ▸ hr : m_nx (tR T (h + 1)) r = some r)⟩
  have tY : k_T B 0 p f (tsK T p []) := k_T_Yset hT (sk_nz hs)
  -- to the left
  have goL : ∀ l, m_pv (tR T (h + 1)) p = some l → (tK T l).length < 5 → ∃ f', z_bo (F_X6_child B (nI l) (nI (tK T l).length) (nI c) (z_ua S 61 f)) (fun S32 => F_X6_gone_275 B (F_X6_gone_2 B m) (nI p) S32) = some (.inl none, z_ua S 61 f') ∧ k_T B 0 0 f' (a_gone n (a_goL T p c l) p) ∧ k_fr f f' := fun l hl h5 => by
    obtain ⟨l1, l2⟩ := hnb l hl
    have ekl : tK (tsK T p []) l = tK T l := tK_ne l2
    obtain ⟨f1, a1, t1, r1⟩ := KT_child (S := S) (X' := 0) (p := l) (i := (tK T l).length) (c := c) hB tY (Or.inl rfl) (row l l1).1 l2 (row l l1).2.1 cB (by rw [ekl]; exact Nat.le_refl _) (by rw [ekl]; omega)
    have t1' : k_T B 0 p f1 (a_goL T p c l) := by
      have w2 : (tK T l).insertIdx (tK T l).length c = tK T l ++ [c] := by simp
      rw [ekl, w2] at t1
      exact t1
    have hK : tK (a_goL T p c l) p = [] := by
      rw [show tK (a_goL T p c l) = va_up (va_up (tK T) p []) l (tK T l ++ [c]) from rfl, l_up_n (Ne.symm l2), l_up_s]
    have hP : tP (a_goL T p c l) p = some q := by
      rw [show tP (a_goL T p c l) = va_up (tP T) c (some l) from rfl, l_up_n hcp]; exact hq
    obtain ⟨f2, a2, t2, r2⟩ := IH (a_goL T p c l) f1 t1' (sk_goL hs hp hk hl h5) hp hK hP
    refine ⟨f2, ?_, t2, k_fr_tr r1 r2⟩
    rw [a1, m_bo, F_X6_gone_275]
    exact a2
  have goR : ∀ r, m_nx (tR T (h + 1)) p = some r → (tK T r).length < 5 → ∃ f', z_bo (F_X6_child B (nI r) 0 (nI c) (z_ua S 61 f)) (fun S4 => F_X6_gone_275 B (F_X6_gone_2 B m) (nI p) S4) = some (.inl none, z_ua S 61 f') ∧ k_T B 0 0 f' (a_gone n (a_goR T p c r) p) ∧ k_fr f f' := fun r hr h5 => by
    obtain ⟨r1, r2⟩ := hnr r hr
    have ekr : tK (tsK T p []) r = tK T r := tK_ne r2
    obtain ⟨f1, a1, t1, w1⟩ := KT_child (S := S) (X' := 0) (p := r) (i := 0) (c := c) hB tY (Or.inl rfl) (row r r1).1 r2 (row r r1).2.1 cB (Nat.zero_le _) (by rw [ekr]; omega)
    have a1' : F_X6_child B (nI r) 0 (nI c) (z_ua S 61 f) = some (.inl none, z_ua S 61 f1) := a1
    have t1' : k_T B 0 p f1 (a_goR T p c r) := by
      rw [ekr] at t1
      exact t1
    have hK : tK (a_goR T p c r) p = [] := by
      rw [show tK (a_goR T p c r) = va_up (va_up (tK T) p []) r (c :: tK T r) from rfl, l_up_n (Ne.symm r2), l_up_s]
    have hP : tP (a_goR T p c r) p = some q := by
      rw [show tP (a_goR T p c r) = va_up (tP T) c (some r) from rfl, l_up_n hcp]; exact hq
    obtain ⟨f2, a2, t2, w2⟩ := IH (a_goR T p c r) f1 t1' (sk_goR hs hp hk hr h5) hp hK hP
    refine ⟨f2, ?_, t2, k_fr_tr w1 w2⟩
    rw [a1', m_bo, F_X6_gone_275]
    exact a2
  have boL : ∀ l (v7 : Int32), m_pv (tR T (h + 1)) p = some l → ¬ (tK T l).length < 5 → ∃ f', F_X6_gone_227 B (nI p) (nI l) v7 (z_ua S 61 f) = some (.inl none, z_ua S 61 f') ∧ k_T B 0 0 f' (a_boL T p c l) ∧ k_fr f f' := fun l v7 hl h5 => by
    obtain ⟨l1, l2⟩ := hnb l hl
    have h5' := five l l1 l2
    obtain ⟨e, eg⟩ := (sk_boL hs hp hk hl h5).2
    have hdl := l_gl eg
    have lD : (tK T l).dropLast.length = (tK T l).length - 1 := List.length_dropLast
    have hLk : (tK T l)[(tK T l).length - 1]? = some e := by
      rw [← lD]
      have : ((tK T l).dropLast ++ [e])[(tK T l).dropLast.length]? = some e := by simp
      rw [hdl] at this
      exact this
    have hLe : (tK T l).eraseIdx ((tK T l).length - 1) = (tK T l).dropLast := by
      have : ((tK T l).dropLast ++ [e]).eraseIdx (tK T l).dropLast.length = (tK T l).dropLast := by rw [List.eraseIdx_append_of_length_le (Nat.le_refl _)]; simp
      rw [hdl, lD] at this
      exact this
    have eB : e < B := kidB l l1 e (List.mem_of_getElem? hLk)
    obtain ⟨f1, a1, t1, w1⟩ := KT_takeChild (S := S) (p := l) (i := (tK T l).length - 1) (c := e) hB hT (row l l1).1 (row l l1).2.2 (row l l1).2.1 hLk
    rw [hLe] at t1
    have ekp : tK (tsK T l (tK T l).dropLast) p = [c] := by rw [tK_ne (Ne.symm l2)]; exact hk
    obtain ⟨f2, a2, t2, w2⟩ := KT_child (S := S) (X' := 0) (p := p) (i := 0) (c := e) hB t1 (Or.inl rfl) pB p0 pU eB (Nat.zero_le _) (by rw [ekp]; simp)
    rw [ekp] at t2
    have t2' : k_T B 0 0 f2 (a_boL T p c l) := by
      unfold a_boL
      rw [eg]
      exact t2
    refine ⟨f2, ?_, t2', k_fr_tr w1 w2⟩
    unfold F_X6_gone_227
    have es : nI (tK T l).length - 1 = nI ((tK T l).length - 1) := by rw [m_c1, pk_sub (by omega)]
    have a2' : F_X6_child B (nI p) 0 (nI e) (z_ua S 61 f1) = some (.inl none, z_ua S 61 f2) := a2
    have lB := (row l l1).1
    rw [if_neg (m_ne1 (by omega)), e38, m_gd (m_inb (by omega) (by omega)), m_lt, m_ix (i := 3852 + l) (by omega), z_ua_at, mem l l1, es, a1, m_bn, a2', m_bo, F_X6_gone_274]
  have boR : ∀ r, m_nx (tR T (h + 1)) p = some r → ¬ (tK T r).length < 5 → ∃ f', F_X6_gone_227 B (nI p) (-1) (nI r) (z_ua S 61 f) = some (.inl none, z_ua S 61 f') ∧ k_T B 0 0 f' (a_boR T p c r) ∧ k_fr f f' := fun r hr h5 => by
    obtain ⟨r1, r2⟩ := hnr r hr
    obtain ⟨e, L, ek⟩ := (sk_boR hs hp hk hr h5).2
    have eB : e < B := kidB r r1 e (by rw [ek]; exact List.mem_cons_self)
    obtain ⟨f1, a1, t1, w1⟩ := KT_takeChild (S := S) (p := r) (i := 0) (c := e) hB hT (row r r1).1 (row r r1).2.2 (row r r1).2.1 (by rw [ek]; rfl)
    rw [ek] at t1
    have t1' : k_T B 0 0 f1 (tsK T r L) := t1
    have ekp : tK (tsK T r L) p = [c] := by rw [tK_ne (Ne.symm r2)]; exact hk
    obtain ⟨f2, a2, t2, w2⟩ := KT_child (S := S) (X' := 0) (p := p) (i := 1) (c := e) hB t1' (Or.inl rfl) pB p0 pU eB (by rw [ekp]; simp) (by rw [ekp]; simp)
    rw [ekp] at t2
    have t2' : k_T B 0 0 f2 (a_boR T p c r) := by
      unfold a_boR
      rw [ek]
      exact t2
    refine ⟨f2, ?_, t2', k_fr_tr w1 w2⟩
    unfold F_X6_gone_227
    have a1' : F_X6_takeChild B (nI r) 0 (z_ua S 61 f) = some (.inl (some (nI e)), z_ua S 61 f1) := a1
    have a2' : F_X6_child B (nI p) 1 (nI e) (z_ua S 61 f1) = some (.inl none, z_ua S 61 f2) := a2
    rw [if_pos rfl, a1', m_bn, a2', m_bo, F_X6_gone_274]
  have five' : ∀ b ∈ tR T (h + 1), ((5 : Int32) ≤ nI (tK T b).length ↔ ¬ (tK T b).length < 5) := fun b hb => by
    have hle : (tK T b).length < 2 ^ 31 := by
      by_cases e : b = p
      · rw [e, hk]; simp
      · have := (five b hb e).2; omega
    rw [m_c5, nI_leI (by omega) hle]
    omega
  have R194 : ∀ (v6 : Int32) r, m_nx (tR T (h + 1)) p = some r → F_X6_gone_194 B (F_X6_gone_275 B (F_X6_gone_2 B m) ) (nI p) (nI c) v6 (nI r) (z_ua S 61 f) = if (tK T r).length < 5 then z_bo (F_X6_child B (nI r) 0 (nI c) (z_ua S 61 f)) (fun S4 => F_X6_gone_275 B (F_X6_gone_2 B m) (nI p) S4) else F_X6_gone_227 B (nI p) v6 (nI r) (z_ua S 61 f) := fun v6 r hr => by
    obtain ⟨r1, r2⟩ := hnr r hr
    have rB := (row r r1).1
    unfold F_X6_gone_194
    rw [if_neg (m_ne1 (by omega)), e38, m_gd (m_inb (by omega) (by omega)), m_lt, m_ix (i := 3852 + r) (by omega), z_ua_at, mem r r1]
    by_cases h5 : (tK T r).length < 5
    · rw [if_neg (fun e => (five' r r1).mp e h5), if_pos h5]
    · rw [if_pos ((five' r r1).mpr h5), if_neg h5]
  cases hl : m_pv (tR T (h + 1)) p with
  | none =>
    rw [if_pos (show oI none = -1 from rfl)]
    cases hr : m_nx (tR T (h + 1)) p with
    | none => exact absurd ⟨hl, hr⟩ (sk_beside hs hp hq)
    | some r =>
      rw [show oI (some r) = nI r from rfl, R194 _ r hr, show a_rest (a_gone n) T p c none (some r) = if (tK T r).length < 5 then a_gone n (a_goR T p c r) p else a_boR T p c r from rfl]
      by_cases h5 : (tK T r).length < 5
      · rw [if_pos h5, if_pos h5]; exact goR r hr h5
      · rw [if_neg h5, if_neg h5]; exact boR r hr h5
  | some l =>
    obtain ⟨l1, l2⟩ := hnb l hl
    have lB := (row l l1).1
    rw [show oI (some l) = nI l from rfl, if_neg (m_ne1 (by omega)), e38, m_gd (m_inb (by omega) (by omega)), m_lt, m_ix (i := 3852 + l) (by omega), z_ua_at, mem l l1]
    by_cases h5 : (tK T l).length < 5
    · rw [if_neg (fun e => (five' l l1).mp e h5), m_gd (m_inb (by omega) (by omega)), m_lt]
      have ea : ∀ r, a_rest (a_gone n) T p c (some l) r = a_gone n (a_goL T p c l) p := fun r => by
        cases r with
        | none => rw [show a_rest (a_gone n) T p c (some l) none = if (tK T l).length < 5 then a_gone n (a_goL T p c l) p else a_boL T p c l from rfl, if_pos h5]
        | some r => rw [show a_rest (a_gone n) T p c (some l) (some r) = if (tK T l).length < 5 then a_gone n (a_goL T p c l) p else if (tK T r).length < 5 then a_gone n (a_goR T p c r) p else a_boL T p c l from rfl, if_pos h5]
      rw [ea]
      exact goL l hl h5
    · rw [if_pos ((five' l l1).mpr h5)]
      cases hr : m_nx (tR T (h + 1)) p with
      | none =>
        rw [show a_rest (a_gone n) T p c (some l) none = if (tK T l).length < 5 then a_gone n (a_goL T p c l) p else a_boL T p c l from rfl, if_neg h5]
        unfold F_X6_gone_194
        rw [if_pos (show oI none = -1 from rfl)]
        exact boL l _ hl h5
      | some r =>
        rw [show oI (some r) = nI r from rfl, R194 _ r hr, show a_rest (a_gone n) T p c (some l) (some r) = if (tK T l).length < 5 then a_gone n (a_goL T p c l) p else if (tK T r).length < 5 then a_gone n (a_goR T p c r) p else a_boL T p c l from rfl, if_neg h5]
        by_cases h6 : (tK T r).length < 5
        · rw [if_pos h6, if_pos h6]; exact goR r hr h6
        · rw [if_neg h6, if_neg h6]; exact boL l _ hl h5
theorem KT_gone_loop (hB : B ≤ 96) : ∀ (n m h d p : Nat) (T : m_T) (f : Nat → Int32), h + n = 8 → n < m → k_T B 0 d f T → m_sk B 0 d T → d ∈ tR T h → tP T d = some p → (h ≠ 0 → tK T d = []) → ∃ f', F_X6_gone_2 B m (nI d) (z_ua S 61 f) = some (.inl none, z_ua S 61 f') ∧ k_T B 0 0 f' (a_gone n T d) ∧ k_fr f f'
  | 0, m, h, d, p, T, f, hh, hm, hT, hs, hd, hp, hk => by
    have := sk_le hs hd
    have := hs.1
    omega
  | n + 1, m, h, d, p, T, f, hh, hm, hT, hs, hd, hp, hk => by
    obtain ⟨m, rfl⟩ : ∃ k, m = k + 1 := ⟨m - 1, by omega⟩
    obtain ⟨s1, s2, s3, s4, s5, s6, s7⟩ := sk_off hs hd hp hk
    obtain ⟨d1, d2, d3, d4⟩ := hs.2.2.2.1 h d hd
    obtain ⟨p1, p2, p3, p4⟩ := hs.2.2.2.1 _ p s2
    rw [if_neg (by omega)] at p4
    have h6 := hs.1
    have hle := sk_le hs hd
    have ud : tU T d = 2 ∨ tU T d = 3 := by rw [d4]; split <;> simp
    have q5 : f (3948 + d) = nI p := by rw [hT.2.2.2.2.1 d d2 (by omega) ud, hp]; rfl
    have hkb : ∀ c ∈ tK T p, c < B := fun c hc => (hs.2.2.2.1 h c (sk_kid hs s2 hc).2.1).2.1
    obtain ⟨f1, a1, t1, r1⟩ := KT_lineOff (S := S) hB hT d2 (sk_kh hs hd) (by omega) (fun y hy => by have := (hs.2.2.2.1 h y hy).2.1; omega) hd
    obtain ⟨f2, a2, t2, r2⟩ := KT_free (S := S) (Y' := 0) hB t1 d2 (Or.inr rfl)
    have up7 : tU (tsU (tsR T h (m_era d (tR T h))) d 0) p = 3 := by rw [show tU (tsU (tsR T h (m_era d (tR T h))) d 0) p = tU T p from l_up_n s5]; exact p4
    have a3 : F_X6_childPlace B (nI p) (nI d) (z_ua S 61 f2) = some (.inl (some (nI ((tK T p).idxOf d))), z_ua S 61 f2) := KT_childPlace (S := S) (T := tsU (tsR T h (m_era d (tR T h))) d 0) hB t2 p2 (by omega) up7 d2 hkb s3
    have hix : (tK T p)[(tK T p).idxOf d]? = some d := by
      have := List.idxOf_lt_length_iff.mpr s3
      rw [List.getElem?_eq_getElem this, List.getElem_idxOf]
    obtain ⟨f4, a4, t4, r4⟩ := KT_takeChild (S := S) (p := p) (i := (tK T p).idxOf d) (c := d) hB t2 p2 (by omega) up7 hix
    have t4' : k_T B 0 0 f4 (a_off T d p) := by
      unfold a_off
      rw [d3, era_idx s3]
      exact t4
    have fr4 : k_fr f f4 := k_fr_tr r1 (k_fr_tr r2 r4)
    have eg : a_gone (n + 1) T d = a_low (a_gone n) (a_off T d p) p := by rw [a_gone, hp]
    have eK : tK (a_off T d p) p = m_era d (tK T p) := l_up_s
    have eP : tP (a_off T d p) = tP T := rfl
    have eH : tH (a_off T d p) = tH T := rfl
    have eR : tR (a_off T d p) (h + 1) = tR T (h + 1) := by
      rw [show tR (a_off T d p) = va_up (tR T) (tH T d) (m_era d (tR T (tH T d))) from rfl, d3, l_up_n (by omega)]
    have up2 : tU (a_off T d p) p = 3 := up7
    have lK : (tK (a_off T d p) p).length = (tK T p).length - 1 := by rw [eK, l_era_len s3]
    have e16 : f4 (3852 + p) = nI (tK (a_off T d p) p).length := K_cnt t4' p2 (by omega) up2
    have y5 : f4 (3948 + p) = oI (tP (a_off T d p) p) := t4'.2.2.2.2.1 p p2 (by omega) (Or.inr up2)
    have s2' : p ∈ tR (a_off T d p) (h + 1) := by rw [eR]; exact s2
    generalize hT2 : a_off T d p = T2 at s1 t4' eK eP eH eR up2 lK e16 y5 s2' eg
    have hph : tH T2 p = h + 1 := by rw [eH]; exact p3
    have x1 : (3948 : Int32) + nI d = nI (3948 + d) := by rw [m_c3948, nI_add]
    have x2 : (3852 : Int32) + nI p = nI (3852 + p) := by rw [m_c3852, nI_add]
    have x3 : (4044 : Int32) + 6 * nI p = nI (4044 + 6 * p) := by rw [m_c4044, m_c6, pk_mul, nI_add]
    have x4 : (3948 : Int32) + nI p = nI (3948 + p) := by rw [m_c3948, nI_add]
    rw [eg, F_X6_gone_2, x1, m_gd (m_inb (by omega) (by omega)), m_lt, m_ix (i := 3948 + d) (by omega), z_ua_at, q5, a1, m_bo, a2, m_bo, a3, m_bn, a4, m_bn, x2, m_gd (m_inb (by omega) (by omega)), m_lt, m_ix (i := 3852 + p) (by omega), z_ua_at, e16]
    by_cases h1 : (tK T2 p).length = 1
    · obtain ⟨c, hc⟩ : ∃ c, tK T2 p = [c] := by
        match hq : tK T2 p, h1 with
        | [c], _ => exact ⟨c, rfl⟩
      have y8 : f4 (4044 + 6 * p) = nI c := by
        have := (t4'.2.2.2.1 p p2 (by omega) up2).2.1 0 (nI c) (by rw [hc]; rfl)
        simpa using this
      rw [if_pos (show nI (tK T2 p).length ≤ 1 by rw [h1]; decide), x3, m_gd (m_inb (by omega) (by omega)), m_lt, m_ix (i := 4044 + 6 * p) (by omega), y8, x4, m_gd (m_inb (by omega) (by omega)), m_lt, m_ix (i := 3948 + p) (by omega), y5]
      cases hq : tP T2 p with
      | none =>
        rw [if_pos (show oI none = -1 from rfl), low_root hc hq]
        obtain ⟨f', w1, w2, w3⟩ := K_coll (S := S) hB t4' s1 s2' hc hq
        exact ⟨f', w1, w2, k_fr_tr fr4 w3⟩
      | some q =>
        rw [show oI (some q) = nI q from rfl]
        have hqB : q < B := by
          have hp0 : p ≠ 0 := by omega
          obtain ⟨-, q', hq1, -, hq2⟩ | ⟨-, -, hn⟩ := sk_par s1 s2' hp0
          · rw [hq] at hq2
            rw [Option.some.inj hq2]
            exact (s1.2.2.2.1 _ q' hq1).2.1
          · rw [hq] at hn; cases hn
        have hrr : ∀ y ∈ tR T2 (h + 1), y < 2 ^ 31 := fun y hy => by have := (s1.2.2.2.1 _ y hy).2.1; omega
        have b1 := KT_prev (S := S) hB t4' p2 (sk_kh s1 s2') (by omega) (s1.2.2.2.2.2.1 _) hrr s2'
        have b2 := KT_next (S := S) hB t4' p2 (sk_kh s1 s2') (by omega) (s1.2.2.2.2.2.1 _) hrr s2'
        rw [if_neg (m_ne1 (by omega)), b1, m_bn, b2, m_bn, low_rest hc hq, hph]
        obtain ⟨f', w1, w2, w3⟩ := K_rest (S := S) (n := n) (m := m) (q := q) hB t4' s1 s2' hc hq (fun T' f1 z1 z2 z3 z4 z5 => KT_gone_loop hB n m (h + 1) p q T' f1 (by omega) (by omega) z1 z2 z3 z5 (fun _ => z4))
        exact ⟨f', w1, w2, k_fr_tr fr4 w3⟩
    · have hz : ¬ nI (tK T2 p).length ≤ 1 := by rw [m_c1]; exact nI_ge (by omega) (by omega)
      rw [if_neg hz, low_ne h1]
      exact ⟨f4, rfl, t4', fr4⟩
theorem KT_gone {d p : Nat} (hB : B ≤ 96) (hT : k_T B 0 0 f T) (hs : m_sk B 0 0 T) (hd : d ∈ tR T 0) (hp : tP T d = some p) : ∃ f', F_X6_gone B (nI d) (z_ua S 61 f) = some (.inl none, z_ua S 61 f') ∧ k_T B 0 0 f' (a_gone 8 T d) ∧ k_fr f f' :=
  KT_gone_loop hB 8 z_n 0 d p T f rfl (by unfold z_n; omega) (k_T_Y hT (sk_nz hs)) (sk_any hs) hd hp (fun h => absurd rfl h)
end KG
