/-! The reference: a node added is the abstract one. -/
section KA
variable {B : Nat} {S : z_S} {T : m_T} {f : Nat → Int32}
theorem sk_kh {x y h b : Nat} (hs : m_sk B x y T) (hb : b ∈ tR T h) : k_h T b = h + 1 := by
  obtain ⟨b1, b2, b3, b4⟩ := hs.2.2.2.1 h b hb
  unfold k_h
  by_cases e : h = 0
  · rw [if_pos e] at b4
    rw [if_pos b4, e]
  · rw [if_neg e] at b4
    rw [b4, if_neg (by decide), if_pos rfl, b3]
theorem sk_nz {x y : Nat} (hs : m_sk B x y T) : ∀ b, b < B → (tU T b = 2 ∨ tU T b = 3) → b ≠ 0 := fun b hb hu e => by
  rw [e, hs.2.2.2.2.2.2.2.2.2.2.1] at hu
  rcases hu with z | z <;> cases z
theorem K_cnt {X Y p : Nat} (hT : k_T B X Y f T) (hp : p < B) (hpY : p ≠ Y) (up : tU T p = 3) : f (3852 + p) = nI (tK T p).length := (hT.2.2.2.1 p hp hpY up).1
theorem z_full {f : Nat → Int32} : (z_ua S 61 f).2.1 60 7 = S.2.1 60 7 := rfl
theorem K_half {p q c0 c1 c2 c3 c4 c5 n h : Nat} {k : Int32 → Int32 → z_S → Option (z_O × z_S)} (hB : B ≤ 96) (hT : k_T B q 0 f T) (hp : p < B) (hq : q < B) (p0 : p ≠ 0) (q0 : q ≠ 0) (hpq : p ≠ q) (up : tU T p = 3) (uq : tU T q = 3) (hk : tK T p = [c0, c1, c2, c3, c4, c5]) (hkq : tK T q = []) (hc : c3 < B ∧ c4 < B ∧ c5 < B) (kp : tH T p = h) (kq : tH T q = h) (h8 : h < 8) (hn : (tR T h).length < 96) (hr : ∀ y ∈ tR T h, y < 2 ^ 31) (hm : p ∈ tR T h) :
    ∃ f', F_X6_added_220 B k (n + 4) (nI p) (nI q) 0 (z_ua S 61 f) = k (nI p) (nI q) (z_ua S 61 f') ∧ k_T B q 0 f' (tsR (a_h3 T p q c0 c1 c2 c3 c4 c5) h (m_insA p q (tR T h))) ∧ k_fr f f' := by
  have ep : (3852 : Int32) + nI p = nI (3852 + p) := by rw [m_c3852, nI_add]
  have ip : z_inb (nI (3852 + p)) 25366 = true := m_inb (by omega) (by omega)
  obtain ⟨g1, a1, b1, r1⟩ := KT_takeChild (S := S) (i := 5) (c := c5) hB hT hp p0 up (by rw [hk]; rfl)
  rw [hk] at b1
  have b1' : k_T B q 0 g1 (tsK T p [c0, c1, c2, c3, c4]) := b1
  have kq1 : tK (tsK T p [c0, c1, c2, c3, c4]) q = [] := by rw [tK_ne (Ne.symm hpq)]; exact hkq
  obtain ⟨g2, a2, b2, r2⟩ := KT_child (S := S) (X' := q) (i := 0) (c := c5) hB b1' (Or.inl rfl) hq q0 uq hc.2.2 (Nat.zero_le _) (by rw [kq1]; simp)
  rw [kq1] at b2
  have b2' : k_T B q 0 g2 (tsP (tsK (tsK T p [c0, c1, c2, c3, c4]) q [c5]) c5 (some q)) := b2
  have k2p : tK (tsP (tsK (tsK T p [c0, c1, c2, c3, c4]) q [c5]) c5 (some q)) p = [c0, c1, c2, c3, c4] := by
    show va_up (va_up (tK T) p [c0, c1, c2, c3, c4]) q [c5] p = _
    rw [l_up_n hpq, l_up_s]
  obtain ⟨g3, a3, b3, r3⟩ := KT_takeChild (S := S) (i := 4) (c := c4) hB b2' hp p0 up (by rw [k2p]; rfl)
  rw [k2p] at b3
  have b3' : k_T B q 0 g3 (tsK (tsP (tsK (tsK T p [c0, c1, c2, c3, c4]) q [c5]) c5 (some q)) p [c0, c1, c2, c3]) := b3
  have k3q : tK (tsK (tsP (tsK (tsK T p [c0, c1, c2, c3, c4]) q [c5]) c5 (some q)) p [c0, c1, c2, c3]) q = [c5] := by
    rw [tK_ne (Ne.symm hpq)]; exact l_up_s
  obtain ⟨g4, a4, b4, r4⟩ := KT_child (S := S) (X' := q) (i := 0) (c := c4) hB b3' (Or.inl rfl) hq q0 uq hc.2.1 (Nat.zero_le _) (by rw [k3q]; simp)
  rw [k3q] at b4
  have b4' : k_T B q 0 g4 (tsP (tsK (tsK (tsP (tsK (tsK T p [c0, c1, c2, c3, c4]) q [c5]) c5 (some q)) p [c0, c1, c2, c3]) q [c4, c5]) c4 (some q)) := b4
  have k4p : tK (tsP (tsK (tsK (tsP (tsK (tsK T p [c0, c1, c2, c3, c4]) q [c5]) c5 (some q)) p [c0, c1, c2, c3]) q [c4, c5]) c4 (some q)) p = [c0, c1, c2, c3] := by
    show va_up (va_up _ p [c0, c1, c2, c3]) q [c4, c5] p = _
    rw [l_up_n hpq, l_up_s]
  obtain ⟨g5, a5, b5, r5⟩ := KT_takeChild (S := S) (i := 3) (c := c3) hB b4' hp p0 up (by rw [k4p]; rfl)
  rw [k4p] at b5
  have b5' : k_T B q 0 g5 (tsK (tsP (tsK (tsK (tsP (tsK (tsK T p [c0, c1, c2, c3, c4]) q [c5]) c5 (some q)) p [c0, c1, c2, c3]) q [c4, c5]) c4 (some q)) p [c0, c1, c2]) := b5
  have k5q : tK (tsK (tsP (tsK (tsK (tsP (tsK (tsK T p [c0, c1, c2, c3, c4]) q [c5]) c5 (some q)) p [c0, c1, c2, c3]) q [c4, c5]) c4 (some q)) p [c0, c1, c2]) q = [c4, c5] := by
    rw [tK_ne (Ne.symm hpq)]; exact l_up_s
  obtain ⟨g6, a6, b6, r6⟩ := KT_child (S := S) (X' := q) (i := 0) (c := c3) hB b5' (Or.inl rfl) hq q0 uq hc.1 (Nat.zero_le _) (by rw [k5q]; simp)
  rw [k5q] at b6
  have b6' : k_T B q 0 g6 (tsP (tsK (tsK (tsP (tsK (tsK (tsP (tsK (tsK T p [c0, c1, c2, c3, c4]) q [c5]) c5 (some q)) p [c0, c1, c2, c3]) q [c4, c5]) c4 (some q)) p [c0, c1, c2]) q [c3, c4, c5]) c3 (some q)) := b6
  rw [h3_eq hpq] at b6'
  have khp : ∀ z, (z = p ∨ z = q) → k_h (a_h3 T p q c0 c1 c2 c3 c4 c5) z = h + 1 := fun z hz => by
    unfold k_h
    have e1 : tU (a_h3 T p q c0 c1 c2 c3 c4 c5) z = 3 := by
      show tU T z = 3
      rcases hz with w | w <;> rw [w] <;> assumption
    have e2 : tH (a_h3 T p q c0 c1 c2 c3 c4 c5) z = h := by
      show tH T z = h
      rcases hz with w | w <;> rw [w] <;> assumption
    rw [e1, if_neg (by decide), if_pos rfl, e2]
  obtain ⟨g7, a7, b7, r7⟩ := KT_lineUp (S := S) (x := q) (b := p) (h := h) hB b6' hq hp (khp q (Or.inr rfl)) (khp p (Or.inl rfl)) h8 hn hr hm
  refine ⟨g7, ?_, b7, k_fr_tr r1 (k_fr_tr r2 (k_fr_tr r3 (k_fr_tr r4 (k_fr_tr r5 (k_fr_tr r6 r7)))))⟩
  have m0 : f (3852 + p) = nI 6 := by rw [K_cnt hT hp p0 up, hk]; rfl
  have m1 : g2 (3852 + p) = nI 5 := by rw [K_cnt b2' hp p0 up, k2p]; rfl
  have m2 : g4 (3852 + p) = nI 4 := by rw [K_cnt b4' hp p0 up, k4p]; rfl
  have a1' : F_X6_takeChild B (nI p) (nI 6 - 1) (z_ua S 61 f) = some (.inl (some (nI c5)), z_ua S 61 g1) := a1
  have a3' : F_X6_takeChild B (nI p) (nI 5 - 1) (z_ua S 61 g2) = some (.inl (some (nI c4)), z_ua S 61 g3) := a3
  have a5' : F_X6_takeChild B (nI p) (nI 4 - 1) (z_ua S 61 g4) = some (.inl (some (nI c3)), z_ua S 61 g5) := a5
  have a2' : F_X6_child B (nI q) 0 (nI c5) (z_ua S 61 g1) = some (.inl none, z_ua S 61 g2) := a2
  have a4' : F_X6_child B (nI q) 0 (nI c4) (z_ua S 61 g3) = some (.inl none, z_ua S 61 g4) := a4
  have a6' : F_X6_child B (nI q) 0 (nI c3) (z_ua S 61 g5) = some (.inl none, z_ua S 61 g6) := a6
  have n0 : ¬ (3 : Int32) ≤ 0 := by decide
  have n1 : ¬ (3 : Int32) ≤ 0 + 1 := by decide
  have n2 : ¬ (3 : Int32) ≤ 0 + 1 + 1 := by decide
  have n3 : (3 : Int32) ≤ 0 + 1 + 1 + 1 := by decide
  rw [F_X6_added_220, if_neg n0, ep, m_gd ip, m_lt, m_ix (by omega), z_ua_at, m0, a1', m_bn, a2', m_bo]
  rw [F_X6_added_220, if_neg n1, ep, m_gd ip, m_lt, m_ix (by omega), z_ua_at, m1, a3', m_bn, a4', m_bo]
  rw [F_X6_added_220, if_neg n2, ep, m_gd ip, m_lt, m_ix (by omega), z_ua_at, m2, a5', m_bn, a6', m_bo]
  rw [F_X6_added_220, if_pos n3, a7, m_bo]
/-- a new root -/
theorem K_newroot {h o x r : Nat} (hB : B ≤ 96) (hT : k_T B x 0 f T) (hs : m_sk B x 0 T) (ho : o ∈ tR T h) (hx : x ∈ tR T h) (hn : m_nx (tR T h) o = some x) (hp : tP T o = none) (hf : m_free T B = some r) :
    ∃ f', (z_bn (F_X6_height B (nI o) (z_ua S 61 (upd (upd (upd f r 1) (3756 + r) 0) (3852 + r) 0))) fun r23 S24 =>
        (z_gd (z_inb (3756 + nI r) 25366) (
        z_lt (z_ua S24 61 (upd (S24.1 61) (z_ix (3756 + nI r)) ((r23 + 1) + 1))) fun S27 =>
        (z_gd (z_inb (3948 + nI r) 25366) (
        z_lt (z_ua S27 61 (upd (S27.1 61) (z_ix (3948 + nI r)) (-1))) fun S29 =>
        (z_bo (F_X6_child B (nI r) 0 (nI o) S29) fun S31 =>
        (z_bo (F_X6_child B (nI r) 1 (nI x) S31) fun S34 =>
        (z_gd (z_inb (12300 + (96 * (r23 + 1))) 25366) (
        z_lt (z_ua S34 61 (upd (S34.1 61) (z_ix (12300 + (96 * (r23 + 1)))) (nI r))) fun S37 =>
        (z_gd (z_inb (13068 + (r23 + 1)) 25366) (
        z_lt (z_ua S37 61 (upd (S37.1 61) (z_ix (13068 + (r23 + 1))) 1)) fun S39 =>
        (z_gd (z_inb 13076 25366) (
        z_lt (z_ua S39 61 (upd (S39.1 61) (z_ix (13076)) (nI r))) fun S41 =>
        (z_gd (z_inb 13077 25366) (
        z_lt (S41.1 61 (z_ix (13077))) fun x43 =>
        (z_gd (z_inb 13077 25366) (
        z_lt (z_ua S41 61 (upd (S41.1 61) (z_ix (13077)) (x43 + 1))) fun S45 =>
        (some (.inl none, S45))))))))))))))))))) = some (.inl none, z_ua S 61 f') ∧ k_T B 0 0 f' (a_root T r o x) ∧ k_fr f f' := by
  obtain ⟨w1, hH, hoX⟩ := sk_newroot hB hs ho hx hn hp (free_ok hf)
  have hr := free_ok hf
  have hrn : ∀ g, r ∉ tR T g := fun g => sk_fr hs hr.2.2
  have hro : r ≠ o := fun e => hrn h (e ▸ ho)
  have hrx : r ≠ x := fun e => hrn h (e ▸ hx)
  obtain ⟨o1, o2, o3, o4⟩ := hs.2.2.2.1 h o ho
  obtain ⟨x1, x2, x3, x4⟩ := hs.2.2.2.1 h x hx
  have h6 := hs.1
  have hXr : tX T ≠ r := fun e => hro (by rw [← e, hoX])
  have hho : upd (upd (upd f r 1) (3756 + r) 0) (3852 + r) 0 (3756 + o) = nI (h + 1) := by
    rw [pk_un (by omega), pk_un (by omega), pk_un (by omega), hT.2.1 o o2, sk_kh hs ho]
  have eh := K_height (B := B) (S := z_ua S 61 (upd (upd (upd f r 1) (3756 + r) 0) (3852 + r) 0)) (b := o) (h := h) (by omega) (by rw [z_ua_at]; exact hho)
  have e1 : (3756 : Int32) + nI r = nI (3756 + r) := by rw [m_c3756, nI_add]
  have e2 : (3948 : Int32) + nI r = nI (3948 + r) := by rw [m_c3948, nI_add]
  have e3 : (12300 : Int32) + 96 * (nI h + 1) = nI (12300 + 96 * (h + 1)) := by rw [nI_1, m_c12300, m_c96, pk_mul, nI_add]
  have e4 : (13068 : Int32) + (nI h + 1) = nI (13068 + (h + 1)) := by rw [nI_1, m_c13068, nI_add]
  have e5 : nI h + 1 + 1 = nI (h + 1 + 1) := by rw [nI_1, nI_1]
  generalize hf3 : upd (upd (upd (upd (upd f r 1) (3756 + r) 0) (3852 + r) 0) (3756 + r) (nI (h + 1 + 1))) (3948 + r) (-1) = f3
  have t3 : k_T B x 0 f3 (tsH (m_take T r 3) r (h + 1)) := by
    refine k_T_new (f' := f3) hB hT hr.2.1 (Or.inr rfl) hXr ?_ ?_ ?_ (Or.inr ?_) (fun c _ hc _ _ => hc) (fun j j1 j2 j3 j4 => ?_)
    · rw [← hf3, pk_un (by omega), pk_un (by omega), pk_un (by omega), pk_un (by omega), pk_us]
    · rw [← hf3, pk_un (by omega), pk_us]
    · rw [← hf3, pk_un (by omega), pk_un (by omega), pk_us]
    · rw [← hf3, pk_us]
    · rw [← hf3, pk_un j4, pk_un j2, pk_un j3, pk_un j2, pk_un j1]
  have fr3 : k_fr f f3 := by
    rw [← hf3]
    exact fun j hj => by rw [pk_un (by omega), pk_un (by omega), pk_un (by omega), pk_un (by omega), pk_un (by omega)]
  have ur : tU (tsH (m_take T r 3) r (h + 1)) r = 3 := l_up_s
  have k3 : tK (tsH (m_take T r 3) r (h + 1)) r = [] := l_up_s
  obtain ⟨f4, a4, t4, fr4⟩ := KT_child (S := S) (X' := x) (p := r) (i := 0) (c := o) hB t3 (Or.inl rfl) hr.2.1 (by omega) ur o2 (Nat.zero_le _) (by rw [k3]; simp)
  rw [k3] at t4
  have t4' : k_T B x 0 f4 (tsP (tsK (tsH (m_take T r 3) r (h + 1)) r [o]) o (some r)) := t4
  have k4 : tK (tsP (tsK (tsH (m_take T r 3) r (h + 1)) r [o]) o (some r)) r = [o] := l_up_s
  obtain ⟨f5, a5, t5, fr5⟩ := KT_child (S := S) (X' := 0) (p := r) (i := 1) (c := x) hB t4' (Or.inr rfl) hr.2.1 (by omega) ur x2 (by rw [k4]; simp) (by rw [k4]; simp)
  rw [k4] at t5
  have t5' : k_T B 0 0 f5 (tsP (tsK (tsP (tsK (tsH (m_take T r 3) r (h + 1)) r [o]) o (some r)) r [o, x]) x (some r)) := t5
  have t6 : k_T B 0 0 (upd (upd f5 (12300 + 96 * (h + 1)) (nI r)) (13068 + (h + 1)) 1) (tsR (tsP (tsK (tsP (tsK (tsH (m_take T r 3) r (h + 1)) r [o]) o (some r)) r [o, x]) x (some r)) (h + 1) [r]) := by
    refine k_T_row hB t5' (by omega) ?_ ?_ (by simp) (fun j j1 j2 => ?_)
    · rw [pk_us]; rfl
    · intro i v hv
      cases i with
      | zero =>
        have : v = nI r := by simpa using hv.symm
        show upd (upd f5 (12300 + 96 * (h + 1)) (nI r)) (13068 + (h + 1)) 1 (12300 + 96 * (h + 1)) = v
        rw [this, pk_un (by omega), pk_us]
      | succ i => simp at hv
    · rw [pk_un j1, pk_un (by omega)]
  have g8 : upd (upd f5 (12300 + 96 * (h + 1)) (nI r)) (13068 + (h + 1)) 1 13077 = nI (h + 1) := by
    rw [t6.2.2.2.2.2.2.2]
    have : tH (tsR (tsP (tsK (tsP (tsK (tsH (m_take T r 3) r (h + 1)) r [o]) o (some r)) r [o, x]) x (some r)) (h + 1) [r]) (tX (tsR (tsP (tsK (tsP (tsK (tsH (m_take T r 3) r (h + 1)) r [o]) o (some r)) r [o, x]) x (some r)) (h + 1) [r])) = h := by
      show va_up (va_up (tH T) r 0) r (h + 1) (tX T) = h
      rw [l_up_n hXr, l_up_n hXr, ← hH]
    rw [this]
  have t7 := k_T_root (r := r) (n := h + 1 + 1) t6 hB (by
    show h + 1 + 1 = va_up (va_up (tH T) r 0) r (h + 1) r + 1
    rw [l_up_s])
  have eT : tsX (tsR (tsP (tsK (tsP (tsK (tsH (m_take T r 3) r (h + 1)) r [o]) o (some r)) r [o, x]) x (some r)) (h + 1) [r]) r = a_root T r o x := by unfold a_root; rw [o3]
  rw [eT] at t7
  refine ⟨_, ?_, t7, k_fr_tr fr3 (k_fr_tr fr4 (k_fr_tr fr5 (fun j hj => by rw [pk_un (by omega), pk_un (by omega), pk_un (by omega), pk_un (by omega)])))⟩
  have a4' : F_X6_child B (nI r) 0 (nI o) (z_ua S 61 f3) = some (.inl none, z_ua S 61 f4) := a4
  have a5' : F_X6_child B (nI r) 1 (nI x) (z_ua S 61 f4) = some (.inl none, z_ua S 61 f5) := a5
  rw [eh, m_bn, e1, m_gd (m_inb (by omega) (by omega)), m_lt, m_ix (i := 3756 + r) (by omega), z_ua_at, z_ua_ua, e5, e2, m_gd (m_inb (by omega) (by omega)), m_lt, m_ix (i := 3948 + r) (by omega), z_ua_at, z_ua_ua, hf3, a4', m_bo, a5', m_bo, e3, m_gd (m_inb (by omega) (by omega)), m_lt, m_ix (i := 12300 + 96 * (h + 1)) (by omega), z_ua_at, z_ua_ua, e4, m_gd (m_inb (by omega) (by omega)), m_lt, m_ix (i := 13068 + (h + 1)) (by omega), z_ua_at, z_ua_ua, m_gd (by decide), m_lt, show z_ix (13076 : Int32) = 13076 from m_ix (i := 13076) (by omega), z_ua_at, z_ua_ua, m_gd (by decide), m_lt, show z_ix (13077 : Int32) = 13077 from m_ix (i := 13077) (by omega), z_ua_at, m_gd (by decide), m_lt, z_ua_ua, pk_un (by decide), g8, nI_1, z_ua_ua]
theorem KT_added_loop (hB : B ≤ 96) (h0 : S.2.1 60 1 = nI B) (h7 : S.2.1 60 7 = 0) : ∀ (n m h o x : Nat) (T : m_T) (f : Nat → Int32), h + n = 8 → n < m → k_T B x 0 f T → m_sk B x 0 T → o ∈ tR T h → x ∈ tR T h → m_nx (tR T h) o = some x →
    (∀ T', a_add B n T o x = some T' → ∃ f', F_X6_added_5 B m (nI o) (nI x) (z_ua S 61 f) = some (.inl none, z_ua S 61 f') ∧ k_T B 0 0 f' T' ∧ k_fr f f') ∧ (a_add B n T o x = none → ∃ f', F_X6_added_5 B m (nI o) (nI x) (z_ua S 61 f) = some (.inl none, z_ui (z_ua S 61 f') 60 7 1))
  | 0, m, h, o, x, T, f, hh, hm, hT, hs, ho, hx, hn => by
    have := sk_le hs ho
    have := hs.1
    omega
  | n + 1, m, h, o, x, T, f, hh, hm, hT, hs, ho, hx, hn => by
    obtain ⟨m, rfl⟩ : ∃ k, m = k + 1 := ⟨m - 1, by omega⟩
    obtain ⟨o1, o2, o3, o4⟩ := hs.2.2.2.1 h o ho
    obtain ⟨x1, x2, x3, x4⟩ := hs.2.2.2.1 h x hx
    have hox : o ≠ x := (l_nx_split (hs.2.2.2.2.2.1 h) hn).elim fun A w => w.elim fun C z => z.2.2.2.2.2
    have uo : tU T o = 2 ∨ tU T o = 3 := by rw [o4]; split <;> simp
    have h6 := hs.1
    have hle := sk_le hs ho
    have hrb := sk_rb hs
    have e0 : (3948 : Int32) + nI o = nI (3948 + o) := by rw [m_c3948, nI_add]
    have q5 : f (3948 + o) = oI (tP T o) := hT.2.2.2.2.1 o o2 hox uo
    have z7 : ∀ g, (z_ua S 61 g).2.1 60 7 = 0 := fun g => h7
    have z8 : ∀ g, ¬ (z_ui (z_ua S 61 g) 60 7 1).2.1 60 7 = 0 := fun g => by rw [m_ui2, if_pos rfl, if_pos rfl]; decide
    rw [F_X6_added_5, if_pos (z7 f), e0, m_gd (m_inb (by omega) (by omega)), m_lt, m_ix (i := 3948 + o) (by omega), z_ua_at, q5]
    cases hp : tP T o with
    | none =>
      rw [if_pos (show oI none = -1 from rfl)]
      cases hf : m_free T B with
      | none =>
        have ea : a_add B (n + 1) T o x = none := by rw [a_add, hp]; simp only [hf]
        rw [KT_take_none hB (by omega) hT h0 hf, m_bn, if_neg (z8 f), ea]
        exact ⟨fun T' h => (by cases h), fun _ => ⟨f, rfl⟩⟩
      | some r =>
        have ea : a_add B (n + 1) T o x = some (a_root T r o x) := by rw [a_add, hp]; simp only [hf]
        obtain ⟨f', w1, w2, w3⟩ := K_newroot (S := S) hB hT hs ho hx hn hp hf
        rw [KT_take hB (by omega) hT h0 hf, m_bn, if_pos (z7 _), ea]
        exact ⟨fun T' h => ⟨f', w1, by rw [← Option.some.inj h]; exact w2, w3⟩, fun h => by cases h⟩
    | some p =>
      obtain ⟨h1, h2, h3, h4⟩ := sk_in hs ho hx hn hp
      obtain ⟨p1, p2, p3, p4⟩ := hs.2.2.2.1 _ p h2
      rw [if_neg (by omega)] at p4
      have h5 := hs.2.2.2.2.2.2.2.2.2.1 h p h2 (by omega)
      have hkb : ∀ c ∈ tK T p, c < B := fun c hc => (hs.2.2.2.1 h c (sk_kid hs h2 hc).2.1).2.1
      have ep := KT_childPlace (S := S) hB hT p2 (by omega) p4 o2 hkb h4
      have hidx : (tK T p).idxOf o < (tK T p).length := List.idxOf_lt_length_iff.mpr h4
      obtain ⟨f1, a1, t1, r1⟩ := KT_child (S := S) (X' := 0) (p := p) (i := (tK T p).idxOf o + 1) (c := x) hB hT (Or.inr rfl) p2 (by omega) p4 x2 (by omega) h5.2
      rw [← insA_idx h4] at t1
      have t1' : k_T B 0 0 f1 (a_in T o x p) := t1
      have ek : tK (a_in T o x p) p = m_insA o x (tK T p) := l_up_s
      have el : (tK (a_in T o x p) p).length = (tK T p).length + 1 := by rw [ek, l_insA_len h4]
      have em : f1 (3852 + p) = nI ((tK T p).length + 1) := by rw [K_cnt t1' p2 (by omega) p4, el]
      have e2 : (3852 : Int32) + nI p = nI (3852 + p) := by rw [m_c3852, nI_add]
      have e3 : (3756 : Int32) + nI p = nI (3756 + p) := by rw [m_c3756, nI_add]
      rw [show oI (some p) = nI p from rfl, if_neg (m_ne1 (by omega)), ep, m_bn, nI_1, a1, m_bo, e2, m_gd (m_inb (by omega) (by omega)), m_lt, m_ix (i := 3852 + p) (by omega), z_ua_at, em]
      by_cases hl : (tK T p).length < 5
      · have g5 : ¬ (5 : Int32) < nI ((tK T p).length + 1) := by rw [m_c5]; exact nI_nlt (by omega) (by omega)
        have ea : a_add B (n + 1) T o x = some (a_in T o x p) := by rw [a_add, hp]; simp only [hl, if_true]
        rw [if_neg g5, ea]
        exact ⟨fun T' h => ⟨f1, rfl, by rw [← Option.some.inj h]; exact t1', r1⟩, fun h => by cases h⟩
      · have g5 : (5 : Int32) < nI ((tK T p).length + 1) := by rw [m_c5]; exact nI_lt (by omega) (by omega)
        rw [if_pos g5]
        cases hf : m_free (a_in T o x p) B with
        | none =>
          rw [KT_take_none hB (by omega) t1' h0 hf, m_bn, if_neg (z8 f1), add_sn hp hl hf]
          exact ⟨fun T' h => (by cases h), fun _ => ⟨f1, rfl⟩⟩
        | some q =>
          have hq := free_ok hf
          have hqn : ∀ g, q ∉ tR T g := fun g => sk_fr hs hq.2.2
          have hqp : q ≠ p := fun e => hqn _ (e ▸ h2)
          obtain ⟨c0, c1, c2, c3, c4, c5, hk⟩ := l_six (L := tK (a_in T o x p) p) (by omega)
          obtain ⟨k1, k2, k3, k4, k5⟩ := sk_half h1 (h := h) h2 hk hq
          have e4 : (3756 : Int32) + nI q = nI (3756 + q) := by rw [m_c3756, nI_add]
          have hXq : tX (a_in T o x p) ≠ q := fun e => hqn _ (e ▸ (sk_root hs).1)
          have hhp : upd (upd (upd f1 q 1) (3756 + q) 0) (3852 + q) 0 (3756 + p) = nI (h + 1 + 1) := by
            rw [pk_un (by omega), pk_un (by omega), pk_un (by omega), t1'.2.1 p p2, sk_kh h1 (h := h + 1) h2]
          have t3 : k_T B q 0 (upd (upd (upd (upd f1 q 1) (3756 + q) 0) (3852 + q) 0) (3756 + q) (nI (h + 1 + 1))) (tsH (m_take (a_in T o x p) q 3) q (h + 1)) := by
            refine k_T_new hB t1' hq.2.1 (Or.inr rfl) hXq ?_ ?_ ?_ (Or.inl rfl) (fun c hc _ _ hu => sk_nz h1 c hc hu) (fun j j1 j2 j3 j4 => ?_)
            · rw [pk_un (by omega), pk_un (by omega), pk_un (by omega), pk_us]
            · rw [pk_us]
            · rw [pk_un (by omega), pk_us]
            · rw [pk_un j2, pk_un j3, pk_un j2, pk_un j1]
          have r3 : k_fr f1 (upd (upd (upd (upd f1 q 1) (3756 + q) 0) (3852 + q) 0) (3756 + q) (nI (h + 1 + 1))) := fun j hj => by rw [pk_un (by omega), pk_un (by omega), pk_un (by omega), pk_un (by omega)]
          have eN : tsH (m_take (a_in T o x p) q 3) q (h + 1) = a_new (a_in T o x p) p q := by
            unfold a_new
            rw [show tH (a_in T o x p) p = tH T p from rfl, p3]
          rw [eN] at t3
          have ekn : tK (a_new (a_in T o x p) p q) p = [c0, c1, c2, c3, c4, c5] := by
            rw [show tK (a_new (a_in T o x p) p q) = va_up (tK (a_in T o x p)) q [] from rfl, l_up_n (Ne.symm hqp), hk]
          have hcb : ∀ c ∈ tK (a_in T o x p) p, c < B := fun c hc => (h1.2.2.2.1 h c (sk_kid h1 (h := h) h2 hc).2.1).2.1
          have uhp : tH (a_new (a_in T o x p) p q) p = h + 1 := by
            rw [← eN]
            show va_up (va_up (tH T) q 0) q (h + 1) p = _
            rw [l_up_n (Ne.symm hqp), l_up_n (Ne.symm hqp)]; exact p3
          have uhq : tH (a_new (a_in T o x p) p q) q = h + 1 := by
            rw [← eN]; exact l_up_s
          have up2 : tU (a_new (a_in T o x p) p q) p = 3 := by
            show va_up (tU T) q 3 p = 3
            rw [l_up_n (Ne.symm hqp)]; exact p4
          have hlen := sk_len hs (h := h + 1)
          obtain ⟨f5, a5, t5, r5⟩ := K_half (S := S) (n := 99996) (k := F_X6_added_5 B m) hB t3 p2 hq.2.1 (by omega) (by omega) (Ne.symm hqp) up2 (show tU (a_new (a_in T o x p) p q) q = 3 from l_up_s) ekn (show tK (a_new (a_in T o x p) p q) q = [] from l_up_s) ⟨hcb c3 (by rw [hk]; simp), hcb c4 (by rw [hk]; simp), hcb c5 (by rw [hk]; simp)⟩ uhp uhq (by omega) (show (tR T (h + 1)).length < 96 by omega) (fun y hy => by have := (hs.2.2.2.1 (h + 1) y hy).2.1; omega) h2
          have a5' : F_X6_added_220 B (F_X6_added_5 B m) z_n (nI p) (nI q) 0 (z_ua S 61 (upd (upd (upd (upd f1 q 1) (3756 + q) 0) (3852 + q) 0) (3756 + q) (nI (h + 1 + 1)))) = F_X6_added_5 B m (nI p) (nI q) (z_ua S 61 f5) := a5
          have eT : a_spl (a_in T o x p) p q = tsR (a_h3 (a_new (a_in T o x p) p q) p q c0 c1 c2 c3 c4 c5) (h + 1) (m_insA p q (tR (a_new (a_in T o x p) p q) (h + 1))) := by
            unfold a_spl a_half
            rw [ekn]
            simp only []
            rw [show tH (a_in T o x p) p = tH T p from rfl, p3]; rfl
          rw [← eT] at t5
          rw [KT_take hB (by omega) t1' h0 hf, m_bn, if_pos (z7 _), e3, m_gd (m_inb (by omega) (by omega)), m_lt, m_ix (i := 3756 + p) (by omega), z_ua_at, hhp, e4, m_gd (m_inb (by omega) (by omega)), m_lt, m_ix (i := 3756 + q) (by omega), z_ua_ua, a5', add_ss hp hl hf]
          obtain ⟨i1, i2⟩ := KT_added_loop hB h0 h7 n m (h + 1) p q (a_spl (a_in T o x p) p q) f5 (by omega) (by omega) t5 k1 (by rw [k2]; exact (insA_mem h2).mpr (Or.inr h2)) (by rw [k2]; exact (insA_mem h2).mpr (Or.inl rfl)) k4
          constructor
          · intro T' ha
            obtain ⟨f', w1, w2, w3⟩ := i1 T' ha
            exact ⟨f', w1, w2, k_fr_tr r1 (k_fr_tr r3 (k_fr_tr r5 w3))⟩
          · exact i2
end KA
