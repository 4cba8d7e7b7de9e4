/-! Changed blocks: the class marks them. -/
section SM3
variable {B : Nat} {S : z_S} {T Tc : m_T} {O Oc : m_O}
theorem sk_u2 {b : Nat} (hs : m_sk B 0 0 T) (hb : b < B) (hu : tU T b = 2) : b ∈ tR T 0 := by
  have hm := hs.2.2.2.2.1 b hb (Or.inl hu)
  have := (hs.2.2.2.1 _ b hm).2.2.2
  by_cases e : tH T b = 0
  · rw [e] at hm; exact hm
  · rw [if_neg e, hu] at this; cases this
theorem sk_u3 {b : Nat} (hs : m_sk B 0 0 T) (hb : b < B) (hu : tU T b = 3) : ∃ h, b ∈ tR T (h + 1) := by
  have hm := hs.2.2.2.2.1 b hb (Or.inr hu)
  have := (hs.2.2.2.1 _ b hm).2.2.2
  by_cases e : tH T b = 0
  · rw [if_pos e, hu] at this; cases this
  · exact ⟨tH T b - 1, by rw [show tH T b - 1 + 1 = tH T b by omega]; exact hm⟩
theorem C_sameBlock {b : Nat} (hB : B ≤ 96) (hok : m_ok B T) (hi : m_im B T O) (hokc : m_ok B Tc) (hic : m_im B Tc Oc) (hT : c_T B 2 S T) (hC : c_T B 23 S Tc) (h : c_O B 1 S T O) (hc : c_O B 22 S Tc Oc) (hb : b < B) (hu0 : tU T b ≠ 0) : ∃ c : Bool, F_X0_sameBlock B 1 22 (nI b) S = some (.inl (some (i_b c)), S) ∧ (c = true ↔ m_same B T O Tc Oc b) := by
  have u1 : S.1 (1 + 2) b = nI (tU T b) := hT.2.2.1 b hb
  have u2 : S.1 (22 + 2) b = nI (tU Tc b) := hC.2.2.1 b hb
  have l1 := hok.1.2.2.2.2.2.2.2.2.2.2.2
  have l2 := hokc.1.2.2.2.2.2.2.2.2.2.2.2
  have iz : z_inb (nI b) B = true := m_inb hb (by omega)
  have xz : z_ix (nI b) = b := m_ix (by omega)
  have l1b := l1 b hb
  have l2b := l2 b hb
  have fin : ∀ c : Bool, z_gd (z_b01 (i_b c)) (some ((.inl (some (i_b c)) : z_O), S)) = some (.inl (some (i_b c)), S) := fun c => by cases c <;> rw [m_gd (by decide)]
  unfold F_X0_sameBlock
  rw [m_gd iz, m_lt, xz, u1, m_gd iz, m_lt, u2]
  by_cases e : tU T b = tU Tc b
  · rw [if_pos (by rw [e]), m_gd iz, m_lt]
    obtain hs | hs | hs | hs : tU T b = 1 ∨ tU T b = 2 ∨ tU T b = 3 ∨ tU T b = 4 := by omega
    · obtain ⟨c, c1, c2⟩ := C_sameMap hB hT hC l1 l2 (sk_rb hok.1) (sk_rb hokc.1)
      have c1' : F_X4_sameMap B (1 + 1) (22 + 1) S = some (.inl (some (i_b c)), S) := c1
      rw [hs, if_pos (show nI 1 = 1 from rfl), c1', m_bn, fin]
      exact ⟨c, rfl, c2.trans ⟨fun w => ⟨e, fun _ => w, fun z => by omega, fun z => by omega, fun z => by omega⟩, fun w => w.2.1 hs⟩⟩
    · obtain ⟨c, c1, c2⟩ := C_sameLeaf hB hok hi hokc hic hT hC h hc (sk_u2 hok.1 hb hs) (sk_u2 hokc.1 hb (by omega))
      rw [hs, if_neg (by decide), if_pos (show nI 2 = 2 from rfl), c1, m_bn, fin]
      exact ⟨c, rfl, c2.trans ⟨fun w => ⟨e, fun z => by omega, fun _ => w, fun z => by omega, fun z => by omega⟩, fun w => w.2.2.1 hs⟩⟩
    · obtain ⟨g, hg⟩ := sk_u3 hok.1 hb hs
      obtain ⟨gc, hgc⟩ := sk_u3 hokc.1 hb (by omega)
      obtain ⟨c, c1, c2⟩ := C_sameInner hB hok hokc hT hC hg hgc
      have c1' : F_X4_sameInner B (1 + 1) (22 + 1) (nI b) S = some (.inl (some (i_b c)), S) := c1
      rw [hs, if_neg (by decide), if_neg (by decide), if_pos (show nI 3 = 3 from rfl), c1', m_bn, fin]
      exact ⟨c, rfl, c2.trans ⟨fun w => ⟨e, fun z => by omega, fun z => by omega, fun _ => w, fun z => by omega⟩, fun w => w.2.2.2.1 hs⟩⟩
    · obtain ⟨c, c1, c2⟩ := C_sameBytes (B := B) (S := S) (a1 := 20) (m1 := 128 * B) (a2 := 41) (m2 := 128 * B) (o := b * 128) (k := 128) (by omega) (by omega) (by omega) (by omega) (by omega)
      have e128 : nI b * 128 = nI (b * 128) := by rw [m_c128, pk_mul]
      have c1' : F_X0_sameBytes B (1 + 19) (128 * B) (22 + 19) (128 * B) (nI (b * 128)) 128 S = some (.inl (some (i_b c)), S) := c1
      rw [hs, if_neg (by decide), if_neg (by decide), if_neg (by decide), e128, c1', m_bn, fin]
      refine ⟨c, rfl, c2.trans ⟨fun w => ⟨e, fun z => by omega, fun z => by omega, fun z => by omega, fun _ r hr => ?_⟩, fun w r hr => ?_⟩⟩
      · exact (rB_inj (h.2.2.2.2.1 b hb hs r hr) (hc.2.2.2.2.1 b hb (by omega) r hr)).mp (w r hr)
      · exact (rB_inj (h.2.2.2.2.1 b hb hs r hr) (hc.2.2.2.2.1 b hb (by omega) r hr)).mpr (w.2.2.2.2 hs r hr)
  · rw [if_neg (fun z => e ((nI_eq (by omega) (by omega)).mp z)), m_gd (by decide)]
    exact ⟨false, rfl, ⟨fun w => (by cases w), fun w => absurd w.1 e⟩⟩
/-- what is marked: used, and not the same -/
def m_chd (B : Nat) (A : m_A) (ch : Nat → Bool) : Prop := ∀ b, b < B → (ch b = true ↔ tU A.1.1 b ≠ 0 ∧ ¬ m_same B A.1.1 A.1.2 A.2.1.1 A.2.1.2 b)
theorem chd_ex {A : m_A} : ∃ ch, m_chd B A ch := ⟨fun b => @decide (tU A.1.1 b ≠ 0 ∧ ¬ m_same B A.1.1 A.1.2 A.2.1.1 A.2.1.2 b) (Classical.propDecidable _), fun b _ => by simp⟩
end SM3
section MK
variable {B J : Nat} {S : z_S} {A : m_A} {ch : Nat → Bool}
theorem CI_58 {g : Nat → Int32} (h : CI B J S A) : CI B J (z_ua S 58 g) A := by
  obtain ⟨a, ⟨b1, b2⟩, ⟨c1, c2⟩, d1, d2, d3, d4, d5, d6⟩ := h
  have f1 : ∀ x, x ≠ 58 → (z_ua S 58 g).1 x = S.1 x := fun x hx => by rw [m_ua1, if_neg hx]
  exact ⟨a, ⟨c_T_cg b1 (fun x _ _ => f1 x (by omega)) rfl rfl, c_O_cg b2 (fun x _ _ => f1 x (by omega))⟩, ⟨c_T_cg c1 (fun x _ _ => f1 x (by omega)) rfl rfl, c_O_cg c2 (fun x _ _ => f1 x (by omega))⟩, d1, d2, d3, d4, d5, fun b hb => by rw [f1 56 (by omega)]; exact d6 b hb⟩
theorem C_mark_loop (hA : AI B J A) (hch : m_chd B A ch) : ∀ (m n i u : Nat) (S : z_S), CI B J S A → i + m = B → m < n → (∀ b, b < i → S.1 58 b = i_b (ch b)) → ∃ g, (∀ b, b < B → g b = i_b (ch b)) ∧ F_X5_markChanged_4 B n (nI u) (nI i) S = some (.inl (some (nI (u + p_cnt (fun b => i_b (ch b)) m i))), z_ua S 58 g)
  | 0, n, i, u, S, h, hi, hn, hz => by
    obtain ⟨n, rfl⟩ : ∃ j, n = j + 1 := ⟨n - 1, by omega⟩
    have hB := hA.1.2.1
    refine ⟨S.1 58, fun b hb => hz b (by omega), ?_⟩
    rw [F_X5_markChanged_4, h.1.1, if_pos (nI_le (by omega) (by omega)), p_cnt, Nat.add_zero, z_ua_same]
  | m + 1, n, i, u, S, h, hi, hn, hz => by
    obtain ⟨n, rfl⟩ : ∃ j, n = j + 1 := ⟨n - 1, by omega⟩
    have hB := hA.1.2.1
    have hiB : i < B := by omega
    have iz : z_inb (nI i) B = true := m_inb hiB (by omega)
    have xz : z_ix (nI i) = i := m_ix (by omega)
    have l1 := hA.2.1.1.1.2.2.2.2.2.2.2.2.2.2.2 i hiB
    have nar : ∀ c : Bool, vp_nar .boolean (i_b c) = i_b c := fun c => by cases c <;> decide
    have tail : ∀ c : Bool, ch i = c → ∃ g, (∀ b, b < B → g b = i_b (ch b)) ∧ F_X5_markChanged_52 B (F_X5_markChanged_4 B n) (nI u) (nI i) (i_b c) (nI i) S = some (.inl (some (nI (u + p_cnt (fun b => i_b (ch b)) (m + 1) i))), z_ua S 58 g) := fun c hc => by
      have hz' : ∀ b, b < i + 1 → (z_ua S 58 (upd (S.1 58) i (i_b c))).1 58 b = i_b (ch b) := fun b hb => by
        rw [z_ua_at]
        by_cases e : b = i
        · rw [e, pk_us, hc]
        · rw [pk_un e]; exact hz b (by omega)
      have e58 : (z_ua S 58 (upd (S.1 58) i (i_b c))).1 58 i = i_b c := by rw [z_ua_at, pk_us]
      rw [F_X5_markChanged_52, m_gd iz, m_lt, xz, nar, m_gd iz, m_lt, e58, p_cnt, hc]
      cases c with
      | false =>
        obtain ⟨g, g1, g2⟩ := C_mark_loop hA hch m n (i + 1) u (z_ua S 58 (upd (S.1 58) i (i_b false))) (CI_58 h) (by omega) (by omega) hz'
        rw [z_ua_ua] at g2
        refine ⟨g, g1, ?_⟩
        rw [if_pos (show i_b false = 0 from rfl), if_pos (show i_b false = 0 from rfl), F_X5_markChanged_65, nI_1, g2, Nat.zero_add]
      | true =>
        obtain ⟨g, g1, g2⟩ := C_mark_loop hA hch m n (i + 1) (u + 1) (z_ua S 58 (upd (S.1 58) i (i_b true))) (CI_58 h) (by omega) (by omega) hz'
        rw [z_ua_ua] at g2
        refine ⟨g, g1, ?_⟩
        rw [if_neg (show ¬ i_b true = 0 by decide), if_neg (show ¬ i_b true = 0 by decide), F_X5_markChanged_65, nI_1, nI_1, g2, Nat.add_assoc]
    rw [F_X5_markChanged_4, h.1.1, if_neg (nI_ge hiB (by omega)), m_gd iz, m_lt, xz, show S.1 3 i = nI (tU A.1.1 i) from h.2.1.1.2.2.1 i hiB]
    by_cases e : tU A.1.1 i = 0
    · have hc : ch i = false := by
        cases hci : ch i with
        | false => rfl
        | true => exact absurd e ((hch i hiB).mp hci).1
      rw [if_pos (by rw [e]; rfl), F_X5_markChanged_51]
      exact tail false hc
    · obtain ⟨c, c1, c2⟩ := C_sameBlock hB hA.2.1.1 hA.2.1.2 hA.2.2.1.1 hA.2.2.1.2 h.2.1.1 h.2.2.1.1 h.2.1.2 h.2.2.1.2 hiB e
      rw [if_neg (fun z => e ((nI_eq (by omega) (by omega)).mp (z.trans m_c0))), c1, m_bn]
      cases c with
      | false =>
        have hc : ch i = true := (hch i hiB).mpr ⟨e, fun w => by have := c2.mpr w; cases this⟩
        rw [if_pos (show i_b false = 0 from rfl)]
        exact tail true hc
      | true =>
        have hc : ch i = false := by
          cases hci : ch i with
          | false => rfl
          | true => exact absurd (c2.mp rfl) ((hch i hiB).mp hci).2
        rw [if_neg (show ¬ i_b true = 0 by decide), F_X5_markChanged_51]
        exact tail false hc
theorem C_markChanged (h : CI B J S A) (hA : AI B J A) (hch : m_chd B A ch) : ∃ g, (∀ b, b < B → g b = i_b (ch b)) ∧ F_X5_markChanged B S = some (.inl (some (nI (p_cnt (fun b => i_b (ch b)) B 0))), z_ua S 58 g) := by
  have hB := hA.1.2.1
  have := C_mark_loop hA hch B z_n 0 0 S h (by omega) (by unfold z_n; omega) (fun b hb => by omega)
  rw [Nat.zero_add] at this
  exact this
end MK
