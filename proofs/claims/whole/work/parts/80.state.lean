/-! Objects, bytes, journal and power as they are meant; what the class holds of them, what the reference holds, what is always so. -/
/-- objects: kind (0 none, 1 directory, 2 file), links, size, directory above, data blocks; bytes of blocks; bytes of tails -/
abbrev m_O : Type := (Nat → Nat) × (Nat → Nat) × (Nat → Nat) × (Nat → Option Nat) × (Nat → List Nat) × (Nat → Nat → Int32) × (Nat → Nat → Int32)
def oK (O : m_O) : Nat → Nat := O.1
def oL (O : m_O) : Nat → Nat := O.2.1
def oZ (O : m_O) : Nat → Nat := O.2.2.1
def oU (O : m_O) : Nat → Option Nat := O.2.2.2.1
def oP (O : m_O) : Nat → List Nat := O.2.2.2.2.1
def oD (O : m_O) : Nat → Nat → Int32 := O.2.2.2.2.2.1
def oE (O : m_O) : Nat → Nat → Int32 := O.2.2.2.2.2.2
def m_tl (z : Nat) : Nat := if z % 128 ≤ 40 ∧ z ≤ 512 then z % 128 else 0
def m_dt (z : Nat) : Nat := z / 128 + if 0 < z % 128 ∧ m_tl z = 0 then 1 else 0
theorem tl_le {z : Nat} : m_tl z ≤ 40 := by unfold m_tl; split <;> omega
theorem dt_le {z : Nat} (h : z ≤ 2048) : m_dt z ≤ 16 := by
  unfold m_dt
  by_cases e : z = 2048
  · rw [e]; decide
  · split <;> omega
/-- the directories from one up to the root -/
def m_path (O : m_O) : Nat → List Nat → Prop
  | _, [] => False
  | o, [a] => a = o ∧ oU O o = none
  | o, a :: b :: L => a = o ∧ oU O o = some b ∧ m_path O b (b :: L)
/-- an item as it stands for what objects have -/
def m_it (O : m_O) (y : m_It) : Prop :=
  1 ≤ y.1 / 4000 ∧ oK O (y.1 / 4000) ≠ 0 ∧ (y.1 / 1000 % 4 = 0 → y = (y.1 / 4000 * 4000, 6, none)) ∧
  (y.1 / 1000 % 4 = 1 → oK O (y.1 / 4000) = 1 ∧ y.2.1 = 3 ∧ ∃ t, y.2.2 = some t ∧ 1 ≤ t ∧ t ≤ 60 ∧ oK O t ≠ 0) ∧
  (y.1 / 1000 % 4 = 2 → oK O (y.1 / 4000) = 2 ∧ y = (y.1 / 4000 * 4000 + 2000, 2 * (oP O (y.1 / 4000)).length, none)) ∧
  (y.1 / 1000 % 4 = 3 → oK O (y.1 / 4000) = 2 ∧ y = (y.1 / 4000 * 4000 + 3000, m_tl (oZ O (y.1 / 4000)), none))
def m_nE (F : List m_It) (d : Nat) : Nat := F.countP (fun y => decide (y.1 / 1000 = d * 4 + 1))
def m_nT (F : List m_It) (o : Nat) : Nat := F.countP (fun y => decide (y.2.2 = some o))
def m_dirs (o : Nat) : Prop := 1 ≤ o ∧ o ≤ 60
/-- what is always so of an image -/
def m_im (B : Nat) (T : m_T) (O : m_O) : Prop :=
  (∀ b, 1 ≤ b → tU T b ≠ 1) ∧ (∀ o, oK O o ≤ 2) ∧ oK O 1 = 1 ∧ (∀ o, (o = 0 ∨ 60 < o) → oK O o = 0) ∧
  (∀ y ∈ flat T, m_it O y) ∧ (∀ o, oK O o ≠ 0 → (o * 4000, 6, none) ∈ flat T) ∧
  (∀ o, oK O o = 2 → (oP O o).length ≠ 0 → (o * 4000 + 2000, 2 * (oP O o).length, none) ∈ flat T) ∧ (∀ o, oK O o = 2 → m_tl (oZ O o) ≠ 0 → (o * 4000 + 3000, m_tl (oZ O o), none) ∈ flat T) ∧
  (∀ o, oK O o = 2 → (oP O o).length = m_dt (oZ O o) ∧ oZ O o ≤ 2048) ∧
  (∀ o, oK O o = 1 → oP O o = [] ∧ oZ O o = m_nE (flat T) o) ∧
  (∀ o, oK O o ≠ 0 → oL O o = m_nT (flat T) o + if o = 1 then 1 else 0) ∧ (∀ o, oK O o = 1 → m_nT (flat T) o = if o = 1 then 0 else 1) ∧ oU O 1 = none ∧
  (∀ y ∈ flat T, ∀ o, y.2.2 = some o → oK O o = 1 → oU O o = some (y.1 / 4000)) ∧ (∀ o, oK O o = 1 → ∃ L, m_path O o L ∧ L.Nodup ∧ ∀ d ∈ L, oK O d = 1) ∧
  (∀ o, oK O o = 2 → ∀ b ∈ oP O o, 1 ≤ b ∧ b < B ∧ tU T b = 4) ∧ (∀ o, oK O o = 2 → (oP O o).Nodup) ∧ (∀ o o' b, oK O o = 2 → oK O o' = 2 → b ∈ oP O o → b ∈ oP O o' → o = o')
/-- a byte in the class and in the reference -/
def rB (c r : Int32) : Prop := r = c &&& 255 ∧ c = r.toInt8.toInt32
/-- what the class's image at place t holds -/
def c_O (B t : Nat) (S : z_S) (T : m_T) (O : m_O) : Prop :=
  (∀ o, 1 ≤ o → o ≤ 60 → S.1 (t + 14) o = nI (oK O o) - 1) ∧
  (∀ o, 1 ≤ o → o ≤ 60 → oK O o ≠ 0 → S.1 (t + 15) o = nI (oL O o) ∧ S.1 (t + 16) o = nI (oZ O o)) ∧
  (∀ o, 1 ≤ o → o ≤ 60 → oK O o = 1 → S.1 (t + 17) o = oI (oU O o)) ∧
  (∀ o, 1 ≤ o → o ≤ 60 → oK O o = 2 → m_l (S.1 (t + 18)) (o * 16) ((oP O o).map nI)) ∧
  (∀ b, b < B → tU T b = 4 → ∀ r, r < 128 → rB (S.1 (t + 19) (b * 128 + r)) (oD O b r)) ∧
  (∀ o, 1 ≤ o → o ≤ 60 → oK O o = 2 → ∀ r, r < m_tl (oZ O o) → rB (S.1 (t + 20) (o * 40 + r)) (oE O o r))
/-- what the reference's array f holds -/
def k_O (B : Nat) (f : Nat → Int32) (T : m_T) (O : m_O) : Prop :=
  (∀ o, 1 ≤ o → o ≤ 60 → f (96 + o) = nI (oK O o)) ∧
  (∀ o, 1 ≤ o → o ≤ 60 → oK O o ≠ 0 → f (157 + o) = nI (oL O o) ∧ f (218 + o) = nI (oZ O o) ∧ f (279 + o) = nI (oP O o).length) ∧
  (∀ o, 1 ≤ o → o ≤ 60 → oK O o = 2 → m_l f (340 + 16 * o) ((oP O o).map nI)) ∧
  (∀ b, b < B → tU T b = 4 → ∀ r, r < 128 → f (13078 + 128 * b + r) = oD O b r) ∧
  (∀ o, 1 ≤ o → o ≤ 60 → oK O o = 2 → m_tl (oZ O o) ≠ 0 → ∀ r, r < 40 → f (1316 + 40 * o + r) = if r < m_tl (oZ O o) then oE O o r else 0)
/-- power and journal: off, writes left, writes done, journal used, commits, what the journal holds -/
abbrev m_P : Type := Int32 × Int32 × Int32 × Nat × Int32 × (Nat → Int32)
abbrev m_A : Type := (m_T × m_O) × (m_T × m_O) × m_P
def CI (B J : Nat) (S : z_S) (A : m_A) : Prop :=
  (S.2.1 0 0 = nI B ∧ S.2.1 43 0 = nI B ∧ S.2.1 55 0 = nI J) ∧ (c_T B 2 S A.1.1 ∧ c_O B 1 S A.1.1 A.1.2) ∧ (c_T B 23 S A.2.1.1 ∧ c_O B 22 S A.2.1.1 A.2.1.2) ∧
  S.2.1 57 0 = A.2.2.1 ∧ S.2.1 57 1 = A.2.2.2.1 ∧ S.2.1 57 2 = A.2.2.2.2.1 ∧ S.2.1 55 2 = nI A.2.2.2.2.2.1 ∧ S.2.1 55 3 = A.2.2.2.2.2.2.1 ∧ ∀ b, b < B → S.1 56 b = A.2.2.2.2.2.2.2 b
def KI (B J : Nat) (S : z_S) (A : m_A) : Prop :=
  (S.2.1 60 1 = nI B ∧ S.2.1 60 2 = nI J) ∧ (k_T B 0 0 (S.1 61) A.1.1 ∧ k_O B (S.1 61) A.1.1 A.1.2) ∧ (k_T B 0 0 (S.1 63) A.2.1.1 ∧ k_O B (S.1 63) A.2.1.1 A.2.1.2) ∧
  S.2.1 60 10 = A.2.2.1 ∧ S.2.1 60 11 = A.2.2.2.1 ∧ S.2.1 60 13 = A.2.2.2.2.1 ∧ S.2.1 60 9 = nI A.2.2.2.2.2.1 ∧ S.2.1 60 14 = A.2.2.2.2.2.2.1 ∧ ∀ b, b < 96 → S.1 65 b = A.2.2.2.2.2.2.2 b
def AI (B J : Nat) (A : m_A) : Prop :=
  (16 ≤ B ∧ B ≤ 96 ∧ 6 ≤ J ∧ J ≤ 64) ∧ (m_ok B A.1.1 ∧ m_im B A.1.1 A.1.2) ∧ (m_ok B A.2.1.1 ∧ m_im B A.2.1.1 A.2.1.2) ∧ (A.2.2.1 = 0 ∨ A.2.2.1 = 1) ∧ A.2.2.2.2.2.1 ≤ J ∧ (∀ b, A.2.2.2.2.2.2.2 b = 0 ∨ A.2.2.2.2.2.2.2 b = 1) ∧ ∀ b, B ≤ b → A.2.2.2.2.2.2.2 b = 0
/-- what a class's call leaves of the reference, and a reference's call of the class -/
def z_cf (S S' : z_S) : Prop := (∀ a, 60 ≤ a → S'.1 a = S.1 a) ∧ (∀ a k, 60 ≤ a → S'.2.1 a k = S.2.1 a k) ∧ S'.2.2 = S.2.2
def z_kf (S S' : z_S) : Prop := (∀ a, a < 60 → S'.1 a = S.1 a) ∧ (∀ a k, a < 60 → S'.2.1 a k = S.2.1 a k) ∧ S'.2.2 = S.2.2
theorem z_cf_rf {S : z_S} : z_cf S S := ⟨fun _ _ => rfl, fun _ _ _ => rfl, rfl⟩
theorem z_kf_rf {S : z_S} : z_kf S S := ⟨fun _ _ => rfl, fun _ _ _ => rfl, rfl⟩
theorem z_cf_tr {S S1 S2 : z_S} (h1 : z_cf S S1) (h2 : z_cf S1 S2) : z_cf S S2 := ⟨fun a h => (h2.1 a h).trans (h1.1 a h), fun a k h => (h2.2.1 a k h).trans (h1.2.1 a k h), h2.2.2.trans h1.2.2⟩
theorem z_kf_tr {S S1 S2 : z_S} (h1 : z_kf S S1) (h2 : z_kf S1 S2) : z_kf S S2 := ⟨fun a h => (h2.1 a h).trans (h1.1 a h), fun a k h => (h2.2.1 a k h).trans (h1.2.1 a k h), h2.2.2.trans h1.2.2⟩
theorem z_cf_fr {t : Nat} {S S' : z_S} (h : m_fr t S S') (ht : t + 11 < 60) : z_cf S S' := ⟨fun a ha => h.1 a (by omega), fun a k ha => h.2.1 a k (by omega), h.2.2⟩
theorem z_cf_ua {S : z_S} {a : Nat} {f : Nat → Int32} (h : a < 60) : z_cf S (z_ua S a f) := ⟨fun b hb => by rw [m_ua1, if_neg (by omega)], fun _ _ _ => rfl, rfl⟩
theorem z_cf_ui {S : z_S} {a k : Nat} {v : Int32} (h : a < 60) : z_cf S (z_ui S a k v) := ⟨fun _ _ => rfl, fun b j hb => by rw [m_ui2, if_neg (by omega)], rfl⟩
theorem z_kf_ua {S : z_S} {a : Nat} {f : Nat → Int32} (h : 60 ≤ a) : z_kf S (z_ua S a f) := ⟨fun b hb => by rw [m_ua1, if_neg (by omega)], fun _ _ _ => rfl, rfl⟩
theorem z_kf_ui {S : z_S} {a k : Nat} {v : Int32} (h : 60 ≤ a) : z_kf S (z_ui S a k v) := ⟨fun _ _ => rfl, fun b j hb => by rw [m_ui2, if_neg (by omega)], rfl⟩
/-- the tree and the image of the class look at a few places only -/
theorem c_T_cg {B t : Nat} {S S' : z_S} {T : m_T} (h : c_T B t S T) (h1 : ∀ a, t < a → a ≤ t + 11 → S'.1 a = S.1 a) (h0 : S'.2.1 t 0 = S.2.1 t 0) (h12 : S'.2.1 t 12 = S.2.1 t 12) : c_T B t S' T := by
  unfold c_T c_lf c_in c_nd at h ⊢
  rw [h0, h12, h1 (t + 1) (by omega) (by omega), h1 (t + 2) (by omega) (by omega), h1 (t + 3) (by omega) (by omega), h1 (t + 4) (by omega) (by omega), h1 (t + 5) (by omega) (by omega), h1 (t + 6) (by omega) (by omega), h1 (t + 7) (by omega) (by omega), h1 (t + 8) (by omega) (by omega), h1 (t + 9) (by omega) (by omega), h1 (t + 10) (by omega) (by omega), h1 (t + 11) (by omega) (by omega)]
  exact h
theorem c_O_cg {B t : Nat} {S S' : z_S} {T : m_T} {O : m_O} (h : c_O B t S T O) (h1 : ∀ a, t + 14 ≤ a → a ≤ t + 20 → S'.1 a = S.1 a) : c_O B t S' T O := by
  unfold c_O at h ⊢
  rw [h1 (t + 14) (by omega) (by omega), h1 (t + 15) (by omega) (by omega), h1 (t + 16) (by omega) (by omega), h1 (t + 17) (by omega) (by omega), h1 (t + 18) (by omega) (by omega), h1 (t + 19) (by omega) (by omega), h1 (t + 20) (by omega) (by omega)]
  exact h
/-- CI, when only the now tree or the now image changes -/
theorem CI_kf {B J : Nat} {S S' : z_S} {A : m_A} (h : CI B J S A) (hf : z_kf S S') : CI B J S' A := by
  obtain ⟨⟨a1, a2, a3⟩, ⟨b1, b2⟩, ⟨c1, c2⟩, d1, d2, d3, d4, d5, d6⟩ := h
  obtain ⟨f1, f2, f3⟩ := hf
  refine ⟨⟨by rw [f2 _ _ (by omega)]; exact a1, by rw [f2 _ _ (by omega)]; exact a2, by rw [f2 _ _ (by omega)]; exact a3⟩, ⟨c_T_cg b1 (fun a _ _ => f1 a (by omega)) (f2 _ _ (by omega)) (f2 _ _ (by omega)), c_O_cg b2 (fun a _ _ => f1 a (by omega))⟩, ⟨c_T_cg c1 (fun a _ _ => f1 a (by omega)) (f2 _ _ (by omega)) (f2 _ _ (by omega)), c_O_cg c2 (fun a _ _ => f1 a (by omega))⟩, by rw [f2 _ _ (by omega)]; exact d1, by rw [f2 _ _ (by omega)]; exact d2, by rw [f2 _ _ (by omega)]; exact d3, by rw [f2 _ _ (by omega)]; exact d4, by rw [f2 _ _ (by omega)]; exact d5, fun b hb => by rw [f1 _ (by omega)]; exact d6 b hb⟩
theorem KI_cf {B J : Nat} {S S' : z_S} {A : m_A} (h : KI B J S A) (hf : z_cf S S') : KI B J S' A := by
  obtain ⟨⟨a1, a2⟩, ⟨b1, b2⟩, ⟨c1, c2⟩, d1, d2, d3, d4, d5, d6⟩ := h
  obtain ⟨f1, f2, f3⟩ := hf
  refine ⟨⟨by rw [f2 _ _ (by omega)]; exact a1, by rw [f2 _ _ (by omega)]; exact a2⟩, ⟨by rw [f1 _ (by omega)]; exact b1, by rw [f1 _ (by omega)]; exact b2⟩, ⟨by rw [f1 _ (by omega)]; exact c1, by rw [f1 _ (by omega)]; exact c2⟩, by rw [f2 _ _ (by omega)]; exact d1, by rw [f2 _ _ (by omega)]; exact d2, by rw [f2 _ _ (by omega)]; exact d3, by rw [f2 _ _ (by omega)]; exact d4, by rw [f2 _ _ (by omega)]; exact d5, fun b hb => by rw [f1 _ (by omega)]; exact d6 b hb⟩
/- sizes -/
section TL
variable {B : Nat} {S : z_S}
theorem m_c128 : (128 : Int32) = nI 128 := rfl
theorem m_c40 : (40 : Int32) = nI 40 := rfl
theorem m_c512 : (512 : Int32) = nI 512 := rfl
theorem m_c2048 : (2048 : Int32) = nI 2048 := rfl
theorem m_c60 : (60 : Int32) = nI 60 := rfl
theorem m_c999 : (999 : Int32) = nI 999 := rfl
theorem r128 {z : Nat} (h : z < 2 ^ 31) : nI z - nI z / 128 * 128 = nI (z % 128) := by rw [m_c128]; exact pk_rem h (by omega) (by omega)
theorem d128 {z : Nat} (h : z < 2 ^ 31) : nI z / 128 = nI (z / 128) := by rw [m_c128]; exact pk_div h (by omega) (by omega)
theorem C_tailBytes {z : Nat} (h : z < 2 ^ 31) : F_X5_tailBytes B (nI z) S = some (.inl (some (nI (m_tl z))), S) := by
  unfold F_X5_tailBytes
  rw [r128 h]
  by_cases h1 : z % 128 ≤ 40
  · have g1 : ¬ (40 : Int32) < nI (z % 128) := by rw [m_c40]; exact nI_nlt h1 (by omega)
    rw [if_neg g1]
    by_cases h2 : z ≤ 512
    · have g2 : ¬ (512 : Int32) < nI z := by rw [m_c512]; exact nI_nlt h2 (by omega)
      rw [if_neg g2, F_X5_tailBytes_24, m_tl, if_pos ⟨h1, h2⟩]
    · have g2 : (512 : Int32) < nI z := by rw [m_c512]; exact nI_lt (by omega) (by omega)
      rw [if_pos g2, F_X5_tailBytes_23, F_X5_tailBytes_24, m_tl, if_neg (fun w => h2 w.2)]; rfl
  · have g1 : (40 : Int32) < nI (z % 128) := by rw [m_c40]; exact nI_lt (by omega) (by omega)
    rw [if_pos g1, F_X5_tailBytes_23, F_X5_tailBytes_24, m_tl, if_neg (fun w => h1 w.1)]; rfl
theorem K_tailOf {z : Nat} (h : z < 2 ^ 31) : F_X6_tailOf B (nI z) S = some (.inl (some (nI (m_tl z))), S) := by
  unfold F_X6_tailOf
  rw [r128 h]
  by_cases h1 : z % 128 ≤ 40
  · have g1 : ¬ (40 : Int32) < nI (z % 128) := by rw [m_c40]; exact nI_nlt h1 (by omega)
    rw [if_neg g1]
    by_cases h2 : z ≤ 512
    · have g2 : ¬ (512 : Int32) < nI z := by rw [m_c512]; exact nI_nlt h2 (by omega)
      rw [if_neg g2, F_X6_tailOf_24, m_tl, if_pos ⟨h1, h2⟩]
    · have g2 : (512 : Int32) < nI z := by rw [m_c512]; exact nI_lt (by omega) (by omega)
      rw [if_pos g2, F_X6_tailOf_23, F_X6_tailOf_24, m_tl, if_neg (fun w => h2 w.2)]; rfl
  · have g1 : (40 : Int32) < nI (z % 128) := by rw [m_c40]; exact nI_lt (by omega) (by omega)
    rw [if_pos g1, F_X6_tailOf_23, F_X6_tailOf_24, m_tl, if_neg (fun w => h1 w.1)]; rfl
theorem C_dataBlocks {z : Nat} (h : z < 2 ^ 31) : F_X5_dataBlocks B (nI z) S = some (.inl (some (nI (m_dt z))), S) := by
  have ht := tl_le (z := z)
  unfold F_X5_dataBlocks
  rw [r128 h, d128 h]
  by_cases h1 : z % 128 = 0
  · have g1 : nI (z % 128) ≤ 0 := by rw [h1]; decide
    rw [if_pos g1, F_X5_dataBlocks_26, F_X5_dataBlocks_27, m_dt, if_neg (by omega), m_c0, nI_add]
  · have g1 : ¬ nI (z % 128) ≤ 0 := by rw [m_c0]; exact nI_ge (by omega) (by omega)
    rw [if_neg g1, C_tailBytes h, m_bn]
    by_cases h2 : m_tl z = 0
    · rw [if_pos (by rw [h2]; rfl), F_X5_dataBlocks_27, m_dt, if_pos ⟨by omega, h2⟩, m_c1, nI_add]
    · have g2 : ¬ nI (m_tl z) = 0 := fun e => h2 ((nI_eq (by omega) (by omega)).mp (e.trans m_c0))
      rw [if_neg g2, F_X5_dataBlocks_26, F_X5_dataBlocks_27, m_dt, if_neg (fun w => h2 w.2), m_c0, nI_add]
theorem K_datasOf {z : Nat} (h : z < 2 ^ 31) : F_X6_datasOf B (nI z) S = some (.inl (some (nI (m_dt z))), S) := by
  have ht := tl_le (z := z)
  unfold F_X6_datasOf
  rw [r128 h, d128 h]
  by_cases h1 : z % 128 = 0
  · have g1 : nI (z % 128) ≤ 0 := by rw [h1]; decide
    rw [if_pos g1, F_X6_datasOf_24, F_X6_datasOf_25, m_dt, if_neg (by omega), m_c0, nI_add]
  · have g1 : ¬ nI (z % 128) ≤ 0 := by rw [m_c0]; exact nI_ge (by omega) (by omega)
    rw [if_neg g1, K_tailOf h, m_bn]
    by_cases h2 : m_tl z = 0
    · rw [if_pos (by rw [h2]; rfl), F_X6_datasOf_25, m_dt, if_pos ⟨by omega, h2⟩, m_c1, nI_add]
    · have g2 : ¬ nI (m_tl z) = 0 := fun e => h2 ((nI_eq (by omega) (by omega)).mp (e.trans m_c0))
      rw [if_neg g2, F_X6_datasOf_24, F_X6_datasOf_25, m_dt, if_neg (fun w => h2 w.2), m_c0, nI_add]
end TL
