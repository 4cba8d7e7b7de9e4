/-! The other constructors of the class. -/
section Y
variable {p : Program} {l : Launch} {e : Env} {R : Room} {s : State} {m : MethodId} {args : Array Value} {below : List Frame} {meth : Method} {c : Code} {H0 : Heap} {cells slots : Nat} {Q : State → Prop}
variable {D : va_G} {K : Nat → ClassId} {A : Nat → Prop} {n B a b : Nat} {v : Int32} {f g : Nat → Int32}
theorem y_fill_loop (hx : p.tables.exec = Jvm.exec) (hb : c.code = cJ7_fill_53178) (hK : va_K D vwCl (z_tys K) s) (hn : n < 2 ^ 31) (kk : ∀ (H : Heap) (locs : List Loc) (ls : Array Slot), va_P D vwCl [(a, .inl (K 0, n, .inl (fun j => if j < n then v else g j)))] H → va_D A [(a, .inl (K 0, n, .inl (fun j => if j < n then v else g j)))] → va_S A H0 H locs → W p l e R s m args below meth c H locs cells slots Q (F0 m 20 ls [])) : ∀ (k i : Nat), i ≤ n → n - i = k → ∀ (H : Heap) (locs : List Loc) (ls : Array Slot), va_P D vwCl [(a, .inl (K 0, n, .inl (fun j => if j < i then v else g j)))] H → va_D A [(a, .inl (K 0, n, .inl (fun j => if j < i then v else g j)))] → va_S A H0 H locs → lv_has ls 4 [(2, .int (nI i)), (3, .int (nI n)), (0, .ref a), (1, .int v)] → W p l e R s m args below meth c H locs cells slots Q (F0 m 5 ls []) := by
  intro k
  induction k with
  | zero =>
    intro i hi hk H locs ls hP hD hS hl
    have e : i = n := by omega
    subst e
    refine lv_iload_n hx hb dJ7_fill_53178_5 rfl (lv_at hl 0 rfl) ?_
    refine lv_iload_n hx hb dJ7_fill_53178_6 rfl (lv_at hl 1 rfl) ?_
    refine lv_icmp_ge (tgt := 20) hx hb dJ7_fill_53178_7 (by decide) (fun _ => ?_) (fun h9 => absurd (Int32.le_refl _) h9)
    exact kk H locs ls hP hD hS
  | succ k ih =>
    intro i hi hk H locs ls hP hD hS hl
    refine lv_iload_n hx hb dJ7_fill_53178_5 rfl (lv_at hl 0 rfl) ?_
    refine lv_iload_n hx hb dJ7_fill_53178_6 rfl (lv_at hl 1 rfl) ?_
    refine lv_icmp_ge (tgt := 20) hx hb dJ7_fill_53178_7 (by decide) (fun h9 => absurd h9 (nI_ge (by omega) hn)) (fun _ => ?_)
    refine lv_aload_n hx hb dJ7_fill_53178_10 rfl (lv_at hl 2 rfl) ?_
    refine lv_iload_n hx hb dJ7_fill_53178_11 rfl (lv_at hl 0 rfl) ?_
    refine lv_iload_n hx hb dJ7_fill_53178_12 rfl (lv_at hl 3 rfl) ?_
    refine va_iast hx hb hK hP hD hS 0 0 rfl rfl (vp_in_nI (by omega) hn) dJ7_fill_53178_13 (fun H locs hP hD hS => ?_)
    have e : upd (fun j => if j < i then v else g j) (nI i).toNatClampNeg v = fun j => if j < i + 1 then v else g j := by
      rw [nI_clamp (by omega)]
      funext j
      unfold upd
      by_cases h1 : j = i
      · rw [if_pos h1, if_pos (by omega)]
      · rw [if_neg h1]
        show (if j < i then v else g j) = _
        by_cases h2 : j < i
        · rw [if_pos h2, if_pos (by omega)]
        · rw [if_neg h2, if_neg (by omega)]
    have hP : va_P D vwCl [(a, .inl (K 0, n, .inl (upd (fun j => if j < i then v else g j) (nI i).toNatClampNeg v)))] H := hP
    have hD : va_D A [(a, .inl (K 0, n, .inl (upd (fun j => if j < i then v else g j) (nI i).toNatClampNeg v)))] := hD
    rw [e] at hP hD
    refine lv_iinc (v := nI (i + 1)) (lv' := [(2, .int (nI (i + 1))), (3, .int (nI n)), (0, .ref a), (1, .int v)]) hx hb dJ7_fill_53178_14 hl (k := 0) rfl (nI_1 i) (by decide) rfl (fun ls hl => ?_)
    refine lv_goto (tgt := 5) hx hb dJ7_fill_53178_17 (by decide) ?_
    exact ih (i + 1) (by omega) (by omega) H locs ls hP hD hS hl
theorem y_keep_loop (hx : p.tables.exec = Jvm.exec) (hb : c.code = cX6_keep) (hK : va_K D vwCl (z_tys K) s) (kk : ∀ (H : Heap) (locs : List Loc) (ls : Array Slot), va_P D vwCl [(a, .inl (K 0, 0 * B + 25366, .inl f)), (b, .inl (K 0, 0 * B + 25366, .inl (fun j => if j < 25366 then f j else g j)))] H → va_D A [(a, .inl (K 0, 0 * B + 25366, .inl f)), (b, .inl (K 0, 0 * B + 25366, .inl (fun j => if j < 25366 then f j else g j)))] → va_S A H0 H locs → W p l e R s m args below meth c H locs cells slots Q (F0 m 21 ls [])) : ∀ (k i : Nat), i ≤ 25366 → 25366 - i = k → ∀ (H : Heap) (locs : List Loc) (ls : Array Slot), va_P D vwCl [(a, .inl (K 0, 0 * B + 25366, .inl f)), (b, .inl (K 0, 0 * B + 25366, .inl (fun j => if j < i then f j else g j)))] H → va_D A [(a, .inl (K 0, 0 * B + 25366, .inl f)), (b, .inl (K 0, 0 * B + 25366, .inl (fun j => if j < i then f j else g j)))] → va_S A H0 H locs → lv_has ls 3 [(2, .int (nI i)), (0, .ref a), (1, .ref b)] → W p l e R s m args below meth c H locs cells slots Q (F0 m 2 ls []) := by
  intro k
  induction k with
  | zero =>
    intro i hi hk H locs ls hP hD hS hl
    have e : i = 25366 := by omega
    subst e
    refine lv_iload_n hx hb dX6_keep_2 rfl (lv_at hl 0 rfl) ?_
    refine lv_sipush (v := 25366) hx hb dX6_keep_3 (by decide) ?_
    refine lv_icmp_ge (tgt := 21) hx hb dX6_keep_6 (by decide) (fun _ => ?_) (fun h9 => absurd (nI_le (a := 25366) (b := 25366) (Nat.le_refl _) (by decide)) h9)
    exact kk H locs ls hP hD hS
  | succ k ih =>
    intro i hi hk H locs ls hP hD hS hl
    refine lv_iload_n hx hb dX6_keep_2 rfl (lv_at hl 0 rfl) ?_
    refine lv_sipush (v := 25366) hx hb dX6_keep_3 (by decide) ?_
    refine lv_icmp_ge (tgt := 21) hx hb dX6_keep_6 (by decide) (fun h9 => absurd h9 (nI_ge (a := i) (b := 25366) (by omega) (by decide))) (fun _ => ?_)
    refine lv_aload_n hx hb dX6_keep_9 rfl (lv_at hl 2 rfl) ?_
    refine lv_iload_n hx hb dX6_keep_10 rfl (lv_at hl 0 rfl) ?_
    refine lv_aload_n hx hb dX6_keep_11 rfl (lv_at hl 1 rfl) ?_
    refine lv_iload_n hx hb dX6_keep_12 rfl (lv_at hl 0 rfl) ?_
    refine va_iald hx hb hK hP 0 0 rfl rfl (y_in (k := i) (nI_pos (by omega)) (nI_clamp (by omega)) (by omega)) dX6_keep_13 ?_
    refine va_iast hx hb hK hP hD hS 1 0 rfl rfl (y_in (k := i) (nI_pos (by omega)) (nI_clamp (by omega)) (by omega)) dX6_keep_14 (fun H locs hP hD hS => ?_)
    have e : upd (fun j => if j < i then f j else g j) (nI i).toNatClampNeg (f (nI i).toNatClampNeg) = fun j => if j < i + 1 then f j else g j := by
      rw [nI_clamp (by omega)]
      funext j
      unfold upd
      by_cases h1 : j = i
      · rw [if_pos h1, if_pos (by omega), h1]
      · rw [if_neg h1]
        show (if j < i then f j else g j) = _
        by_cases h2 : j < i
        · rw [if_pos h2, if_pos (by omega)]
        · rw [if_neg h2, if_neg (by omega)]
    have hP : va_P D vwCl [(a, .inl (K 0, 0 * B + 25366, .inl f)), (b, .inl (K 0, 0 * B + 25366, .inl (upd (fun j => if j < i then f j else g j) (nI i).toNatClampNeg (f (nI i).toNatClampNeg))))] H := hP
    have hD : va_D A [(a, .inl (K 0, 0 * B + 25366, .inl f)), (b, .inl (K 0, 0 * B + 25366, .inl (upd (fun j => if j < i then f j else g j) (nI i).toNatClampNeg (f (nI i).toNatClampNeg))))] := hD
    rw [e] at hP hD
    refine lv_iinc (v := nI (i + 1)) (lv' := [(2, .int (nI (i + 1))), (0, .ref a), (1, .ref b)]) hx hb dX6_keep_15 hl (k := 0) rfl (nI_1 i) (by decide) rfl (fun ls hl => ?_)
    refine lv_goto (tgt := 2) hx hb dX6_keep_18 (by decide) ?_
    exact ih (i + 1) (by omega) (by omega) H locs ls hP hD hS hl
end Y
theorem y_if0 (v : Int32) (g : Nat → Int32) : (fun j => if j < 0 then v else g j) = g := by funext j; rw [if_neg (by omega)]
theorem y_if0' (f g : Nat → Int32) : (fun j => if j < 0 then f j else g j) = g := by funext j; rw [if_neg (by omega)]
set_option maxRecDepth 100000 in
theorem n_J7_fill {l : Launch} {D : va_G} {K : Nat → ClassId} {a n : Nat} {v : Int32} {g : Nat → Int32} (hn : n < 2 ^ 31) : y_Met l I_J7_fill_53178 { frames := 0, locals := 0, cells := 0, slots := 0 } D K [.ref a, .int v] [(a, .inl (K 0, n, .inl g))] none (fun _ => [(a, .inl (K 0, n, .inl (fun j => if j < n then v else g j)))]) := by
  refine y_enter (by decide) (Nat.le_of_ble_eq_true rfl) ?_
  intro p e s m args below meth c ls A C hl hP hD hS hA
  obtain ⟨hx, hb, hr, hml, hown, hts, hlocks, hK, hnest, hin⟩ := id C
  have hb : c.code = cJ7_fill_53178 := hb
  have hl : lv_has ls 4 [(0, .ref a), (1, .int v)] := hl
  refine lv_iconst (v := nI 0) hx hb dJ7_fill_53178_0 (by decide) ?_
  refine lv_istore_n (lv' := [(2, .int (nI 0)), (0, .ref a), (1, .int v)]) hx hb dJ7_fill_53178_1 rfl hl (by decide) rfl (fun ls hl => ?_)
  refine lv_aload_n hx hb dJ7_fill_53178_2 rfl (lv_at hl 1 rfl) ?_
  refine va_alen hx hb hK hP 0 0 rfl rfl (v := nI n) rfl dJ7_fill_53178_3 ?_
  refine lv_istore_n (lv' := [(3, .int (nI n)), (2, .int (nI 0)), (0, .ref a), (1, .int v)]) hx hb dJ7_fill_53178_4 rfl hl (by decide) rfl (fun ls hl => ?_)
  refine y_fill_loop (H0 := s.heap) (g := g) (n := n) hx hb hK hn (fun H locs ls hP hD hS => ?_) n 0 (Nat.zero_le _) rfl _ _ ls (by rw [y_if0]; exact hP) (by rw [y_if0]; exact hD) hS (lv_sub hl [1, 0, 2, 3] rfl)
  exact W.vret hx hb hr (fun t ht _ => ⟨⟨rfl, fun _ => 0, by rw [ht]; exact hP, hD⟩, hS.F ht⟩) hS.2.2 dJ7_fill_53178_20
set_option maxRecDepth 100000 in
theorem n_X6_keep {l : Launch} {D : va_G} {K : Nat → ClassId} {a b B : Nat} {f g : Nat → Int32} : y_Met l I_X6_keep { frames := 0, locals := 0, cells := 0, slots := 0 } D K [.ref a, .ref b] [(a, .inl (K 0, 0 * B + 25366, .inl f)), (b, .inl (K 0, 0 * B + 25366, .inl g))] none (fun _ => [(a, .inl (K 0, 0 * B + 25366, .inl f)), (b, .inl (K 0, 0 * B + 25366, .inl (fun j => if j < 25366 then f j else g j)))]) := by
  refine y_enter (by decide) (Nat.le_of_ble_eq_true rfl) ?_
  intro p e s m args below meth c ls A C hl hP hD hS hA
  obtain ⟨hx, hb, hr, hml, hown, hts, hlocks, hK, hnest, hin⟩ := id C
  have hb : c.code = cX6_keep := hb
  have hl : lv_has ls 3 [(0, .ref a), (1, .ref b)] := hl
  refine lv_iconst (v := nI 0) hx hb dX6_keep_0 (by decide) ?_
  refine lv_istore_n (lv' := [(2, .int (nI 0)), (0, .ref a), (1, .ref b)]) hx hb dX6_keep_1 rfl hl (by decide) rfl (fun ls hl => ?_)
  refine y_keep_loop (H0 := s.heap) (B := B) (f := f) (g := g) hx hb hK (fun H locs ls hP hD hS => ?_) 25366 0 (Nat.zero_le _) rfl _ _ ls (by rw [y_if0']; exact hP) (by rw [y_if0']; exact hD) hS hl
  exact W.vret hx hb hr (fun t ht _ => ⟨⟨rfl, fun _ => 0, by rw [ht]; exact hP, hD⟩, hS.F ht⟩) hS.2.2 dX6_keep_21
def y_near (x lo hi : Int32) : Int32 := if lo < (if hi < x then hi else x) then (if hi < x then hi else x) else lo
theorem yv_0 : Cond.methodLink "PackedTree" 361 Lib.Math.min.name ∈ z_G := z_Gin (List.mem_of_getElem? (i := 117) (by decide +kernel)) rfl
theorem yv_1 : Cond.static Lib.Math.min.name ∈ z_G := z_Gin (List.mem_of_getElem? (i := 118) (by decide +kernel)) rfl
theorem yv_2 : Cond.initialized "java/lang/Math" ∈ z_G := z_Gin (List.mem_of_getElem? (i := 90) (by decide +kernel)) rfl
theorem yv_3 : Cond.code Lib.Math.min.name Lib.Math.min.code 2 (some .int) ∈ z_G := z_Gin (List.mem_of_getElem? (i := 119) (by decide +kernel)) rfl
theorem yv_4 : Cond.methodLink "PackedTree" 334 Lib.Math.max.name ∈ z_G := z_Gin (List.mem_of_getElem? (i := 120) (by decide +kernel)) rfl
theorem yv_5 : Cond.static Lib.Math.max.name ∈ z_G := z_Gin (List.mem_of_getElem? (i := 121) (by decide +kernel)) rfl
theorem yv_6 : Cond.code Lib.Math.max.name Lib.Math.max.code 2 (some .int) ∈ z_G := z_Gin (List.mem_of_getElem? (i := 122) (by decide +kernel)) rfl
theorem yv_7 : Cond.methodLink "PackedTree$Objects" 3 Lib.objectInit ∈ z_G := z_Gin (List.mem_of_getElem? (i := 208) (by decide +kernel)) rfl
theorem yv_8 : Cond.instanceMethod Lib.objectInit ∈ z_G := z_Gin (List.mem_of_getElem? (i := 112) (by decide +kernel)) rfl
theorem yv_9 : Cond.code Lib.objectInit ⟨#[0xb1]⟩ 1 none ∈ z_G := z_Gin (List.mem_of_getElem? (i := 113) (by decide +kernel)) rfl
theorem yv_10 : Cond.arrayClass .int ∈ z_G := z_Gin (List.mem_of_getElem? (i := 202) (by decide +kernel)) rfl
theorem yv_11 : Cond.fieldLink "PackedTree$Objects" 9 "PackedTree$Objects" "kind" "[I" ∈ z_G := z_Gin (List.mem_of_getElem? (i := 212) (by decide +kernel)) rfl
theorem yv_12 : Cond.fieldLink "PackedTree$Objects" 15 "PackedTree$Objects" "links" "[I" ∈ z_G := z_Gin (List.mem_of_getElem? (i := 214) (by decide +kernel)) rfl
theorem yv_13 : Cond.fieldLink "PackedTree$Objects" 18 "PackedTree$Objects" "size" "[I" ∈ z_G := z_Gin (List.mem_of_getElem? (i := 216) (by decide +kernel)) rfl
theorem yv_14 : Cond.fieldLink "PackedTree$Objects" 21 "PackedTree$Objects" "up" "[I" ∈ z_G := z_Gin (List.mem_of_getElem? (i := 218) (by decide +kernel)) rfl
theorem yv_15 : Cond.fieldLink "PackedTree$Objects" 24 "PackedTree$Objects" "pointer" "[I" ∈ z_G := z_Gin (List.mem_of_getElem? (i := 220) (by decide +kernel)) rfl
theorem yv_16 : Cond.methodLink "PackedTree$Objects" 27 yJ7_fill_53178 ∈ z_G := z_Gin (List.mem_of_getElem? (i := 209) (by decide +kernel)) rfl
theorem yv_17 : Cond.methodLink "PackedTree$Journal" 3 Lib.objectInit ∈ z_G := z_Gin (List.mem_of_getElem? (i := 257) (by decide +kernel)) rfl
theorem yv_18 : Cond.fieldLink "PackedTree$Journal" 9 "PackedTree$Journal" "room" "I" ∈ z_G := z_Gin (List.mem_of_getElem? (i := 258) (by decide +kernel)) rfl
theorem yv_19 : Cond.arrayClass .boolean ∈ z_G := z_Gin (List.mem_of_getElem? (i := 274) (by decide +kernel)) rfl
theorem yv_20 : Cond.fieldLink "PackedTree$Journal" 15 "PackedTree$Journal" "holds" "[Z" ∈ z_G := z_Gin (List.mem_of_getElem? (i := 260) (by decide +kernel)) rfl
theorem yv_21 : Cond.methodLink "PackedTree$Power" 3 Lib.objectInit ∈ z_G := z_Gin (List.mem_of_getElem? (i := 280) (by decide +kernel)) rfl
theorem yv_22 : Cond.fieldLink "PackedTree$Power" 9 "PackedTree$Power" "isOff" "Z" ∈ z_G := z_Gin (List.mem_of_getElem? (i := 281) (by decide +kernel)) rfl
theorem yv_23 : Cond.fieldLink "PackedTree$Power" 15 "PackedTree$Power" "left" "I" ∈ z_G := z_Gin (List.mem_of_getElem? (i := 283) (by decide +kernel)) rfl
theorem yv_24 : Cond.fieldLink "PackedTree$Power" 19 "PackedTree$Power" "writes" "I" ∈ z_G := z_Gin (List.mem_of_getElem? (i := 285) (by decide +kernel)) rfl
theorem yv_25 : Cond.methodLink "PackedTree$Image" 3 Lib.objectInit ∈ z_G := z_Gin (List.mem_of_getElem? (i := 128) (by decide +kernel)) rfl
theorem yv_26 : Cond.classLink "PackedTree$Image" 9 "PackedTree$Tree" ∈ z_G := z_Gin (List.mem_of_getElem? (i := 129) (by decide +kernel)) rfl
theorem yv_27 : Cond.instantiable "PackedTree$Tree" 13 ∈ z_G := z_Gin (List.mem_of_getElem? (i := 130) (by decide +kernel)) rfl
theorem yv_28 : Cond.initialized "PackedTree$Tree" ∈ z_G := z_Gin (List.mem_of_getElem? (i := 92) (by decide +kernel)) rfl
theorem yv_29 : Cond.methodLink "PackedTree$Image" 11 yX4_init ∈ z_G := z_Gin (List.mem_of_getElem? (i := 131) (by decide +kernel)) rfl
theorem yv_30 : Cond.fieldLink "PackedTree$Image" 14 "PackedTree$Image" "tree" "LPackedTree$Tree;" ∈ z_G := z_Gin (List.mem_of_getElem? (i := 234) (by decide +kernel)) rfl
theorem yv_31 : Cond.classLink "PackedTree$Image" 20 "PackedTree$Objects" ∈ z_G := z_Gin (List.mem_of_getElem? (i := 203) (by decide +kernel)) rfl
theorem yv_32 : Cond.instantiable "PackedTree$Objects" 5 ∈ z_G := z_Gin (List.mem_of_getElem? (i := 204) (by decide +kernel)) rfl
theorem yv_33 : Cond.initialized "PackedTree$Objects" ∈ z_G := z_Gin (List.mem_of_getElem? (i := 94) (by decide +kernel)) rfl
theorem yv_34 : Cond.methodLink "PackedTree$Image" 22 yX2_init ∈ z_G := z_Gin (List.mem_of_getElem? (i := 205) (by decide +kernel)) rfl
theorem yv_35 : Cond.fieldLink "PackedTree$Image" 23 "PackedTree$Image" "objects" "LPackedTree$Objects;" ∈ z_G := z_Gin (List.mem_of_getElem? (i := 236) (by decide +kernel)) rfl
theorem yv_36 : Cond.arrayClass .byte ∈ z_G := z_Gin (List.mem_of_getElem? (i := 249) (by decide +kernel)) rfl
theorem yv_37 : Cond.fieldLink "PackedTree$Image" 27 "PackedTree$Image" "data" "[B" ∈ z_G := z_Gin (List.mem_of_getElem? (i := 238) (by decide +kernel)) rfl
theorem yv_38 : Cond.fieldLink "PackedTree$Image" 31 "PackedTree$Image" "tails" "[B" ∈ z_G := z_Gin (List.mem_of_getElem? (i := 239) (by decide +kernel)) rfl
def I_X5_nearest : z_I := (yX5_nearest, cX5_nearest, 3, some .int)
theorem os_X5_nearest : z_okS I_X5_nearest 3 := ⟨⟨z_Gin (List.mem_of_getElem? (i := 115) (by decide +kernel)) rfl, z_Gin (List.mem_of_getElem? (i := 89) (by decide +kernel)) rfl, z_Gin (List.mem_of_getElem? (i := 116) (by decide +kernel)) rfl⟩, by decide, by decide, by decide +kernel⟩
set_option maxRecDepth 100000 in
theorem n_X5_nearest {l : Launch} {D : va_G} {K : Nat → ClassId} {x lo hi : Int32} : y_Met l I_X5_nearest { frames := 1, locals := 40, cells := 0, slots := 0 } D K [.int x, .int lo, .int hi] [] (some (y_near x lo hi)) (fun _ => []) := by
  refine y_enter (by decide) (Nat.le_of_ble_eq_true rfl) ?_
  intro p e s m args below meth c ls A C hl hP hD hS hA
  obtain ⟨hx, hb, hr, hml, hown, hts, hlocks, hK, hnest, hin⟩ := id C
  have hb : c.code = cX5_nearest := hb
  have hown : s.vm.findClass RX5 = some m.cls := hown
  have hl : lv_has ls 3 [(0, .int x), (1, .int lo), (2, .int hi)] := hl
  refine lv_iload_n hx hb dX5_nearest_0 rfl (lv_at hl 1 rfl) ?_
  refine lv_iload_n hx hb dX5_nearest_1 rfl (lv_at hl 0 rfl) ?_
  refine lv_iload_n hx hb dX5_nearest_2 rfl (lv_at hl 2 rfl) ?_
  refine va_mmin hx hb (hml.trans hl.1.symm) hown (hts _ yv_0) (hts _ yv_1) (hts _ yv_2) (hts _ yv_3) (Nat.le_of_ble_eq_true rfl) (Nat.le_of_ble_eq_true rfl) (Nat.zero_le _) (Nat.zero_le _) dX5_nearest_3 ?_
  refine va_mmax hx hb (hml.trans hl.1.symm) hown (hts _ yv_4) (hts _ yv_5) (hts _ yv_2) (hts _ yv_6) (Nat.le_of_ble_eq_true rfl) (Nat.le_of_ble_eq_true rfl) (Nat.zero_le _) (Nat.zero_le _) dX5_nearest_6 ?_
  exact W.iret hx hb hr (fun t ht _ => ⟨⟨rfl, fun _ => 0, by rw [ht]; exact hP, hD⟩, hS.F ht⟩) hS.2.2 dX5_nearest_9
abbrev y_obj (K : Nat → ClassId) (B h : Nat) (u : Nat → Nat) (G : Nat → Nat → Int32) : va_W := [(h, .inr (2, [.ref (u 1), .ref (u 2), .ref (u 3), .ref (u 4), .ref (u 5)])), (u 1, .inl (K 0, 0 * B + 61, .inl (G 1))), (u 2, .inl (K 0, 0 * B + 61, .inl (G 2))), (u 3, .inl (K 0, 0 * B + 61, .inl (G 3))), (u 4, .inl (K 0, 0 * B + 61, .inl (G 4))), (u 5, .inl (K 0, 0 * B + 976, .inl (G 5)))]
def y_G (B : Nat) : Nat → Nat → Int32 := fun k => [fun _ => 0, upd (fun j => if j < 0 * B + 61 then (-1) else 0) (Int32.toNatClampNeg 1) 0, upd (fun _ => 0) (Int32.toNatClampNeg 1) 1, fun _ => 0, upd (fun _ => 0) (Int32.toNatClampNeg 1) (-1), fun _ => 0].getD k (fun _ => 0)
def I_X2_init : z_I := (yX2_init, cX2_init, 1, none)
theorem oi_X2_init : y_okI I_X2_init 0 := ⟨⟨z_Gin (List.mem_of_getElem? (i := 206) (by decide +kernel)) rfl, z_Gin (List.mem_of_getElem? (i := 94) (by decide +kernel)) rfl, z_Gin (List.mem_of_getElem? (i := 207) (by decide +kernel)) rfl⟩, rfl, rfl, by decide, by decide, by decide +kernel⟩
set_option maxRecDepth 100000 in
set_option maxHeartbeats 4000000 in
theorem n_X2_init {l : Launch} {D : va_G} {K : Nat → ClassId} {B h : Nat} (hB : 16 ≤ B ∧ B ≤ 96) : y_Met l I_X2_init { frames := 1, locals := 60, cells := 5, slots := 1220 } D K [.ref h] ([(h, .inr (2, [.null, .null, .null, .null, .null]))]) none (fun u => y_obj K B h u (y_G B)) := by
  refine y_enter (by decide) (Nat.le_of_ble_eq_true rfl) ?_
  intro p e s m args below meth c ls A C hl hP hD hS hA
  obtain ⟨hx, hb, hr, hml, hown, hts, hlocks, hK, hnest, hin⟩ := id C
  have hb : c.code = cX2_init := hb
  have hown : s.vm.findClass RX2 = some m.cls := hown
  have hl : lv_has ls 1 [(0, .ref h)] := hl
  refine lv_aload_n hx hb dX2_init_0 rfl (lv_at hl 0 rfl) ?_
  refine W.objInit hx hb hown (hts _ yv_7) (hts _ yv_8) (hts _ yv_9) rfl (hl.1.trans hml.symm) rfl dX2_init_1 (Nat.le_of_ble_eq_true rfl) (Nat.le_of_ble_eq_true rfl) ?_
  refine W.eq (g2 := F0 m 4 ls []) rfl ?_
  refine lv_aload_n hx hb dX2_init_4 rfl (lv_at hl 0 rfl) ?_
  refine lv_bipush (v := 61) hx hb dX2_init_5 (by decide) ?_
  refine y_newi (t := 0) (N := 0 * B + 61) (ty := .int) C rfl (Or.inl ⟨rfl, rfl⟩) yv_10 hP hD hS hA (by decide) (y_l0 (by decide)) (by omega) (Nat.le_of_ble_eq_true rfl) (by show (_ : Nat) ≤ 1220; omega) dX2_init_7 (fun q1 H hP hD hS => ?_)
  have hP : va_P D vwCl ([(h, .inr (2, [.null, .null, .null, .null, .null])), (q1, .inl (K 0, 0 * B + 61, .inl (fun _ => 0)))]) H := hP
  have hD : va_D A ([(h, .inr (2, [.null, .null, .null, .null, .null])), (q1, .inl (K 0, 0 * B + 61, .inl (fun _ => 0)))]) := hD
  refine va_putF hx hb hts in_2 tyX2 tyX2_ok nmX2 hown hK hP hD hS 0 rfl (ci := 2) rfl 0 (by decide) (hts _ yv_11) (fun _ h => h) rfl hin rfl (ty := tyX2 0) (tyX2_ok 0 (by decide)) rfl rfl (Nat.le_of_ble_eq_true rfl) dX2_init_9 (fun H locs hP hD hS => ?_)
  have hP : va_P D vwCl ([(h, .inr (2, [.ref q1, .null, .null, .null, .null])), (q1, .inl (K 0, 0 * B + 61, .inl (fun _ => 0)))]) H := hP
  have hD : va_D A ([(h, .inr (2, [.ref q1, .null, .null, .null, .null])), (q1, .inl (K 0, 0 * B + 61, .inl (fun _ => 0)))]) := hD
  refine lv_aload_n hx hb dX2_init_12 rfl (lv_at hl 0 rfl) ?_
  refine lv_bipush (v := 61) hx hb dX2_init_13 (by decide) ?_
  refine y_newi (t := 0) (N := 0 * B + 61) (ty := .int) C rfl (Or.inl ⟨rfl, rfl⟩) yv_10 hP hD hS hA (by decide) (y_l0 (by decide)) (by omega) (Nat.le_of_ble_eq_true rfl) (by show (_ : Nat) ≤ 1220; omega) dX2_init_15 (fun q2 H hP hD hS => ?_)
  have hP : va_P D vwCl ([(h, .inr (2, [.ref q1, .null, .null, .null, .null])), (q1, .inl (K 0, 0 * B + 61, .inl (fun _ => 0))), (q2, .inl (K 0, 0 * B + 61, .inl (fun _ => 0)))]) H := hP
  have hD : va_D A ([(h, .inr (2, [.ref q1, .null, .null, .null, .null])), (q1, .inl (K 0, 0 * B + 61, .inl (fun _ => 0))), (q2, .inl (K 0, 0 * B + 61, .inl (fun _ => 0)))]) := hD
  refine va_putF hx hb hts in_2 tyX2 tyX2_ok nmX2 hown hK hP hD hS 0 rfl (ci := 2) rfl 1 (by decide) (hts _ yv_12) (fun _ h => h) rfl hin rfl (ty := tyX2 1) (tyX2_ok 1 (by decide)) rfl rfl (Nat.le_of_ble_eq_true rfl) dX2_init_17 (fun H locs hP hD hS => ?_)
  have hP : va_P D vwCl ([(h, .inr (2, [.ref q1, .ref q2, .null, .null, .null])), (q1, .inl (K 0, 0 * B + 61, .inl (fun _ => 0))), (q2, .inl (K 0, 0 * B + 61, .inl (fun _ => 0)))]) H := hP
  have hD : va_D A ([(h, .inr (2, [.ref q1, .ref q2, .null, .null, .null])), (q1, .inl (K 0, 0 * B + 61, .inl (fun _ => 0))), (q2, .inl (K 0, 0 * B + 61, .inl (fun _ => 0)))]) := hD
  refine lv_aload_n hx hb dX2_init_20 rfl (lv_at hl 0 rfl) ?_
  refine lv_bipush (v := 61) hx hb dX2_init_21 (by decide) ?_
  refine y_newi (t := 0) (N := 0 * B + 61) (ty := .int) C rfl (Or.inl ⟨rfl, rfl⟩) yv_10 hP hD hS hA (by decide) (y_l0 (by decide)) (by omega) (Nat.le_of_ble_eq_true rfl) (by show (_ : Nat) ≤ 1220; omega) dX2_init_23 (fun q3 H hP hD hS => ?_)
  have hP : va_P D vwCl ([(h, .inr (2, [.ref q1, .ref q2, .null, .null, .null])), (q1, .inl (K 0, 0 * B + 61, .inl (fun _ => 0))), (q2, .inl (K 0, 0 * B + 61, .inl (fun _ => 0))), (q3, .inl (K 0, 0 * B + 61, .inl (fun _ => 0)))]) H := hP
  have hD : va_D A ([(h, .inr (2, [.ref q1, .ref q2, .null, .null, .null])), (q1, .inl (K 0, 0 * B + 61, .inl (fun _ => 0))), (q2, .inl (K 0, 0 * B + 61, .inl (fun _ => 0))), (q3, .inl (K 0, 0 * B + 61, .inl (fun _ => 0)))]) := hD
  refine va_putF hx hb hts in_2 tyX2 tyX2_ok nmX2 hown hK hP hD hS 0 rfl (ci := 2) rfl 2 (by decide) (hts _ yv_13) (fun _ h => h) rfl hin rfl (ty := tyX2 2) (tyX2_ok 2 (by decide)) rfl rfl (Nat.le_of_ble_eq_true rfl) dX2_init_25 (fun H locs hP hD hS => ?_)
  have hP : va_P D vwCl ([(h, .inr (2, [.ref q1, .ref q2, .ref q3, .null, .null])), (q1, .inl (K 0, 0 * B + 61, .inl (fun _ => 0))), (q2, .inl (K 0, 0 * B + 61, .inl (fun _ => 0))), (q3, .inl (K 0, 0 * B + 61, .inl (fun _ => 0)))]) H := hP
  have hD : va_D A ([(h, .inr (2, [.ref q1, .ref q2, .ref q3, .null, .null])), (q1, .inl (K 0, 0 * B + 61, .inl (fun _ => 0))), (q2, .inl (K 0, 0 * B + 61, .inl (fun _ => 0))), (q3, .inl (K 0, 0 * B + 61, .inl (fun _ => 0)))]) := hD
  refine lv_aload_n hx hb dX2_init_28 rfl (lv_at hl 0 rfl) ?_
  refine lv_bipush (v := 61) hx hb dX2_init_29 (by decide) ?_
  refine y_newi (t := 0) (N := 0 * B + 61) (ty := .int) C rfl (Or.inl ⟨rfl, rfl⟩) yv_10 hP hD hS hA (by decide) (y_l0 (by decide)) (by omega) (Nat.le_of_ble_eq_true rfl) (by show (_ : Nat) ≤ 1220; omega) dX2_init_31 (fun q4 H hP hD hS => ?_)
  have hP : va_P D vwCl ([(h, .inr (2, [.ref q1, .ref q2, .ref q3, .null, .null])), (q1, .inl (K 0, 0 * B + 61, .inl (fun _ => 0))), (q2, .inl (K 0, 0 * B + 61, .inl (fun _ => 0))), (q3, .inl (K 0, 0 * B + 61, .inl (fun _ => 0))), (q4, .inl (K 0, 0 * B + 61, .inl (fun _ => 0)))]) H := hP
  have hD : va_D A ([(h, .inr (2, [.ref q1, .ref q2, .ref q3, .null, .null])), (q1, .inl (K 0, 0 * B + 61, .inl (fun _ => 0))), (q2, .inl (K 0, 0 * B + 61, .inl (fun _ => 0))), (q3, .inl (K 0, 0 * B + 61, .inl (fun _ => 0))), (q4, .inl (K 0, 0 * B + 61, .inl (fun _ => 0)))]) := hD
  refine va_putF hx hb hts in_2 tyX2 tyX2_ok nmX2 hown hK hP hD hS 0 rfl (ci := 2) rfl 3 (by decide) (hts _ yv_14) (fun _ h => h) rfl hin rfl (ty := tyX2 3) (tyX2_ok 3 (by decide)) rfl rfl (Nat.le_of_ble_eq_true rfl) dX2_init_33 (fun H locs hP hD hS => ?_)
  have hP : va_P D vwCl ([(h, .inr (2, [.ref q1, .ref q2, .ref q3, .ref q4, .null])), (q1, .inl (K 0, 0 * B + 61, .inl (fun _ => 0))), (q2, .inl (K 0, 0 * B + 61, .inl (fun _ => 0))), (q3, .inl (K 0, 0 * B + 61, .inl (fun _ => 0))), (q4, .inl (K 0, 0 * B + 61, .inl (fun _ => 0)))]) H := hP
  have hD : va_D A ([(h, .inr (2, [.ref q1, .ref q2, .ref q3, .ref q4, .null])), (q1, .inl (K 0, 0 * B + 61, .inl (fun _ => 0))), (q2, .inl (K 0, 0 * B + 61, .inl (fun _ => 0))), (q3, .inl (K 0, 0 * B + 61, .inl (fun _ => 0))), (q4, .inl (K 0, 0 * B + 61, .inl (fun _ => 0)))]) := hD
  refine lv_aload_n hx hb dX2_init_36 rfl (lv_at hl 0 rfl) ?_
  refine lv_sipush (v := 976) hx hb dX2_init_37 (by decide) ?_
  refine y_newi (t := 0) (N := 0 * B + 976) (ty := .int) C rfl (Or.inl ⟨rfl, rfl⟩) yv_10 hP hD hS hA (by decide) (y_l0 (by decide)) (by omega) (Nat.le_of_ble_eq_true rfl) (by show (_ : Nat) ≤ 1220; omega) dX2_init_40 (fun q5 H hP hD hS => ?_)
  have hP : va_P D vwCl ([(h, .inr (2, [.ref q1, .ref q2, .ref q3, .ref q4, .null])), (q1, .inl (K 0, 0 * B + 61, .inl (fun _ => 0))), (q2, .inl (K 0, 0 * B + 61, .inl (fun _ => 0))), (q3, .inl (K 0, 0 * B + 61, .inl (fun _ => 0))), (q4, .inl (K 0, 0 * B + 61, .inl (fun _ => 0))), (q5, .inl (K 0, 0 * B + 976, .inl (fun _ => 0)))]) H := hP
  have hD : va_D A ([(h, .inr (2, [.ref q1, .ref q2, .ref q3, .ref q4, .null])), (q1, .inl (K 0, 0 * B + 61, .inl (fun _ => 0))), (q2, .inl (K 0, 0 * B + 61, .inl (fun _ => 0))), (q3, .inl (K 0, 0 * B + 61, .inl (fun _ => 0))), (q4, .inl (K 0, 0 * B + 61, .inl (fun _ => 0))), (q5, .inl (K 0, 0 * B + 976, .inl (fun _ => 0)))]) := hD
  refine va_putF hx hb hts in_2 tyX2 tyX2_ok nmX2 hown hK hP hD hS 0 rfl (ci := 2) rfl 4 (by decide) (hts _ yv_15) (fun _ h => h) rfl hin rfl (ty := tyX2 4) (tyX2_ok 4 (by decide)) rfl rfl (Nat.le_of_ble_eq_true rfl) dX2_init_42 (fun H locs hP hD hS => ?_)
  have hP : va_P D vwCl ([(h, .inr (2, [.ref q1, .ref q2, .ref q3, .ref q4, .ref q5])), (q1, .inl (K 0, 0 * B + 61, .inl (fun _ => 0))), (q2, .inl (K 0, 0 * B + 61, .inl (fun _ => 0))), (q3, .inl (K 0, 0 * B + 61, .inl (fun _ => 0))), (q4, .inl (K 0, 0 * B + 61, .inl (fun _ => 0))), (q5, .inl (K 0, 0 * B + 976, .inl (fun _ => 0)))]) H := hP
  have hD : va_D A ([(h, .inr (2, [.ref q1, .ref q2, .ref q3, .ref q4, .ref q5])), (q1, .inl (K 0, 0 * B + 61, .inl (fun _ => 0))), (q2, .inl (K 0, 0 * B + 61, .inl (fun _ => 0))), (q3, .inl (K 0, 0 * B + 61, .inl (fun _ => 0))), (q4, .inl (K 0, 0 * B + 61, .inl (fun _ => 0))), (q5, .inl (K 0, 0 * B + 976, .inl (fun _ => 0)))]) := hD
  refine lv_aload_n hx hb dX2_init_45 rfl (lv_at hl 0 rfl) ?_
  refine va_get hx hb hts in_2 hown hK hP 0 rfl (ci := 2) rfl 0 (by decide) (hts _ yv_11) (fun _ h => h) rfl dX2_init_46 ?_
  refine lv_iconst (v := (-1)) hx hb dX2_init_49 (by decide) ?_
  refine y_callS (isC := [1]) (isR := [0, 2, 3, 4, 5]) (wr := [(h, .inr (2, [.ref q1, .ref q2, .ref q3, .ref q4, .ref q5])), (q2, .inl (K 0, 0 * B + 61, .inl (fun _ => 0))), (q3, .inl (K 0, 0 * B + 61, .inl (fun _ => 0))), (q4, .inl (K 0, 0 * B + 61, .inl (fun _ => 0))), (q5, .inl (K 0, 0 * B + 976, .inl (fun _ => 0)))]) (rest := []) (n_J7_fill (n := 0 * B + 61) (by omega)) C hP hD hS hA ⟨rfl, rfl, by decide, by decide, by decide⟩ ok_J7_fill_53178 yv_16 rfl hl.1 ⟨Nat.le_of_ble_eq_true rfl, Nat.le_of_ble_eq_true rfl⟩ (Nat.le_of_ble_eq_true rfl) dX2_init_50 (mc := 0) (ms := 0) ⟨rfl, rfl⟩ ⟨Nat.le_of_ble_eq_true rfl, by show (_ : Nat) ≤ 1220; omega⟩ rfl (fun _ H locs hP hD hS => ?_)
  have hP : va_P D vwCl ([(h, .inr (2, [.ref q1, .ref q2, .ref q3, .ref q4, .ref q5])), (q2, .inl (K 0, 0 * B + 61, .inl (fun _ => 0))), (q3, .inl (K 0, 0 * B + 61, .inl (fun _ => 0))), (q4, .inl (K 0, 0 * B + 61, .inl (fun _ => 0))), (q5, .inl (K 0, 0 * B + 976, .inl (fun _ => 0))), (q1, .inl (K 0, 0 * B + 61, .inl (fun j => if j < 0 * B + 61 then (-1) else 0)))]) H := hP
  have hD : va_D A ([(h, .inr (2, [.ref q1, .ref q2, .ref q3, .ref q4, .ref q5])), (q2, .inl (K 0, 0 * B + 61, .inl (fun _ => 0))), (q3, .inl (K 0, 0 * B + 61, .inl (fun _ => 0))), (q4, .inl (K 0, 0 * B + 61, .inl (fun _ => 0))), (q5, .inl (K 0, 0 * B + 976, .inl (fun _ => 0))), (q1, .inl (K 0, 0 * B + 61, .inl (fun j => if j < 0 * B + 61 then (-1) else 0)))]) := hD
  refine lv_aload_n hx hb dX2_init_53 rfl (lv_at hl 0 rfl) ?_
  refine va_get hx hb hts in_2 hown hK hP 0 rfl (ci := 2) rfl 0 (by decide) (hts _ yv_11) (fun _ h => h) rfl dX2_init_54 ?_
  refine lv_iconst (v := 1) hx hb dX2_init_57 (by decide) ?_
  refine lv_iconst (v := 0) hx hb dX2_init_58 (by decide) ?_
  refine va_iast hx hb hK hP hD hS 5 0 rfl rfl (y_in (k := 1) (by decide) (by decide) (by omega)) dX2_init_59 (fun H locs hP hD hS => ?_)
  have hP : va_P D vwCl ([(h, .inr (2, [.ref q1, .ref q2, .ref q3, .ref q4, .ref q5])), (q2, .inl (K 0, 0 * B + 61, .inl (fun _ => 0))), (q3, .inl (K 0, 0 * B + 61, .inl (fun _ => 0))), (q4, .inl (K 0, 0 * B + 61, .inl (fun _ => 0))), (q5, .inl (K 0, 0 * B + 976, .inl (fun _ => 0))), (q1, .inl (K 0, 0 * B + 61, .inl (upd (fun j => if j < 0 * B + 61 then (-1) else 0) (Int32.toNatClampNeg 1) 0)))]) H := hP
  have hD : va_D A ([(h, .inr (2, [.ref q1, .ref q2, .ref q3, .ref q4, .ref q5])), (q2, .inl (K 0, 0 * B + 61, .inl (fun _ => 0))), (q3, .inl (K 0, 0 * B + 61, .inl (fun _ => 0))), (q4, .inl (K 0, 0 * B + 61, .inl (fun _ => 0))), (q5, .inl (K 0, 0 * B + 976, .inl (fun _ => 0))), (q1, .inl (K 0, 0 * B + 61, .inl (upd (fun j => if j < 0 * B + 61 then (-1) else 0) (Int32.toNatClampNeg 1) 0)))]) := hD
  refine lv_aload_n hx hb dX2_init_60 rfl (lv_at hl 0 rfl) ?_
  refine va_get hx hb hts in_2 hown hK hP 0 rfl (ci := 2) rfl 1 (by decide) (hts _ yv_12) (fun _ h => h) rfl dX2_init_61 ?_
  refine lv_iconst (v := 1) hx hb dX2_init_64 (by decide) ?_
  refine lv_iconst (v := 1) hx hb dX2_init_65 (by decide) ?_
  refine va_iast hx hb hK hP hD hS 1 0 rfl rfl (y_in (k := 1) (by decide) (by decide) (by omega)) dX2_init_66 (fun H locs hP hD hS => ?_)
  have hP : va_P D vwCl ([(h, .inr (2, [.ref q1, .ref q2, .ref q3, .ref q4, .ref q5])), (q2, .inl (K 0, 0 * B + 61, .inl (upd (fun _ => 0) (Int32.toNatClampNeg 1) 1))), (q3, .inl (K 0, 0 * B + 61, .inl (fun _ => 0))), (q4, .inl (K 0, 0 * B + 61, .inl (fun _ => 0))), (q5, .inl (K 0, 0 * B + 976, .inl (fun _ => 0))), (q1, .inl (K 0, 0 * B + 61, .inl (upd (fun j => if j < 0 * B + 61 then (-1) else 0) (Int32.toNatClampNeg 1) 0)))]) H := hP
  have hD : va_D A ([(h, .inr (2, [.ref q1, .ref q2, .ref q3, .ref q4, .ref q5])), (q2, .inl (K 0, 0 * B + 61, .inl (upd (fun _ => 0) (Int32.toNatClampNeg 1) 1))), (q3, .inl (K 0, 0 * B + 61, .inl (fun _ => 0))), (q4, .inl (K 0, 0 * B + 61, .inl (fun _ => 0))), (q5, .inl (K 0, 0 * B + 976, .inl (fun _ => 0))), (q1, .inl (K 0, 0 * B + 61, .inl (upd (fun j => if j < 0 * B + 61 then (-1) else 0) (Int32.toNatClampNeg 1) 0)))]) := hD
  refine lv_aload_n hx hb dX2_init_67 rfl (lv_at hl 0 rfl) ?_
  refine va_get hx hb hts in_2 hown hK hP 0 rfl (ci := 2) rfl 3 (by decide) (hts _ yv_14) (fun _ h => h) rfl dX2_init_68 ?_
  refine lv_iconst (v := 1) hx hb dX2_init_71 (by decide) ?_
  refine lv_iconst (v := (-1)) hx hb dX2_init_72 (by decide) ?_
  refine va_iast hx hb hK hP hD hS 3 0 rfl rfl (y_in (k := 1) (by decide) (by decide) (by omega)) dX2_init_73 (fun H locs hP hD hS => ?_)
  have hP : va_P D vwCl ([(h, .inr (2, [.ref q1, .ref q2, .ref q3, .ref q4, .ref q5])), (q2, .inl (K 0, 0 * B + 61, .inl (upd (fun _ => 0) (Int32.toNatClampNeg 1) 1))), (q3, .inl (K 0, 0 * B + 61, .inl (fun _ => 0))), (q4, .inl (K 0, 0 * B + 61, .inl (upd (fun _ => 0) (Int32.toNatClampNeg 1) (-1)))), (q5, .inl (K 0, 0 * B + 976, .inl (fun _ => 0))), (q1, .inl (K 0, 0 * B + 61, .inl (upd (fun j => if j < 0 * B + 61 then (-1) else 0) (Int32.toNatClampNeg 1) 0)))]) H := hP
  have hD : va_D A ([(h, .inr (2, [.ref q1, .ref q2, .ref q3, .ref q4, .ref q5])), (q2, .inl (K 0, 0 * B + 61, .inl (upd (fun _ => 0) (Int32.toNatClampNeg 1) 1))), (q3, .inl (K 0, 0 * B + 61, .inl (fun _ => 0))), (q4, .inl (K 0, 0 * B + 61, .inl (upd (fun _ => 0) (Int32.toNatClampNeg 1) (-1)))), (q5, .inl (K 0, 0 * B + 976, .inl (fun _ => 0))), (q1, .inl (K 0, 0 * B + 61, .inl (upd (fun j => if j < 0 * B + 61 then (-1) else 0) (Int32.toNatClampNeg 1) 0)))]) := hD
  have hP : va_P D vwCl (y_obj K B h (fun k => [h, q1, q2, q3, q4, q5].getD k 0) (y_G B)) H := y_sub hP [0, 5, 1, 2, 3, 4] rfl
  have hD : va_D A (y_obj K B h (fun k => [h, q1, q2, q3, q4, q5].getD k 0) (y_G B)) := hD.sub [0, 5, 1, 2, 3, 4] (by decide) rfl
  refine W.widen (k := 5) (n := 1220) (Nat.le_of_ble_eq_true rfl) (by show (_ : Nat) ≤ 1220; omega) ?_
  exact W.vret hx hb hr (fun t ht _ => ⟨⟨rfl, fun k => [h, q1, q2, q3, q4, q5].getD k 0, by rw [ht]; exact hP, hD⟩, hS.F ht⟩) hS.2.2 dX2_init_74
def I_X1_init : z_I := (yX1_init, cX1_init, 3, none)
theorem oi_X1_init : y_okI I_X1_init 2 := ⟨⟨z_Gin (List.mem_of_getElem? (i := 255) (by decide +kernel)) rfl, z_Gin (List.mem_of_getElem? (i := 96) (by decide +kernel)) rfl, z_Gin (List.mem_of_getElem? (i := 256) (by decide +kernel)) rfl⟩, rfl, rfl, by decide, by decide, by decide +kernel⟩
set_option maxRecDepth 100000 in
set_option maxHeartbeats 4000000 in
theorem n_X1_init {l : Launch} {D : va_G} {K : Nat → ClassId} {B h : Nat} {r : Int32} (hB : 16 ≤ B ∧ B ≤ 96) : y_Met l I_X1_init { frames := 1, locals := 40, cells := 1, slots := 96 } D K [.ref h, .int r, .int (nI B)] ([(h, .inr (1, [.int 0, .null, .int 0, .int 0]))]) none (fun u => [(h, .inr (1, [.int r, .ref (u 1), .int 0, .int 0])), (u 1, .inl (K 2, 1 * B + 0, .inl (fun _ => 0)))]) := by
  refine y_enter (by decide) (Nat.le_of_ble_eq_true rfl) ?_
  intro p e s m args below meth c ls A C hl hP hD hS hA
  obtain ⟨hx, hb, hr, hml, hown, hts, hlocks, hK, hnest, hin⟩ := id C
  have hb : c.code = cX1_init := hb
  have hown : s.vm.findClass RX1 = some m.cls := hown
  have hl : lv_has ls 3 [(0, .ref h), (1, .int r), (2, .int (nI B))] := hl
  refine lv_aload_n hx hb dX1_init_0 rfl (lv_at hl 0 rfl) ?_
  refine W.objInit hx hb hown (hts _ yv_17) (hts _ yv_8) (hts _ yv_9) rfl (hl.1.trans hml.symm) rfl dX1_init_1 (Nat.le_of_ble_eq_true rfl) (Nat.le_of_ble_eq_true rfl) ?_
  refine W.eq (g2 := F0 m 4 ls []) rfl ?_
  refine lv_aload_n hx hb dX1_init_4 rfl (lv_at hl 0 rfl) ?_
  refine lv_iload_n hx hb dX1_init_5 rfl (lv_at hl 1 rfl) ?_
  refine va_putF hx hb hts in_1 tyX1 tyX1_ok nmX1 hown hK hP hD hS 0 rfl (ci := 1) rfl 0 (by decide) (hts _ yv_18) (fun _ h => h) rfl hin rfl (ty := tyX1 0) (tyX1_ok 0 (by decide)) rfl rfl (Nat.le_of_ble_eq_true rfl) dX1_init_6 (fun H locs hP hD hS => ?_)
  have hP : va_P D vwCl ([(h, .inr (1, [.int r, .null, .int 0, .int 0]))]) H := hP
  have hD : va_D A ([(h, .inr (1, [.int r, .null, .int 0, .int 0]))]) := hD
  refine lv_aload_n hx hb dX1_init_9 rfl (lv_at hl 0 rfl) ?_
  refine lv_iload_n hx hb dX1_init_10 rfl (lv_at hl 2 rfl) ?_
  refine y_newi (t := 2) (N := 1 * B + 0) (ty := .boolean) C rfl (Or.inr (Or.inr ⟨rfl, rfl⟩)) yv_19 hP hD hS hA (y_n1 hB.2) (y_l1 hB.2) (by omega) (Nat.le_of_ble_eq_true rfl) (by show (_ : Nat) ≤ 96; omega) dX1_init_11 (fun q1 H hP hD hS => ?_)
  have hP : va_P D vwCl ([(h, .inr (1, [.int r, .null, .int 0, .int 0])), (q1, .inl (K 2, 1 * B + 0, .inl (fun _ => 0)))]) H := hP
  have hD : va_D A ([(h, .inr (1, [.int r, .null, .int 0, .int 0])), (q1, .inl (K 2, 1 * B + 0, .inl (fun _ => 0)))]) := hD
  refine va_putF hx hb hts in_1 tyX1 tyX1_ok nmX1 hown hK hP hD hS 0 rfl (ci := 1) rfl 1 (by decide) (hts _ yv_20) (fun _ h => h) rfl hin rfl (ty := tyX1 1) (tyX1_ok 1 (by decide)) rfl rfl (Nat.le_of_ble_eq_true rfl) dX1_init_13 (fun H locs hP hD hS => ?_)
  have hP : va_P D vwCl ([(h, .inr (1, [.int r, .ref q1, .int 0, .int 0])), (q1, .inl (K 2, 1 * B + 0, .inl (fun _ => 0)))]) H := hP
  have hD : va_D A ([(h, .inr (1, [.int r, .ref q1, .int 0, .int 0])), (q1, .inl (K 2, 1 * B + 0, .inl (fun _ => 0)))]) := hD
  refine W.widen (k := 1) (n := 96) (Nat.le_of_ble_eq_true rfl) (by show (_ : Nat) ≤ 96; omega) ?_
  exact W.vret hx hb hr (fun t ht _ => ⟨⟨rfl, fun _ => q1, by rw [ht]; exact hP, hD⟩, hS.F ht⟩) hS.2.2 dX1_init_16
def I_X3_init : z_I := (yX3_init, cX3_init, 1, none)
theorem oi_X3_init : y_okI I_X3_init 0 := ⟨⟨z_Gin (List.mem_of_getElem? (i := 278) (by decide +kernel)) rfl, z_Gin (List.mem_of_getElem? (i := 97) (by decide +kernel)) rfl, z_Gin (List.mem_of_getElem? (i := 279) (by decide +kernel)) rfl⟩, rfl, rfl, by decide, by decide, by decide +kernel⟩
set_option maxRecDepth 100000 in
set_option maxHeartbeats 4000000 in
theorem n_X3_init {l : Launch} {D : va_G} {K : Nat → ClassId} {B h : Nat} (hB : 16 ≤ B ∧ B ≤ 96) : y_Met l I_X3_init { frames := 1, locals := 40, cells := 0, slots := 0 } D K [.ref h] ([(h, .inr (3, [.int 0, .int 0, .int 0]))]) none (fun u => [(h, .inr (3, [.int 0, .int (-1), .int 0]))]) := by
  refine y_enter (by decide) (Nat.le_of_ble_eq_true rfl) ?_
  intro p e s m args below meth c ls A C hl hP hD hS hA
  obtain ⟨hx, hb, hr, hml, hown, hts, hlocks, hK, hnest, hin⟩ := id C
  have hb : c.code = cX3_init := hb
  have hown : s.vm.findClass RX3 = some m.cls := hown
  have hl : lv_has ls 1 [(0, .ref h)] := hl
  refine lv_aload_n hx hb dX3_init_0 rfl (lv_at hl 0 rfl) ?_
  refine W.objInit hx hb hown (hts _ yv_21) (hts _ yv_8) (hts _ yv_9) rfl (hl.1.trans hml.symm) rfl dX3_init_1 (Nat.le_of_ble_eq_true rfl) (Nat.le_of_ble_eq_true rfl) ?_
  refine W.eq (g2 := F0 m 4 ls []) rfl ?_
  refine lv_aload_n hx hb dX3_init_4 rfl (lv_at hl 0 rfl) ?_
  refine lv_iconst (v := 0) hx hb dX3_init_5 (by decide) ?_
  refine va_put hx hb hts in_3 tyX3 tyX3_ok nmX3 hown hK hP hD hS 0 rfl (ci := 3) rfl 0 (by decide) (hts _ yv_22) (fun _ h => h) rfl (ty := tyX3 0) (tyX3_ok 0 (by decide)) rfl rfl (Nat.le_of_ble_eq_true rfl) dX3_init_6 (fun H locs hP hD hS => ?_)
  have hP : va_P D vwCl ([(h, .inr (3, [.int 0, .int 0, .int 0]))]) H := hP
  have hD : va_D A ([(h, .inr (3, [.int 0, .int 0, .int 0]))]) := hD
  refine lv_aload_n hx hb dX3_init_9 rfl (lv_at hl 0 rfl) ?_
  refine lv_iconst (v := (-1)) hx hb dX3_init_10 (by decide) ?_
  refine va_put hx hb hts in_3 tyX3 tyX3_ok nmX3 hown hK hP hD hS 0 rfl (ci := 3) rfl 1 (by decide) (hts _ yv_23) (fun _ h => h) rfl (ty := tyX3 1) (tyX3_ok 1 (by decide)) rfl rfl (Nat.le_of_ble_eq_true rfl) dX3_init_11 (fun H locs hP hD hS => ?_)
  have hP : va_P D vwCl ([(h, .inr (3, [.int 0, .int (-1), .int 0]))]) H := hP
  have hD : va_D A ([(h, .inr (3, [.int 0, .int (-1), .int 0]))]) := hD
  refine lv_aload_n hx hb dX3_init_14 rfl (lv_at hl 0 rfl) ?_
  refine lv_iconst (v := 0) hx hb dX3_init_15 (by decide) ?_
  refine va_put hx hb hts in_3 tyX3 tyX3_ok nmX3 hown hK hP hD hS 0 rfl (ci := 3) rfl 2 (by decide) (hts _ yv_24) (fun _ h => h) rfl (ty := tyX3 2) (tyX3_ok 2 (by decide)) rfl rfl (Nat.le_of_ble_eq_true rfl) dX3_init_16 (fun H locs hP hD hS => ?_)
  have hP : va_P D vwCl ([(h, .inr (3, [.int 0, .int (-1), .int 0]))]) H := hP
  have hD : va_D A ([(h, .inr (3, [.int 0, .int (-1), .int 0]))]) := hD
  refine W.widen (k := 0) (n := 0) (Nat.le_of_ble_eq_true rfl) (by show (_ : Nat) ≤ 0; omega) ?_
  exact W.vret hx hb hr (fun t ht _ => ⟨⟨rfl, fun _ => 0, by rw [ht]; exact hP, hD⟩, hS.F ht⟩) hS.2.2 dX3_init_19
abbrev y_img (K : Nat → ClassId) (B h : Nat) (u : Nat → Nat) : va_W := (h, .inr (0, [.ref (u 1), .ref (u 13), .ref (u 19), .ref (u 20)])) :: (y_tree K B (u 1) (fun k => u (k + 1)) y_F2 1 ++ (y_obj K B (u 13) (fun k => u (k + 13)) (y_G B) ++ [(u 19, .inl (K 1, 128 * B + 0, .inl (fun _ => 0))), (u 20, .inl (K 1, 0 * B + 2440, .inl (fun _ => 0)))]))
def I_X0_init : z_I := (yX0_init, cX0_init, 2, none)
theorem oi_X0_init : y_okI I_X0_init 1 := ⟨⟨z_Gin (List.mem_of_getElem? (i := 126) (by decide +kernel)) rfl, z_Gin (List.mem_of_getElem? (i := 91) (by decide +kernel)) rfl, z_Gin (List.mem_of_getElem? (i := 127) (by decide +kernel)) rfl⟩, rfl, rfl, by decide, by decide, by decide +kernel⟩
set_option maxRecDepth 100000 in
set_option maxHeartbeats 4000000 in
theorem n_X0_init {l : Launch} {D : va_G} {K : Nat → ClassId} {B h : Nat} (hB : 16 ≤ B ∧ B ≤ 96) : y_Met l I_X0_init { frames := 3, locals := 200, cells := 20, slots := 21246 } D K [.ref h, .int (nI B)] ([(h, .inr (0, [.null, .null, .null, .null]))]) none (fun u => y_img K B h u) := by
  refine y_enter (by decide) (Nat.le_of_ble_eq_true rfl) ?_
  intro p e s m args below meth c ls A C hl hP hD hS hA
  obtain ⟨hx, hb, hr, hml, hown, hts, hlocks, hK, hnest, hin⟩ := id C
  have hb : c.code = cX0_init := hb
  have hown : s.vm.findClass RX0 = some m.cls := hown
  have hl : lv_has ls 2 [(0, .ref h), (1, .int (nI B))] := hl
  refine lv_aload_n hx hb dX0_init_0 rfl (lv_at hl 0 rfl) ?_
  refine W.objInit hx hb hown (hts _ yv_25) (hts _ yv_8) (hts _ yv_9) rfl (hl.1.trans hml.symm) rfl dX0_init_1 (Nat.le_of_ble_eq_true rfl) (Nat.le_of_ble_eq_true rfl) ?_
  refine W.eq (g2 := F0 m 4 ls []) rfl ?_
  refine lv_aload_n hx hb dX0_init_4 rfl (lv_at hl 0 rfl) ?_
  refine va_new (ci := 4) (fs := [.int 0, .null, .null, .null, .null, .null, .null, .null, .null, .null, .null, .null, .int 0]) (C := RX4) (T := TX4) (N := 13) hx hb hts in_4 tyX4 tyX4_ok hown (hts _ yv_26) (hts _ yv_27) (hts _ yv_28) hK hP hD hS hA rfl y_df4 (Nat.le_of_ble_eq_true rfl) (by show (_ : Nat) ≤ 21246; omega) dX0_init_5 (fun q1 H hP hD hS => ?_)
  have hP : va_P D vwCl ([(h, .inr (0, [.null, .null, .null, .null])), (q1, .inr (4, [.int 0, .null, .null, .null, .null, .null, .null, .null, .null, .null, .null, .null, .int 0]))]) H := hP
  have hD : va_D A ([(h, .inr (0, [.null, .null, .null, .null])), (q1, .inr (4, [.int 0, .null, .null, .null, .null, .null, .null, .null, .null, .null, .null, .null, .int 0]))]) := hD
  refine lv_dup hx hb dX0_init_8 rfl ?_
  refine lv_iload_n hx hb dX0_init_9 rfl (lv_at hl 1 rfl) ?_
  refine y_callI (isC := [1]) (isR := [0]) (wr := [(h, .inr (0, [.null, .null, .null, .null]))]) (rest := [.ref q1, .ref h]) (n_X4_init hB) C hP hD hS hA ⟨rfl, rfl, by decide, by decide, by decide⟩ oi_X4_init yv_29 rfl hl.1 ⟨Nat.le_of_ble_eq_true rfl, Nat.le_of_ble_eq_true rfl⟩ (Nat.le_of_ble_eq_true rfl) dX0_init_10 (mc := 11) (ms := 5280) ⟨rfl, rfl⟩ ⟨Nat.le_of_ble_eq_true rfl, by show (_ : Nat) ≤ 21246; omega⟩ rfl (fun u2 H locs hP hD hS => ?_)
  have hP : va_P D vwCl ([(h, .inr (0, [.null, .null, .null, .null]))] ++ y_tree K B q1 u2 y_F2 1) H := hP
  have hD : va_D A ([(h, .inr (0, [.null, .null, .null, .null]))] ++ y_tree K B q1 u2 y_F2 1) := hD
  refine va_putF hx hb hts in_0 tyX0 tyX0_ok nmX0 hown hK hP hD hS 0 rfl (ci := 0) rfl 0 (by decide) (hts _ yv_30) (fun _ h => h) rfl hin rfl (ty := tyX0 0) (tyX0_ok 0 (by decide)) rfl rfl (Nat.le_of_ble_eq_true rfl) dX0_init_13 (fun H locs hP hD hS => ?_)
  have hP : va_P D vwCl ([(h, .inr (0, [.ref q1, .null, .null, .null]))] ++ y_tree K B q1 u2 y_F2 1) H := hP
  have hD : va_D A ([(h, .inr (0, [.ref q1, .null, .null, .null]))] ++ y_tree K B q1 u2 y_F2 1) := hD
  refine lv_aload_n hx hb dX0_init_16 rfl (lv_at hl 0 rfl) ?_
  refine va_new (ci := 2) (fs := [.null, .null, .null, .null, .null]) (C := RX2) (T := TX2) (N := 5) hx hb hts in_2 tyX2 tyX2_ok hown (hts _ yv_31) (hts _ yv_32) (hts _ yv_33) hK hP hD hS hA rfl y_df2 (Nat.le_of_ble_eq_true rfl) (by show (_ : Nat) ≤ 21246; omega) dX0_init_17 (fun q3 H hP hD hS => ?_)
  have hP : va_P D vwCl ([(h, .inr (0, [.ref q1, .null, .null, .null]))] ++ y_tree K B q1 u2 y_F2 1 ++ [(q3, .inr (2, [.null, .null, .null, .null, .null]))]) H := hP
  have hD : va_D A ([(h, .inr (0, [.ref q1, .null, .null, .null]))] ++ y_tree K B q1 u2 y_F2 1 ++ [(q3, .inr (2, [.null, .null, .null, .null, .null]))]) := hD
  refine lv_dup hx hb dX0_init_20 rfl ?_
  refine y_callI (isC := [13]) (isR := [0, 1, 2, 3, 4, 5, 6, 7, 8, 9, 10, 11, 12]) (wr := [(h, .inr (0, [.ref q1, .null, .null, .null]))] ++ y_tree K B q1 u2 y_F2 1) (rest := [.ref q3, .ref h]) (n_X2_init hB) C hP hD hS hA ⟨rfl, rfl, by decide, by decide, by decide⟩ oi_X2_init yv_34 rfl hl.1 ⟨Nat.le_of_ble_eq_true rfl, Nat.le_of_ble_eq_true rfl⟩ (Nat.le_of_ble_eq_true rfl) dX0_init_21 (mc := 5) (ms := 1220) ⟨rfl, rfl⟩ ⟨Nat.le_of_ble_eq_true rfl, by show (_ : Nat) ≤ 21246; omega⟩ rfl (fun u4 H locs hP hD hS => ?_)
  have hP : va_P D vwCl ([(h, .inr (0, [.ref q1, .null, .null, .null]))] ++ y_tree K B q1 u2 y_F2 1 ++ y_obj K B q3 u4 (y_G B)) H := hP
  have hD : va_D A ([(h, .inr (0, [.ref q1, .null, .null, .null]))] ++ y_tree K B q1 u2 y_F2 1 ++ y_obj K B q3 u4 (y_G B)) := hD
  refine va_putF hx hb hts in_0 tyX0 tyX0_ok nmX0 hown hK hP hD hS 0 rfl (ci := 0) rfl 1 (by decide) (hts _ yv_35) (fun _ h => h) rfl hin rfl (ty := tyX0 1) (tyX0_ok 1 (by decide)) rfl rfl (Nat.le_of_ble_eq_true rfl) dX0_init_24 (fun H locs hP hD hS => ?_)
  have hP : va_P D vwCl ([(h, .inr (0, [.ref q1, .ref q3, .null, .null]))] ++ y_tree K B q1 u2 y_F2 1 ++ y_obj K B q3 u4 (y_G B)) H := hP
  have hD : va_D A ([(h, .inr (0, [.ref q1, .ref q3, .null, .null]))] ++ y_tree K B q1 u2 y_F2 1 ++ y_obj K B q3 u4 (y_G B)) := hD
  refine lv_aload_n hx hb dX0_init_27 rfl (lv_at hl 0 rfl) ?_
  refine lv_iload_n hx hb dX0_init_28 rfl (lv_at hl 1 rfl) ?_
  refine lv_sipush (v := 128) hx hb dX0_init_29 (by decide) ?_
  refine lv_imul hx hb dX0_init_32 ?_
  refine y_newi (t := 1) (N := 128 * B + 0) (ty := .byte) C rfl (Or.inr (Or.inl ⟨rfl, rfl⟩)) yv_36 hP hD hS hA (y_nk (k := 128) hB.2 (by decide) (by decide)) (y_lk (k := 128) hB.2 (by decide) (by decide)) (by omega) (Nat.le_of_ble_eq_true rfl) (by show (_ : Nat) ≤ 21246; omega) dX0_init_33 (fun q5 H hP hD hS => ?_)
  have hP : va_P D vwCl ([(h, .inr (0, [.ref q1, .ref q3, .null, .null]))] ++ y_tree K B q1 u2 y_F2 1 ++ y_obj K B q3 u4 (y_G B) ++ [(q5, .inl (K 1, 128 * B + 0, .inl (fun _ => 0)))]) H := hP
  have hD : va_D A ([(h, .inr (0, [.ref q1, .ref q3, .null, .null]))] ++ y_tree K B q1 u2 y_F2 1 ++ y_obj K B q3 u4 (y_G B) ++ [(q5, .inl (K 1, 128 * B + 0, .inl (fun _ => 0)))]) := hD
  refine va_putF hx hb hts in_0 tyX0 tyX0_ok nmX0 hown hK hP hD hS 0 rfl (ci := 0) rfl 2 (by decide) (hts _ yv_37) (fun _ h => h) rfl hin rfl (ty := tyX0 2) (tyX0_ok 2 (by decide)) rfl rfl (Nat.le_of_ble_eq_true rfl) dX0_init_35 (fun H locs hP hD hS => ?_)
  have hP : va_P D vwCl ([(h, .inr (0, [.ref q1, .ref q3, .ref q5, .null]))] ++ y_tree K B q1 u2 y_F2 1 ++ y_obj K B q3 u4 (y_G B) ++ [(q5, .inl (K 1, 128 * B + 0, .inl (fun _ => 0)))]) H := hP
  have hD : va_D A ([(h, .inr (0, [.ref q1, .ref q3, .ref q5, .null]))] ++ y_tree K B q1 u2 y_F2 1 ++ y_obj K B q3 u4 (y_G B) ++ [(q5, .inl (K 1, 128 * B + 0, .inl (fun _ => 0)))]) := hD
  refine lv_aload_n hx hb dX0_init_38 rfl (lv_at hl 0 rfl) ?_
  refine lv_sipush (v := 2440) hx hb dX0_init_39 (by decide) ?_
  refine y_newi (t := 1) (N := 0 * B + 2440) (ty := .byte) C rfl (Or.inr (Or.inl ⟨rfl, rfl⟩)) yv_36 hP hD hS hA (by decide) (y_l0 (by decide)) (by omega) (Nat.le_of_ble_eq_true rfl) (by show (_ : Nat) ≤ 21246; omega) dX0_init_42 (fun q6 H hP hD hS => ?_)
  have hP : va_P D vwCl ([(h, .inr (0, [.ref q1, .ref q3, .ref q5, .null]))] ++ y_tree K B q1 u2 y_F2 1 ++ y_obj K B q3 u4 (y_G B) ++ [(q5, .inl (K 1, 128 * B + 0, .inl (fun _ => 0))), (q6, .inl (K 1, 0 * B + 2440, .inl (fun _ => 0)))]) H := hP
  have hD : va_D A ([(h, .inr (0, [.ref q1, .ref q3, .ref q5, .null]))] ++ y_tree K B q1 u2 y_F2 1 ++ y_obj K B q3 u4 (y_G B) ++ [(q5, .inl (K 1, 128 * B + 0, .inl (fun _ => 0))), (q6, .inl (K 1, 0 * B + 2440, .inl (fun _ => 0)))]) := hD
  refine va_putF hx hb hts in_0 tyX0 tyX0_ok nmX0 hown hK hP hD hS 0 rfl (ci := 0) rfl 3 (by decide) (hts _ yv_38) (fun _ h => h) rfl hin rfl (ty := tyX0 3) (tyX0_ok 3 (by decide)) rfl rfl (Nat.le_of_ble_eq_true rfl) dX0_init_44 (fun H locs hP hD hS => ?_)
  have hP : va_P D vwCl ([(h, .inr (0, [.ref q1, .ref q3, .ref q5, .ref q6]))] ++ y_tree K B q1 u2 y_F2 1 ++ y_obj K B q3 u4 (y_G B) ++ [(q5, .inl (K 1, 128 * B + 0, .inl (fun _ => 0))), (q6, .inl (K 1, 0 * B + 2440, .inl (fun _ => 0)))]) H := hP
  have hD : va_D A ([(h, .inr (0, [.ref q1, .ref q3, .ref q5, .ref q6]))] ++ y_tree K B q1 u2 y_F2 1 ++ y_obj K B q3 u4 (y_G B) ++ [(q5, .inl (K 1, 128 * B + 0, .inl (fun _ => 0))), (q6, .inl (K 1, 0 * B + 2440, .inl (fun _ => 0)))]) := hD
  refine W.widen (k := 20) (n := 21246) (Nat.le_of_ble_eq_true rfl) (by show (_ : Nat) ≤ 21246; omega) ?_
  exact W.vret hx hb hr (fun t ht _ => ⟨⟨rfl, fun k => [h, q1, u2 1, u2 2, u2 3, u2 4, u2 5, u2 6, u2 7, u2 8, u2 9, u2 10, u2 11, q3, u4 1, u4 2, u4 3, u4 4, u4 5, q5, q6].getD k 0, by rw [ht]; exact hP, hD⟩, hS.F ht⟩) hS.2.2 dX0_init_47
