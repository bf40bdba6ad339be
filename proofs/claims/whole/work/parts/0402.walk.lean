noncomputable def fJ6_bitCount_0f7a4 (p0 : Int32) (w : Wd) : Option (Int32 × Wd) :=
  some (((((((((p0 - ((usr p0 (1 : Int32)) &&& (1431655765 : Int32))) &&& (858993459 : Int32)) + ((usr (p0 - ((usr p0 (1 : Int32)) &&& (1431655765 : Int32))) (2 : Int32)) &&& (858993459 : Int32))) + (usr (((p0 - ((usr p0 (1 : Int32)) &&& (1431655765 : Int32))) &&& (858993459 : Int32)) + ((usr (p0 - ((usr p0 (1 : Int32)) &&& (1431655765 : Int32))) (2 : Int32)) &&& (858993459 : Int32))) (4 : Int32))) &&& (252645135 : Int32)) + (usr (((((p0 - ((usr p0 (1 : Int32)) &&& (1431655765 : Int32))) &&& (858993459 : Int32)) + ((usr (p0 - ((usr p0 (1 : Int32)) &&& (1431655765 : Int32))) (2 : Int32)) &&& (858993459 : Int32))) + (usr (((p0 - ((usr p0 (1 : Int32)) &&& (1431655765 : Int32))) &&& (858993459 : Int32)) + ((usr (p0 - ((usr p0 (1 : Int32)) &&& (1431655765 : Int32))) (2 : Int32)) &&& (858993459 : Int32))) (4 : Int32))) &&& (252645135 : Int32)) (8 : Int32))) + (usr ((((((p0 - ((usr p0 (1 : Int32)) &&& (1431655765 : Int32))) &&& (858993459 : Int32)) + ((usr (p0 - ((usr p0 (1 : Int32)) &&& (1431655765 : Int32))) (2 : Int32)) &&& (858993459 : Int32))) + (usr (((p0 - ((usr p0 (1 : Int32)) &&& (1431655765 : Int32))) &&& (858993459 : Int32)) + ((usr (p0 - ((usr p0 (1 : Int32)) &&& (1431655765 : Int32))) (2 : Int32)) &&& (858993459 : Int32))) (4 : Int32))) &&& (252645135 : Int32)) + (usr (((((p0 - ((usr p0 (1 : Int32)) &&& (1431655765 : Int32))) &&& (858993459 : Int32)) + ((usr (p0 - ((usr p0 (1 : Int32)) &&& (1431655765 : Int32))) (2 : Int32)) &&& (858993459 : Int32))) + (usr (((p0 - ((usr p0 (1 : Int32)) &&& (1431655765 : Int32))) &&& (858993459 : Int32)) + ((usr (p0 - ((usr p0 (1 : Int32)) &&& (1431655765 : Int32))) (2 : Int32)) &&& (858993459 : Int32))) (4 : Int32))) &&& (252645135 : Int32)) (8 : Int32))) (16 : Int32))) &&& (63 : Int32)), w)
abbrev rmJ6_bitCount_0f7a4 : Room := { frames := 0, cells := 0, slots := 0, locals := 0 }
set_option maxHeartbeats 4000000 in
set_option maxRecDepth 100000 in
theorem kJ6_bitCount_0f7a4 (l : Launch) (E : Ev) (p0 : Int32) (w : Wd) (q : Int32 × Wd) (h : fJ6_bitCount_0f7a4 p0 w = some q) : CtI l yJ6_bitCount_0f7a4 wsJ6_bitCount_0f7a4 rmJ6_bitCount_0f7a4 E full [.int p0] w q := by
  refine mkI (cc := cJ6_bitCount_0f7a4) (maxL := 1) (by decide) rfl (Nat.le_of_ble_eq_true rfl) ?_
  intro p e s m args below meth c Q S hW hQ ls hl
  obtain ⟨hx, hb, hml, hown, hts⟩ := id S
  have hW0 := hW
  have hS : va_S (wA E full) s.heap s.heap [] := va_S.rf
  have hl : lv_has ls 1 [(0, .int p0)] := hl
  unfold fJ6_bitCount_0f7a4 at h
  refine lv_iload_n hx hb dJ6_bitCount_0f7a4_0 rfl (lv_at hl 0 rfl) ?_
  refine lv_iload_n hx hb dJ6_bitCount_0f7a4_1 rfl (lv_at hl 0 rfl) ?_
  refine lv_iconst (v := (1 : Int32)) hx hb dJ6_bitCount_0f7a4_2 (by decide) ?_
  refine lv_iushr (v := (usr p0 (1 : Int32))) hx hb dJ6_bitCount_0f7a4_3 rfl ?_
  refine lv_ldcw (own := RJ6) (v := (1431655765 : Int32)) hx hb hown (hts _ (by decide +kernel)) dJ6_bitCount_0f7a4_4 ?_
  refine lv_iand hx hb dJ6_bitCount_0f7a4_7 ?_
  refine lv_isub hx hb dJ6_bitCount_0f7a4_8 ?_
  refine lv_istore_n (lv' := [(0, .int (p0 - ((usr p0 (1 : Int32)) &&& (1431655765 : Int32))))]) hx hb dJ6_bitCount_0f7a4_9 rfl hl (by decide) rfl (fun ls hl => ?_)
  refine lv_iload_n hx hb dJ6_bitCount_0f7a4_10 rfl (lv_at hl 0 rfl) ?_
  refine lv_ldcw (own := RJ6) (v := (858993459 : Int32)) hx hb hown (hts _ (by decide +kernel)) dJ6_bitCount_0f7a4_11 ?_
  refine lv_iand hx hb dJ6_bitCount_0f7a4_14 ?_
  refine lv_iload_n hx hb dJ6_bitCount_0f7a4_15 rfl (lv_at hl 0 rfl) ?_
  refine lv_iconst (v := (2 : Int32)) hx hb dJ6_bitCount_0f7a4_16 (by decide) ?_
  refine lv_iushr (v := (usr (p0 - ((usr p0 (1 : Int32)) &&& (1431655765 : Int32))) (2 : Int32))) hx hb dJ6_bitCount_0f7a4_17 rfl ?_
  refine lv_ldcw (own := RJ6) (v := (858993459 : Int32)) hx hb hown (hts _ (by decide +kernel)) dJ6_bitCount_0f7a4_18 ?_
  refine lv_iand hx hb dJ6_bitCount_0f7a4_21 ?_
  refine lv_iadd hx hb dJ6_bitCount_0f7a4_22 ?_
  refine lv_istore_n (lv' := [(0, .int (((p0 - ((usr p0 (1 : Int32)) &&& (1431655765 : Int32))) &&& (858993459 : Int32)) + ((usr (p0 - ((usr p0 (1 : Int32)) &&& (1431655765 : Int32))) (2 : Int32)) &&& (858993459 : Int32))))]) hx hb dJ6_bitCount_0f7a4_23 rfl hl (by decide) rfl (fun ls hl => ?_)
  refine lv_iload_n hx hb dJ6_bitCount_0f7a4_24 rfl (lv_at hl 0 rfl) ?_
  refine lv_iload_n hx hb dJ6_bitCount_0f7a4_25 rfl (lv_at hl 0 rfl) ?_
  refine lv_iconst (v := (4 : Int32)) hx hb dJ6_bitCount_0f7a4_26 (by decide) ?_
  refine lv_iushr (v := (usr (((p0 - ((usr p0 (1 : Int32)) &&& (1431655765 : Int32))) &&& (858993459 : Int32)) + ((usr (p0 - ((usr p0 (1 : Int32)) &&& (1431655765 : Int32))) (2 : Int32)) &&& (858993459 : Int32))) (4 : Int32))) hx hb dJ6_bitCount_0f7a4_27 rfl ?_
  refine lv_iadd hx hb dJ6_bitCount_0f7a4_28 ?_
  refine lv_ldcw (own := RJ6) (v := (252645135 : Int32)) hx hb hown (hts _ (by decide +kernel)) dJ6_bitCount_0f7a4_29 ?_
  refine lv_iand hx hb dJ6_bitCount_0f7a4_32 ?_
  refine lv_istore_n (lv' := [(0, .int (((((p0 - ((usr p0 (1 : Int32)) &&& (1431655765 : Int32))) &&& (858993459 : Int32)) + ((usr (p0 - ((usr p0 (1 : Int32)) &&& (1431655765 : Int32))) (2 : Int32)) &&& (858993459 : Int32))) + (usr (((p0 - ((usr p0 (1 : Int32)) &&& (1431655765 : Int32))) &&& (858993459 : Int32)) + ((usr (p0 - ((usr p0 (1 : Int32)) &&& (1431655765 : Int32))) (2 : Int32)) &&& (858993459 : Int32))) (4 : Int32))) &&& (252645135 : Int32)))]) hx hb dJ6_bitCount_0f7a4_33 rfl hl (by decide) rfl (fun ls hl => ?_)
  refine lv_iload_n hx hb dJ6_bitCount_0f7a4_34 rfl (lv_at hl 0 rfl) ?_
  refine lv_iload_n hx hb dJ6_bitCount_0f7a4_35 rfl (lv_at hl 0 rfl) ?_
  refine lv_bipush (v := (8 : Int32)) hx hb dJ6_bitCount_0f7a4_36 (by decide) ?_
  refine lv_iushr (v := (usr (((((p0 - ((usr p0 (1 : Int32)) &&& (1431655765 : Int32))) &&& (858993459 : Int32)) + ((usr (p0 - ((usr p0 (1 : Int32)) &&& (1431655765 : Int32))) (2 : Int32)) &&& (858993459 : Int32))) + (usr (((p0 - ((usr p0 (1 : Int32)) &&& (1431655765 : Int32))) &&& (858993459 : Int32)) + ((usr (p0 - ((usr p0 (1 : Int32)) &&& (1431655765 : Int32))) (2 : Int32)) &&& (858993459 : Int32))) (4 : Int32))) &&& (252645135 : Int32)) (8 : Int32))) hx hb dJ6_bitCount_0f7a4_38 rfl ?_
  refine lv_iadd hx hb dJ6_bitCount_0f7a4_39 ?_
  refine lv_istore_n (lv' := [(0, .int ((((((p0 - ((usr p0 (1 : Int32)) &&& (1431655765 : Int32))) &&& (858993459 : Int32)) + ((usr (p0 - ((usr p0 (1 : Int32)) &&& (1431655765 : Int32))) (2 : Int32)) &&& (858993459 : Int32))) + (usr (((p0 - ((usr p0 (1 : Int32)) &&& (1431655765 : Int32))) &&& (858993459 : Int32)) + ((usr (p0 - ((usr p0 (1 : Int32)) &&& (1431655765 : Int32))) (2 : Int32)) &&& (858993459 : Int32))) (4 : Int32))) &&& (252645135 : Int32)) + (usr (((((p0 - ((usr p0 (1 : Int32)) &&& (1431655765 : Int32))) &&& (858993459 : Int32)) + ((usr (p0 - ((usr p0 (1 : Int32)) &&& (1431655765 : Int32))) (2 : Int32)) &&& (858993459 : Int32))) + (usr (((p0 - ((usr p0 (1 : Int32)) &&& (1431655765 : Int32))) &&& (858993459 : Int32)) + ((usr (p0 - ((usr p0 (1 : Int32)) &&& (1431655765 : Int32))) (2 : Int32)) &&& (858993459 : Int32))) (4 : Int32))) &&& (252645135 : Int32)) (8 : Int32))))]) hx hb dJ6_bitCount_0f7a4_40 rfl hl (by decide) rfl (fun ls hl => ?_)
  refine lv_iload_n hx hb dJ6_bitCount_0f7a4_41 rfl (lv_at hl 0 rfl) ?_
  refine lv_iload_n hx hb dJ6_bitCount_0f7a4_42 rfl (lv_at hl 0 rfl) ?_
  refine lv_bipush (v := (16 : Int32)) hx hb dJ6_bitCount_0f7a4_43 (by decide) ?_
  refine lv_iushr (v := (usr ((((((p0 - ((usr p0 (1 : Int32)) &&& (1431655765 : Int32))) &&& (858993459 : Int32)) + ((usr (p0 - ((usr p0 (1 : Int32)) &&& (1431655765 : Int32))) (2 : Int32)) &&& (858993459 : Int32))) + (usr (((p0 - ((usr p0 (1 : Int32)) &&& (1431655765 : Int32))) &&& (858993459 : Int32)) + ((usr (p0 - ((usr p0 (1 : Int32)) &&& (1431655765 : Int32))) (2 : Int32)) &&& (858993459 : Int32))) (4 : Int32))) &&& (252645135 : Int32)) + (usr (((((p0 - ((usr p0 (1 : Int32)) &&& (1431655765 : Int32))) &&& (858993459 : Int32)) + ((usr (p0 - ((usr p0 (1 : Int32)) &&& (1431655765 : Int32))) (2 : Int32)) &&& (858993459 : Int32))) + (usr (((p0 - ((usr p0 (1 : Int32)) &&& (1431655765 : Int32))) &&& (858993459 : Int32)) + ((usr (p0 - ((usr p0 (1 : Int32)) &&& (1431655765 : Int32))) (2 : Int32)) &&& (858993459 : Int32))) (4 : Int32))) &&& (252645135 : Int32)) (8 : Int32))) (16 : Int32))) hx hb dJ6_bitCount_0f7a4_45 rfl ?_
  refine lv_iadd hx hb dJ6_bitCount_0f7a4_46 ?_
  refine lv_istore_n (lv' := [(0, .int (((((((p0 - ((usr p0 (1 : Int32)) &&& (1431655765 : Int32))) &&& (858993459 : Int32)) + ((usr (p0 - ((usr p0 (1 : Int32)) &&& (1431655765 : Int32))) (2 : Int32)) &&& (858993459 : Int32))) + (usr (((p0 - ((usr p0 (1 : Int32)) &&& (1431655765 : Int32))) &&& (858993459 : Int32)) + ((usr (p0 - ((usr p0 (1 : Int32)) &&& (1431655765 : Int32))) (2 : Int32)) &&& (858993459 : Int32))) (4 : Int32))) &&& (252645135 : Int32)) + (usr (((((p0 - ((usr p0 (1 : Int32)) &&& (1431655765 : Int32))) &&& (858993459 : Int32)) + ((usr (p0 - ((usr p0 (1 : Int32)) &&& (1431655765 : Int32))) (2 : Int32)) &&& (858993459 : Int32))) + (usr (((p0 - ((usr p0 (1 : Int32)) &&& (1431655765 : Int32))) &&& (858993459 : Int32)) + ((usr (p0 - ((usr p0 (1 : Int32)) &&& (1431655765 : Int32))) (2 : Int32)) &&& (858993459 : Int32))) (4 : Int32))) &&& (252645135 : Int32)) (8 : Int32))) + (usr ((((((p0 - ((usr p0 (1 : Int32)) &&& (1431655765 : Int32))) &&& (858993459 : Int32)) + ((usr (p0 - ((usr p0 (1 : Int32)) &&& (1431655765 : Int32))) (2 : Int32)) &&& (858993459 : Int32))) + (usr (((p0 - ((usr p0 (1 : Int32)) &&& (1431655765 : Int32))) &&& (858993459 : Int32)) + ((usr (p0 - ((usr p0 (1 : Int32)) &&& (1431655765 : Int32))) (2 : Int32)) &&& (858993459 : Int32))) (4 : Int32))) &&& (252645135 : Int32)) + (usr (((((p0 - ((usr p0 (1 : Int32)) &&& (1431655765 : Int32))) &&& (858993459 : Int32)) + ((usr (p0 - ((usr p0 (1 : Int32)) &&& (1431655765 : Int32))) (2 : Int32)) &&& (858993459 : Int32))) + (usr (((p0 - ((usr p0 (1 : Int32)) &&& (1431655765 : Int32))) &&& (858993459 : Int32)) + ((usr (p0 - ((usr p0 (1 : Int32)) &&& (1431655765 : Int32))) (2 : Int32)) &&& (858993459 : Int32))) (4 : Int32))) &&& (252645135 : Int32)) (8 : Int32))) (16 : Int32))))]) hx hb dJ6_bitCount_0f7a4_47 rfl hl (by decide) rfl (fun ls hl => ?_)
  refine lv_iload_n hx hb dJ6_bitCount_0f7a4_48 rfl (lv_at hl 0 rfl) ?_
  refine lv_bipush (v := (63 : Int32)) hx hb dJ6_bitCount_0f7a4_49 (by decide) ?_
  refine lv_iand hx hb dJ6_bitCount_0f7a4_51 ?_
  exact rrI hQ hW hS h dJ6_bitCount_0f7a4_52
noncomputable def jX1_linesMet_31 (p1 : Int32) (p2 : Int32) (s0 : Int32) (s1 : Int32)  (w : Wd) : Option (Int32 × Wd) :=
  some ((s1 ||| s0), w)
noncomputable def jX1_linesMet_20 (p1 : Int32) (p2 : Int32) (s0 : Int32)  (w : Wd) : Option (Int32 × Wd) :=
  if (p2 &&& (2 : Int32)) = 0 then jX1_linesMet_31 p1 p2 (0 : Int32) s0 w else jX1_linesMet_31 p1 p2 (1 : Int32) s0 w
noncomputable def fX1_linesMet (p1 : Int32) (p2 : Int32) (w : Wd) : Option (Int32 × Wd) :=
  if (p2 &&& (1 : Int32)) = 0 then jX1_linesMet_20 p1 p2 (0 : Int32) w else bnd (fX2_x p1 w) fun x1 w2 => jX1_linesMet_20 p1 p2 ((2 : Int32) <<< (x1 &&& 31)) w2
abbrev rmX1_linesMet : Room := { frames := 1, cells := 0, slots := 0, locals := 21 }
set_option maxHeartbeats 4000000 in
set_option maxRecDepth 100000 in
theorem kX1_linesMet (l : Launch) (E : Ev) (p1 : Int32) (p2 : Int32) (w : Wd) (q : Int32 × Wd) (h : fX1_linesMet p1 p2 w = some q) : CtI l yX1_linesMet wsX1_linesMet rmX1_linesMet E full [.ref (E.2.1 19), .int p1, .int p2] w q := by
  refine mkI (cc := cX1_linesMet) (maxL := 3) (by decide) rfl (Nat.le_of_ble_eq_true rfl) ?_
  intro p e s m args below meth c Q S hW hQ ls hl
  obtain ⟨hx, hb, hml, hown, hts⟩ := id S
  have hW0 := hW
  have hS : va_S (wA E full) s.heap s.heap [] := va_S.rf
  have hl : lv_has ls 3 [(0, .ref (E.2.1 19)), (1, .int p1), (2, .int p2)] := hl
  have iX1 : ∀ w ∈ wsX10, w ∈ wsX1_linesMet := by decide +kernel
  have e39 := hts (.fieldLink RX1 39 "CubeHeaps$Fitting" "ground" "LCubeHeaps$Ground;") (by decide +kernel)
  have J31 : ∀ (s0 : Int32) (s1 : Int32) (w : Wd) (H : Heap) (locs : List Loc) (ls : Array Slot), jX1_linesMet_31 p1 p2 s0 s1 w = some q → World E full w s H → va_S (wA E full) s.heap H locs → lv_has ls 3 [] → W p l e rmX1_linesMet s m args below meth c H locs 0 0 Q (F0 m 31 ls [.int s0, .int s1]) := by
    intro s0 s1 w H locs ls h hW hS hl
    unfold jX1_linesMet_31 at h
    refine lv_ior hx hb dX1_linesMet_31 ?_
    exact rrI hQ hW hS h dX1_linesMet_32
  have J20 : ∀ (s0 : Int32) (w : Wd) (H : Heap) (locs : List Loc) (ls : Array Slot), jX1_linesMet_20 p1 p2 s0 w = some q → World E full w s H → va_S (wA E full) s.heap H locs → lv_has ls 3 [(2, .int p2)] → W p l e rmX1_linesMet s m args below meth c H locs 0 0 Q (F0 m 20 ls [.int s0]) := by
    intro s0 w H locs ls h hW hS hl
    unfold jX1_linesMet_20 at h
    refine lv_iload_n hx hb dX1_linesMet_20 rfl (lv_at hl 0 rfl) ?_
    refine lv_iconst (v := (2 : Int32)) hx hb dX1_linesMet_21 (by decide) ?_
    refine lv_iand hx hb dX1_linesMet_22 ?_
    refine rb_if_eq (tgt := 30) hx hb h dX1_linesMet_23 (by decide) (fun h => ?_) (fun h => ?_)
    · refine lv_iconst (v := (0 : Int32)) hx hb dX1_linesMet_30 (by decide) ?_
      exact J31 _ _ _ _ _ _ h hW hS (lv_sub hl [] rfl)
    · refine lv_iconst (v := (1 : Int32)) hx hb dX1_linesMet_26 (by decide) ?_
      refine lv_goto (tgt := 31) hx hb dX1_linesMet_27 (by decide) ?_
      exact J31 _ _ _ _ _ _ h hW hS (lv_sub hl [] rfl)
  unfold fX1_linesMet at h
  refine lv_iload_n hx hb dX1_linesMet_0 rfl (lv_at hl 2 rfl) ?_
  refine lv_iconst (v := (1 : Int32)) hx hb dX1_linesMet_1 (by decide) ?_
  refine lv_iand hx hb dX1_linesMet_2 ?_
  refine rb_if_eq (tgt := 19) hx hb h dX1_linesMet_3 (by decide) (fun h => ?_) (fun h => ?_)
  · refine lv_iconst (v := (0 : Int32)) hx hb dX1_linesMet_19 (by decide) ?_
    exact J20 _ _ _ _ _ h hW hS (lv_sub hl [2] rfl)
  · refine lv_iconst (v := (2 : Int32)) hx hb dX1_linesMet_6 (by decide) ?_
    refine lv_aload_n hx hb dX1_linesMet_7 rfl (lv_at hl 0 rfl) ?_
    refine rw_get hx hb hts iX1 hown hW (fl 19 rfl) rfl rfl 0 (by decide) e39 rfl (v := .ref (E.2.1 1)) rfl dX1_linesMet_8 ?_
    refine lv_iload_n hx hb dX1_linesMet_11 rfl (lv_at hl 1 rfl) ?_
    refine rc_Vi (k := 1) (As := [.int p1]) (rest := [.int (2 : Int32)]) S hW hS h (kX2_x l E p1 w) (cwV 1 hts gX1_linesMet_X2_x rfl rfl rfl hdX2_x ⟨Nat.le_of_ble_eq_true rfl, Nat.le_of_ble_eq_true rfl⟩) (fl 1 rfl) rfl rfl rfl rfl hl.1 rfl (Nat.le_of_ble_eq_true rfl) ⟨Nat.zero_le _, Nat.zero_le _⟩ dX1_linesMet_12 (fun x1 w2 H locs h hW hS => ?_)
    refine lv_ishl hx hb dX1_linesMet_15 ?_
    refine lv_goto (tgt := 20) hx hb dX1_linesMet_16 (by decide) ?_
    exact J20 _ _ _ _ _ h hW hS (lv_sub hl [2] rfl)
noncomputable def fX2_lines (p1 : Int32) (w : Wd) : Option (Int32 × Wd) :=
  if p1 = 0 then some ((w.1 1 4), w) else some ((w.1 1 3), w)
abbrev rmX2_lines : Room := { frames := 0, cells := 0, slots := 0, locals := 0 }
set_option maxHeartbeats 4000000 in
set_option maxRecDepth 100000 in
theorem kX2_lines (l : Launch) (E : Ev) (p1 : Int32) (w : Wd) (q : Int32 × Wd) (h : fX2_lines p1 w = some q) : CtI l yX2_lines wsX2_lines rmX2_lines E full [.ref (E.2.1 1), .int p1] w q := by
  refine mkI (cc := cX2_lines) (maxL := 2) (by decide) rfl (Nat.le_of_ble_eq_true rfl) ?_
  intro p e s m args below meth c Q S hW hQ ls hl
  obtain ⟨hx, hb, hml, hown, hts⟩ := id S
  have hW0 := hW
  have hS : va_S (wA E full) s.heap s.heap [] := va_S.rf
  have hl : lv_has ls 2 [(0, .ref (E.2.1 1)), (1, .int p1)] := hl
  have iX2 : ∀ w ∈ wsX20, w ∈ wsX2_lines := by decide +kernel
  have e25 := hts (.fieldLink RX2 25 "CubeHeaps$Ground" "wide" "I") (by decide +kernel)
  have e29 := hts (.fieldLink RX2 29 "CubeHeaps$Ground" "deep" "I") (by decide +kernel)
  unfold fX2_lines at h
  refine lv_iload_n hx hb dX2_lines_0 rfl (lv_at hl 1 rfl) ?_
  refine rb_if_eq (tgt := 11) hx hb h dX2_lines_1 (by decide) (fun h => ?_) (fun h => ?_)
  · refine lv_aload_n hx hb dX2_lines_11 rfl (lv_at hl 0 rfl) ?_
    refine rw_get hx hb hts iX2 hown hW (fl 1 rfl) rfl rfl 4 (by decide) e29 rfl (v := .int (w.1 1 4)) rfl dX2_lines_12 ?_
    exact rrI hQ hW hS h dX2_lines_15
  · refine lv_aload_n hx hb dX2_lines_4 rfl (lv_at hl 0 rfl) ?_
    refine rw_get hx hb hts iX2 hown hW (fl 1 rfl) rfl rfl 3 (by decide) e25 rfl (v := .int (w.1 1 3)) rfl dX2_lines_5 ?_
    refine lv_goto (tgt := 15) hx hb dX2_lines_8 (by decide) ?_
    exact rrI hQ hW hS h dX2_lines_15
noncomputable def fX1_endsRow (p1 : Int32) (w : Wd) : Option (Int32 × Wd) :=
  bnd (fX2_x p1 w) fun x1 w2 => bnd (fX2_lines (1 : Int32) w2) fun x3 w4 => if x1 = (x3 - (1 : Int32)) then zr (1 : Int32) w4 else zr (0 : Int32) w4
abbrev rmX1_endsRow : Room := { frames := 1, cells := 0, slots := 0, locals := 21 }
set_option maxHeartbeats 4000000 in
set_option maxRecDepth 100000 in
theorem kX1_endsRow (l : Launch) (E : Ev) (p1 : Int32) (w : Wd) (q : Int32 × Wd) (h : fX1_endsRow p1 w = some q) : CtI l yX1_endsRow wsX1_endsRow rmX1_endsRow E full [.ref (E.2.1 19), .int p1] w q := by
  refine mkZ (cc := cX1_endsRow) (maxL := 2) (by decide) rfl (Nat.le_of_ble_eq_true rfl) ?_
  intro p e s m args below meth c Q S hW hQ ls hl
  obtain ⟨hx, hb, hml, hown, hts⟩ := id S
  have hW0 := hW
  have hS : va_S (wA E full) s.heap s.heap [] := va_S.rf
  have hl : lv_has ls 2 [(0, .ref (E.2.1 19)), (1, .int p1)] := hl
  have iX1 : ∀ w ∈ wsX10, w ∈ wsX1_endsRow := by decide +kernel
  have e39 := hts (.fieldLink RX1 39 "CubeHeaps$Fitting" "ground" "LCubeHeaps$Ground;") (by decide +kernel)
  unfold fX1_endsRow at h
  refine lv_aload_n hx hb dX1_endsRow_0 rfl (lv_at hl 0 rfl) ?_
  refine rw_get hx hb hts iX1 hown hW (fl 19 rfl) rfl rfl 0 (by decide) e39 rfl (v := .ref (E.2.1 1)) rfl dX1_endsRow_1 ?_
  refine lv_iload_n hx hb dX1_endsRow_4 rfl (lv_at hl 1 rfl) ?_
  refine rc_Vi (k := 1) (As := [.int p1]) (rest := []) S hW hS h (kX2_x l E p1 w) (cwV 1 hts gX1_endsRow_X2_x rfl rfl rfl hdX2_x ⟨Nat.le_of_ble_eq_true rfl, Nat.le_of_ble_eq_true rfl⟩) (fl 1 rfl) rfl rfl rfl rfl hl.1 rfl (Nat.le_of_ble_eq_true rfl) ⟨Nat.zero_le _, Nat.zero_le _⟩ dX1_endsRow_5 (fun x1 w2 H locs h hW hS => ?_)
  refine lv_aload_n hx hb dX1_endsRow_8 rfl (lv_at hl 0 rfl) ?_
  refine rw_get hx hb hts iX1 hown hW (fl 19 rfl) rfl rfl 0 (by decide) e39 rfl (v := .ref (E.2.1 1)) rfl dX1_endsRow_9 ?_
  refine lv_iconst (v := (1 : Int32)) hx hb dX1_endsRow_12 (by decide) ?_
  refine rc_Vi (k := 1) (As := [.int (1 : Int32)]) (rest := [.int x1]) S hW hS h (kX2_lines l E (1 : Int32) w2) (cwV 1 hts gX1_endsRow_X2_lines rfl rfl rfl hdX2_lines ⟨Nat.le_of_ble_eq_true rfl, Nat.le_of_ble_eq_true rfl⟩) (fl 1 rfl) rfl rfl rfl rfl hl.1 rfl (Nat.le_of_ble_eq_true rfl) ⟨Nat.zero_le _, Nat.zero_le _⟩ dX1_endsRow_13 (fun x3 w4 H locs h hW hS => ?_)
  refine lv_iconst (v := (1 : Int32)) hx hb dX1_endsRow_16 (by decide) ?_
  refine lv_isub hx hb dX1_endsRow_17 ?_
  refine rb_icmp_ne (tgt := 25) hx hb h dX1_endsRow_18 (by decide) (fun h => ?_) (fun h => ?_)
  · refine lv_iconst (v := (0 : Int32)) hx hb dX1_endsRow_25 (by decide) ?_
    exact rrZ hQ hW hS h dX1_endsRow_26
  · refine lv_iconst (v := (1 : Int32)) hx hb dX1_endsRow_21 (by decide) ?_
    refine lv_goto (tgt := 26) hx hb dX1_endsRow_22 (by decide) ?_
    exact rrZ hQ hW hS h dX1_endsRow_26
noncomputable def fX1_states  (w : Wd) : Option (Int32 × Wd) :=
  bnd (fX2_lines (1 : Int32) w) fun x1 w2 => some (((2 : Int32) <<< (x1 &&& 31)), w2)
abbrev rmX1_states : Room := { frames := 1, cells := 0, slots := 0, locals := 21 }
set_option maxHeartbeats 4000000 in
set_option maxRecDepth 100000 in
theorem kX1_states (l : Launch) (E : Ev)  (w : Wd) (q : Int32 × Wd) (h : fX1_states w = some q) : CtI l yX1_states wsX1_states rmX1_states E full [.ref (E.2.1 19)] w q := by
  refine mkI (cc := cX1_states) (maxL := 1) (by decide) rfl (Nat.le_of_ble_eq_true rfl) ?_
  intro p e s m args below meth c Q S hW hQ ls hl
  obtain ⟨hx, hb, hml, hown, hts⟩ := id S
  have hW0 := hW
  have hS : va_S (wA E full) s.heap s.heap [] := va_S.rf
  have hl : lv_has ls 1 [(0, .ref (E.2.1 19))] := hl
  have iX1 : ∀ w ∈ wsX10, w ∈ wsX1_states := by decide +kernel
  have e39 := hts (.fieldLink RX1 39 "CubeHeaps$Fitting" "ground" "LCubeHeaps$Ground;") (by decide +kernel)
  unfold fX1_states at h
  refine lv_iconst (v := (2 : Int32)) hx hb dX1_states_0 (by decide) ?_
  refine lv_aload_n hx hb dX1_states_1 rfl (lv_at hl 0 rfl) ?_
  refine rw_get hx hb hts iX1 hown hW (fl 19 rfl) rfl rfl 0 (by decide) e39 rfl (v := .ref (E.2.1 1)) rfl dX1_states_2 ?_
  refine lv_iconst (v := (1 : Int32)) hx hb dX1_states_5 (by decide) ?_
  refine rc_Vi (k := 1) (As := [.int (1 : Int32)]) (rest := [.int (2 : Int32)]) S hW hS h (kX2_lines l E (1 : Int32) w) (cwV 1 hts gX1_states_X2_lines rfl rfl rfl hdX2_lines ⟨Nat.le_of_ble_eq_true rfl, Nat.le_of_ble_eq_true rfl⟩) (fl 1 rfl) rfl rfl rfl rfl hl.1 rfl (Nat.le_of_ble_eq_true rfl) ⟨Nat.zero_le _, Nat.zero_le _⟩ dX1_states_6 (fun x1 w2 H locs h hW hS => ?_)
  refine lv_ishl hx hb dX1_states_9 ?_
  exact rrI hQ hW hS h dX1_states_10
noncomputable def fX1_after (p0 : Int32) (p1 : Int32) (w : Wd) : Option (Int32 × Wd) :=
  if p1 = 0 then some (p0, w) else if (p0 &&& (1 : Int32)) = 0 then some ((-1 : Int32), w) else some ((p0 - (1 : Int32)), w)
abbrev rmX1_after : Room := { frames := 0, cells := 0, slots := 0, locals := 0 }
set_option maxHeartbeats 4000000 in
set_option maxRecDepth 100000 in
theorem kX1_after (l : Launch) (E : Ev) (p0 : Int32) (p1 : Int32) (w : Wd) (q : Int32 × Wd) (h : fX1_after p0 p1 w = some q) : CtI l yX1_after wsX1_after rmX1_after E full [.int p0, .int p1] w q := by
  refine mkI (cc := cX1_after) (maxL := 2) (by decide) rfl (Nat.le_of_ble_eq_true rfl) ?_
  intro p e s m args below meth c Q S hW hQ ls hl
  obtain ⟨hx, hb, hml, hown, hts⟩ := id S
  have hW0 := hW
  have hS : va_S (wA E full) s.heap s.heap [] := va_S.rf
  have hl : lv_has ls 2 [(0, .int p0), (1, .int p1)] := hl
  unfold fX1_after at h
  refine lv_iload_n hx hb dX1_after_0 rfl (lv_at hl 1 rfl) ?_
  refine rb_if_ne (tgt := 6) hx hb h dX1_after_1 (by decide) (fun h => ?_) (fun h => ?_)
  · refine lv_iload_n hx hb dX1_after_6 rfl (lv_at hl 0 rfl) ?_
    refine lv_iconst (v := (1 : Int32)) hx hb dX1_after_7 (by decide) ?_
    refine lv_iand hx hb dX1_after_8 ?_
    refine rb_if_ne (tgt := 16) hx hb h dX1_after_9 (by decide) (fun h => ?_) (fun h => ?_)
    · refine lv_iload_n hx hb dX1_after_16 rfl (lv_at hl 0 rfl) ?_
      refine lv_iconst (v := (1 : Int32)) hx hb dX1_after_17 (by decide) ?_
      refine lv_isub hx hb dX1_after_18 ?_
      exact rrI hQ hW hS h dX1_after_19
    · refine lv_iconst (v := (-1 : Int32)) hx hb dX1_after_12 (by decide) ?_
      refine lv_goto (tgt := 19) hx hb dX1_after_13 (by decide) ?_
      exact rrI hQ hW hS h dX1_after_19
  · refine lv_iload_n hx hb dX1_after_4 rfl (lv_at hl 0 rfl) ?_
    exact rrI hQ hW hS h dX1_after_5
noncomputable def jX1_addBefore_111 (p1 : Int32) (p2 : Int32) (k57 : Int32 → Int32 → Int32 → Int32 → Nat → Nat → Int32 → Wd → Option (Unit × Wd)) (v3 : Int32) (v4 : Int32) (v5 : Int32) (v6 : Int32) (v7 : Nat) (v8 : Nat) (v9 : Int32)  (w : Wd) : Option (Unit × Wd) :=
  k57 v3 v4 v5 v6 v7 v8 (v9 + (1 : Int32)) w
noncomputable def bX1_addBefore_57 (p1 : Int32) (p2 : Int32) (k57 : Int32 → Int32 → Int32 → Int32 → Nat → Nat → Int32 → Wd → Option (Unit × Wd)) (v3 : Int32) (v4 : Int32) (v5 : Int32) (v6 : Int32) (v7 : Nat) (v8 : Nat) (v9 : Int32)  (w : Wd) : Option (Unit × Wd) :=
  if v6 ≤ v9 then some ((), w) else (gL w v7 v9).bind fun x13 => if x13 = (0 : Int64) then jX1_addBefore_111 p1 p2 k57 v3 v4 v5 v6 v7 v8 v9 w else bnd (fX1_after (v9 ||| v4) v5 w) fun x14 w15 => if x14 = (-1 : Int32) then jX1_addBefore_111 p1 p2 k57 v3 v4 v5 v6 v7 v8 v9 w15 else (gL w15 v8 x14).bind fun x16 => (gL w15 v7 v9).bind fun x17 => (sL w15 v8 x14 (x16 + ((v3.toInt64) * x17))).bind fun w18 => jX1_addBefore_111 p1 p2 k57 v3 v4 v5 v6 v7 v8 v9 w18
noncomputable def fX1_addBefore (p1 : Int32) (p2 : Int32) (w : Wd) : Option (Unit × Wd) :=
  bnd (fX1_heightsOf p1 p2 w) fun x1 w2 => bnd (fJ6_bitCount_0f7a4 x1 w2) fun x3 w4 => if x3 = 0 then some ((), w4) else bnd (fX1_linesMet p1 p2 w4) fun x5 w6 => bnd (fX1_endsRow p1 w6) fun x7 w8 => bnd (fX1_states w8) fun x9 w10 => (ixA 26 p1).bind fun j11 => (ixA 26 (p1 + (1 : Int32))).bind fun j12 => lp (fun _ _ _ _ _ _ _ _ => none) (bX1_addBefore_57 p1 p2) G x3 x5 x7 x9 (24 + j11) (24 + j12) (0 : Int32) w10
abbrev rmX1_addBefore : Room := { frames := 2, cells := 0, slots := 0, locals := 43 }
set_option maxHeartbeats 4000000 in
set_option maxRecDepth 100000 in
theorem kX1_addBefore (l : Launch) (E : Ev) (p1 : Int32) (p2 : Int32) (w : Wd) (q : Unit × Wd) (h : fX1_addBefore p1 p2 w = some q) : CtV l yX1_addBefore wsX1_addBefore rmX1_addBefore E full [.ref (E.2.1 19), .int p1, .int p2] w q := by
  refine mkV (cc := cX1_addBefore) (maxL := 11) (by decide) rfl (Nat.le_of_ble_eq_true rfl) ?_
  intro p e s m args below meth c Q S hW hQ ls hl
  obtain ⟨hx, hb, hml, hown, hts⟩ := id S
  have hW0 := hW
  have hS : va_S (wA E full) s.heap s.heap [] := va_S.rf
  have hl : lv_has ls 11 [(0, .ref (E.2.1 19)), (1, .int p1), (2, .int p2)] := hl
  have iX1 : ∀ w ∈ wsX10, w ∈ wsX1_addBefore := by decide +kernel
  have e23 := hts (.fieldLink RX1 23 "CubeHeaps$Fitting" "before" "[[J") (by decide +kernel)
  have J57 : ∀ (n : Nat) (v3 : Int32) (v4 : Int32) (v5 : Int32) (v6 : Int32) (v7 : Nat) (v8 : Nat) (v9 : Int32) (w : Wd) (H : Heap) (locs : List Loc) (ls : Array Slot), lp (fun _ _ _ _ _ _ _ _ => none) (bX1_addBefore_57 p1 p2) n v3 v4 v5 v6 v7 v8 v9 w = some q → World E full w s H → va_S (wA E full) s.heap H locs → lv_has ls 11 [(3, .int v3), (4, .int v4), (5, .int v5), (6, .int v6), (7, .ref (E.2.1 v7)), (8, .ref (E.2.1 v8)), (9, .int v9)] → W p l e rmX1_addBefore s m args below meth c H locs 0 0 Q (F0 m 57 ls []) := by
    intro n
    induction n with
    | zero =>
      intro v3 v4 v5 v6 v7 v8 v9 w H locs ls h hW hS hl
      exact absurd (show (none : Option (Unit × Wd)) = some q from h) (fun z => by cases z)
    | succ n ih57 =>
      intro v3 v4 v5 v6 v7 v8 v9 w H locs ls h hW hS hl
      have h : bX1_addBefore_57 p1 p2 (lp (fun _ _ _ _ _ _ _ _ => none) (bX1_addBefore_57 p1 p2) n) v3 v4 v5 v6 v7 v8 v9 w = some q := h
      generalize lp (fun _ _ _ _ _ _ _ _ => none) (bX1_addBefore_57 p1 p2) n = k57 at h ih57
      have J111 : ∀ (v3 : Int32) (v4 : Int32) (v5 : Int32) (v6 : Int32) (v7 : Nat) (v8 : Nat) (v9 : Int32) (w : Wd) (H : Heap) (locs : List Loc) (ls : Array Slot), jX1_addBefore_111 p1 p2 k57 v3 v4 v5 v6 v7 v8 v9 w = some q → World E full w s H → va_S (wA E full) s.heap H locs → lv_has ls 11 [(3, .int v3), (4, .int v4), (5, .int v5), (6, .int v6), (7, .ref (E.2.1 v7)), (8, .ref (E.2.1 v8)), (9, .int v9)] → W p l e rmX1_addBefore s m args below meth c H locs 0 0 Q (F0 m 111 ls []) := by
        intro v3 v4 v5 v6 v7 v8 v9 w H locs ls h hW hS hl
        unfold jX1_addBefore_111 at h
        refine lv_iinc (v := (v9 + (1 : Int32))) (lv' := [(9, .int (v9 + (1 : Int32))), (3, .int v3), (4, .int v4), (5, .int v5), (6, .int v6), (7, .ref (E.2.1 v7)), (8, .ref (E.2.1 v8))]) hx hb dX1_addBefore_111 hl (k := 6) rfl rfl (by decide) rfl (fun ls hl => ?_)
        refine lv_goto (tgt := 57) hx hb dX1_addBefore_114 (by decide) ?_
        exact ih57 _ _ _ _ _ _ _ _ _ _ _ h hW hS (lv_sub hl [1, 2, 3, 4, 5, 6, 0] rfl)
      unfold bX1_addBefore_57 at h
      refine lv_iload hx hb dX1_addBefore_57 (lv_at hl 6 rfl) ?_
      refine lv_iload hx hb dX1_addBefore_59 (lv_at hl 3 rfl) ?_
      refine rb_icmp_ge (tgt := 117) hx hb h dX1_addBefore_61 (by decide) (fun h => ?_) (fun h => ?_)
      · exact rrV hQ hW hS h dX1_addBefore_117
      · refine lv_aload hx hb dX1_addBefore_64 (lv_at hl 4 rfl) ?_
        refine lv_iload hx hb dX1_addBefore_66 (lv_at hl 6 rfl) ?_
        refine rw_lald hx hb hW LL_full h dX1_addBefore_68 (fun x13 h => ?_)
        refine lv_lconst (v := (0 : Int64)) hx hb dX1_addBefore_69 (by decide) ?_
        refine rb_lcmp_ne (tgt := 77) hx hb h dX1_addBefore_70 dX1_addBefore_71 (by decide) (fun h => ?_) (fun h => ?_)
        · refine lv_iload hx hb dX1_addBefore_77 (lv_at hl 6 rfl) ?_
          refine lv_iload hx hb dX1_addBefore_79 (lv_at hl 1 rfl) ?_
          refine lv_ior hx hb dX1_addBefore_81 ?_
          refine lv_iload hx hb dX1_addBefore_82 (lv_at hl 2 rfl) ?_
          refine rc_Si (As := [.int (v9 ||| v4), .int v5]) (rest := []) S hW hS h (kX1_after l E (v9 ||| v4) v5 w) (va_cwS 2 hts gX1_addBefore_X1_after rfl rfl rfl hdX1_after ⟨Nat.le_of_ble_eq_true rfl, Nat.le_of_ble_eq_true rfl⟩) rfl hl.1 rfl (Nat.le_of_ble_eq_true rfl) ⟨Nat.zero_le _, Nat.zero_le _⟩ dX1_addBefore_84 (fun x14 w15 H locs h hW hS => ?_)
          refine lv_istore (lv' := [(10, .int x14), (3, .int v3), (4, .int v4), (5, .int v5), (6, .int v6), (7, .ref (E.2.1 v7)), (8, .ref (E.2.1 v8)), (9, .int v9)]) hx hb dX1_addBefore_87 hl (by decide) rfl (fun ls hl => ?_)
          refine lv_iload hx hb dX1_addBefore_89 (lv_at hl 0 rfl) ?_
          refine lv_iconst (v := (-1 : Int32)) hx hb dX1_addBefore_91 (by decide) ?_
          refine rb_icmp_eq (tgt := 111) hx hb h dX1_addBefore_92 (by decide) (fun h => ?_) (fun h => ?_)
          · exact J111 _ _ _ _ _ _ _ _ _ _ _ h hW hS (lv_sub hl [1, 2, 3, 4, 5, 6, 7] rfl)
          · refine lv_aload hx hb dX1_addBefore_95 (lv_at hl 6 rfl) ?_
            refine lv_iload hx hb dX1_addBefore_97 (lv_at hl 0 rfl) ?_
            refine lv_dup2_11 hx hb dX1_addBefore_99 rfl rfl ?_
            refine rw_lald hx hb hW LL_full h dX1_addBefore_100 (fun x16 h => ?_)
            refine lv_iload_n hx hb dX1_addBefore_101 rfl (lv_at hl 1 rfl) ?_
            refine lv_i2l (v := (v3.toInt64)) hx hb dX1_addBefore_102 rfl ?_
            refine lv_aload hx hb dX1_addBefore_103 (lv_at hl 5 rfl) ?_
            refine lv_iload hx hb dX1_addBefore_105 (lv_at hl 7 rfl) ?_
            refine rw_lald hx hb hW LL_full h dX1_addBefore_107 (fun x17 h => ?_)
            refine lv_lmul hx hb dX1_addBefore_108 ?_
            refine lv_ladd hx hb dX1_addBefore_109 ?_
            refine rw_last hx hb hW hS LL_full h dX1_addBefore_110 (fun w18 H locs h hW hS => ?_)
            exact J111 _ _ _ _ _ _ _ _ _ _ _ h hW hS (lv_sub hl [1, 2, 3, 4, 5, 6, 7] rfl)
        · refine lv_goto (tgt := 111) hx hb dX1_addBefore_74 (by decide) ?_
          exact J111 _ _ _ _ _ _ _ _ _ _ _ h hW hS (hl)
  unfold fX1_addBefore at h
  refine lv_aload_n hx hb dX1_addBefore_0 rfl (lv_at hl 0 rfl) ?_
  refine lv_iload_n hx hb dX1_addBefore_1 rfl (lv_at hl 1 rfl) ?_
  refine lv_iload_n hx hb dX1_addBefore_2 rfl (lv_at hl 2 rfl) ?_
  refine rc_Vi (k := 19) (As := [.int p1, .int p2]) (rest := []) S hW hS h (kX1_heightsOf l E p1 p2 w) (cwV 2 hts gX1_addBefore_X1_heightsOf rfl rfl rfl hdX1_heightsOf ⟨Nat.le_of_ble_eq_true rfl, Nat.le_of_ble_eq_true rfl⟩) (fl 19 rfl) rfl rfl rfl rfl hl.1 rfl (Nat.le_of_ble_eq_true rfl) ⟨Nat.zero_le _, Nat.zero_le _⟩ dX1_addBefore_3 (fun x1 w2 H locs h hW hS => ?_)
  refine rc_Si (As := [.int x1]) (rest := []) S hW hS h (kJ6_bitCount_0f7a4 l E x1 w2) (va_cwS 1 hts gX1_addBefore_J6_bitCount_0f7a4 rfl rfl rfl hdJ6_bitCount_0f7a4 ⟨Nat.le_of_ble_eq_true rfl, Nat.le_of_ble_eq_true rfl⟩) rfl hl.1 rfl (Nat.le_of_ble_eq_true rfl) ⟨Nat.zero_le _, Nat.zero_le _⟩ dX1_addBefore_6 (fun x3 w4 H locs h hW hS => ?_)
  refine lv_istore_n (lv' := [(3, .int x3), (0, .ref (E.2.1 19)), (1, .int p1), (2, .int p2)]) hx hb dX1_addBefore_9 rfl hl (by decide) rfl (fun ls hl => ?_)
  refine lv_iload_n hx hb dX1_addBefore_10 rfl (lv_at hl 0 rfl) ?_
  refine rb_if_ne (tgt := 15) hx hb h dX1_addBefore_11 (by decide) (fun h => ?_) (fun h => ?_)
  · refine lv_aload_n hx hb dX1_addBefore_15 rfl (lv_at hl 1 rfl) ?_
    refine lv_iload_n hx hb dX1_addBefore_16 rfl (lv_at hl 2 rfl) ?_
    refine lv_iload_n hx hb dX1_addBefore_17 rfl (lv_at hl 3 rfl) ?_
    refine rc_Vi (k := 19) (As := [.int p1, .int p2]) (rest := []) S hW hS h (kX1_linesMet l E p1 p2 w4) (cwV 2 hts gX1_addBefore_X1_linesMet rfl rfl rfl hdX1_linesMet ⟨Nat.le_of_ble_eq_true rfl, Nat.le_of_ble_eq_true rfl⟩) (fl 19 rfl) rfl rfl rfl rfl hl.1 rfl (Nat.le_of_ble_eq_true rfl) ⟨Nat.zero_le _, Nat.zero_le _⟩ dX1_addBefore_18 (fun x5 w6 H locs h hW hS => ?_)
    refine lv_istore (lv' := [(4, .int x5), (3, .int x3), (0, .ref (E.2.1 19)), (1, .int p1), (2, .int p2)]) hx hb dX1_addBefore_21 hl (by decide) rfl (fun ls hl => ?_)
    refine lv_aload_n hx hb dX1_addBefore_23 rfl (lv_at hl 2 rfl) ?_
    refine lv_iload_n hx hb dX1_addBefore_24 rfl (lv_at hl 3 rfl) ?_
    refine rc_Vi (k := 19) (As := [.int p1]) (rest := []) S hW hS h (kX1_endsRow l E p1 w6) (cwV 1 hts gX1_addBefore_X1_endsRow rfl rfl rfl hdX1_endsRow ⟨Nat.le_of_ble_eq_true rfl, Nat.le_of_ble_eq_true rfl⟩) (fl 19 rfl) rfl rfl rfl rfl hl.1 rfl (Nat.le_of_ble_eq_true rfl) ⟨Nat.zero_le _, Nat.zero_le _⟩ dX1_addBefore_25 (fun x7 w8 H locs h hW hS => ?_)
    refine lv_istore (lv' := [(5, .int x7), (4, .int x5), (3, .int x3), (0, .ref (E.2.1 19)), (1, .int p1), (2, .int p2)]) hx hb dX1_addBefore_28 hl (by decide) rfl (fun ls hl => ?_)
    refine lv_aload_n hx hb dX1_addBefore_30 rfl (lv_at hl 3 rfl) ?_
    refine rc_Vi (k := 19) (As := []) (rest := []) S hW hS h (kX1_states l E  w8) (cwV 0 hts gX1_addBefore_X1_states rfl rfl rfl hdX1_states ⟨Nat.le_of_ble_eq_true rfl, Nat.le_of_ble_eq_true rfl⟩) (fl 19 rfl) rfl rfl rfl rfl hl.1 rfl (Nat.le_of_ble_eq_true rfl) ⟨Nat.zero_le _, Nat.zero_le _⟩ dX1_addBefore_31 (fun x9 w10 H locs h hW hS => ?_)
    refine lv_istore (lv' := [(6, .int x9), (5, .int x7), (4, .int x5), (3, .int x3), (0, .ref (E.2.1 19)), (1, .int p1), (2, .int p2)]) hx hb dX1_addBefore_34 hl (by decide) rfl (fun ls hl => ?_)
    refine lv_aload_n hx hb dX1_addBefore_36 rfl (lv_at hl 4 rfl) ?_
    refine rw_get hx hb hts iX1 hown hW (fl 19 rfl) rfl rfl 5 (by decide) e23 rfl (v := .ref (E.2.1 23)) rfl dX1_addBefore_37 ?_
    refine lv_iload_n hx hb dX1_addBefore_40 rfl (lv_at hl 5 rfl) ?_
    refine rw_aaldL hx hb hW (fl 23 rfl) rfl h dX1_addBefore_41 (fun j11 h => ?_)
    refine lv_astore (lv' := [(7, .ref (E.2.1 (24 + j11))), (6, .int x9), (5, .int x7), (4, .int x5), (3, .int x3), (0, .ref (E.2.1 19)), (1, .int p1), (2, .int p2)]) hx hb dX1_addBefore_42 hl (by decide) rfl (fun ls hl => ?_)
    refine lv_aload_n hx hb dX1_addBefore_44 rfl (lv_at hl 5 rfl) ?_
    refine rw_get hx hb hts iX1 hown hW (fl 19 rfl) rfl rfl 5 (by decide) e23 rfl (v := .ref (E.2.1 23)) rfl dX1_addBefore_45 ?_
    refine lv_iload_n hx hb dX1_addBefore_48 rfl (lv_at hl 6 rfl) ?_
    refine lv_iconst (v := (1 : Int32)) hx hb dX1_addBefore_49 (by decide) ?_
    refine lv_iadd hx hb dX1_addBefore_50 ?_
    refine rw_aaldL hx hb hW (fl 23 rfl) rfl h dX1_addBefore_51 (fun j12 h => ?_)
    refine lv_astore (lv' := [(8, .ref (E.2.1 (24 + j12))), (7, .ref (E.2.1 (24 + j11))), (6, .int x9), (5, .int x7), (4, .int x5), (3, .int x3), (0, .ref (E.2.1 19)), (1, .int p1), (2, .int p2)]) hx hb dX1_addBefore_52 hl (by decide) rfl (fun ls hl => ?_)
    refine lv_iconst (v := (0 : Int32)) hx hb dX1_addBefore_54 (by decide) ?_
    refine lv_istore (lv' := [(9, .int (0 : Int32)), (8, .ref (E.2.1 (24 + j12))), (7, .ref (E.2.1 (24 + j11))), (6, .int x9), (5, .int x7), (4, .int x5), (3, .int x3), (0, .ref (E.2.1 19)), (1, .int p1), (2, .int p2)]) hx hb dX1_addBefore_55 hl (by decide) rfl (fun ls hl => ?_)
    exact J57 _ _ _ _ _ _ _ _ _ _ _ _ h hW hS (lv_sub hl [6, 5, 4, 3, 2, 1, 0] rfl)
  · exact rrV hQ hW hS h dX1_addBefore_14
noncomputable def bX1_countBefore_46 (k21 : Int32 → Wd → Option (Unit × Wd)) (k46 : Int32 → Int32 → Wd → Option (Unit × Wd)) (v1 : Int32) (v2 : Int32)  (w : Wd) : Option (Unit × Wd) :=
  if (4 : Int32) ≤ v2 then k21 (v1 + (1 : Int32)) w else bnd (fX1_addBefore v1 v2 w) fun _ w9 => k46 v1 (v2 + (1 : Int32)) w9
noncomputable def bX1_countBefore_21 (k21 : Int32 → Wd → Option (Unit × Wd)) (v1 : Int32)  (w : Wd) : Option (Unit × Wd) :=
  bnd (fX2_cells w) fun x5 w6 => if x5 ≤ v1 then some ((), w6) else (ixA 26 (v1 + (1 : Int32))).bind fun j7 => bnd (fJ7_fill_d0a16 (24 + j7) (0 : Int64) w6) fun _ w8 => lp (fun _ _ _ => none) (bX1_countBefore_46 k21) G v1 (0 : Int32) w8
noncomputable def fX1_countBefore  (w : Wd) : Option (Unit × Wd) :=
  (ixA 26 (0 : Int32)).bind fun j1 => bnd (fJ7_fill_d0a16 (24 + j1) (0 : Int64) w) fun _ w2 => (ixA 26 (0 : Int32)).bind fun j3 => (sL w2 (24 + j3) (0 : Int32) (1 : Int64)).bind fun w4 => lp (fun _ _ => none) (bX1_countBefore_21) G (0 : Int32) w4
abbrev rmX1_countBefore : Room := { frames := 3, cells := 0, slots := 0, locals := 73 }
set_option maxHeartbeats 4000000 in
set_option maxRecDepth 100000 in
theorem kX1_countBefore (l : Launch) (E : Ev)  (w : Wd) (q : Unit × Wd) (h : fX1_countBefore w = some q) : CtV l yX1_countBefore wsX1_countBefore rmX1_countBefore E full [.ref (E.2.1 19)] w q := by
  refine mkV (cc := cX1_countBefore) (maxL := 3) (by decide) rfl (Nat.le_of_ble_eq_true rfl) ?_
  intro p e s m args below meth c Q S hW hQ ls hl
  obtain ⟨hx, hb, hml, hown, hts⟩ := id S
  have hW0 := hW
  have hS : va_S (wA E full) s.heap s.heap [] := va_S.rf
  have hl : lv_has ls 3 [(0, .ref (E.2.1 19))] := hl
  have iX1 : ∀ w ∈ wsX10, w ∈ wsX1_countBefore := by decide +kernel
  have e23 := hts (.fieldLink RX1 23 "CubeHeaps$Fitting" "before" "[[J") (by decide +kernel)
  have e39 := hts (.fieldLink RX1 39 "CubeHeaps$Fitting" "ground" "LCubeHeaps$Ground;") (by decide +kernel)
  have J21 : ∀ (n : Nat) (v1 : Int32) (w : Wd) (H : Heap) (locs : List Loc) (ls : Array Slot), lp (fun _ _ => none) (bX1_countBefore_21) n v1 w = some q → World E full w s H → va_S (wA E full) s.heap H locs → lv_has ls 3 [(0, .ref (E.2.1 19)), (1, .int v1)] → W p l e rmX1_countBefore s m args below meth c H locs 0 0 Q (F0 m 21 ls []) := by
    intro n
    induction n with
    | zero =>
      intro v1 w H locs ls h hW hS hl
      exact absurd (show (none : Option (Unit × Wd)) = some q from h) (fun z => by cases z)
    | succ n ih21 =>
      intro v1 w H locs ls h hW hS hl
      have h : bX1_countBefore_21 (lp (fun _ _ => none) (bX1_countBefore_21) n) v1 w = some q := h
      generalize lp (fun _ _ => none) (bX1_countBefore_21) n = k21 at h ih21
      have J46 : ∀ (n : Nat) (v1 : Int32) (v2 : Int32) (w : Wd) (H : Heap) (locs : List Loc) (ls : Array Slot), lp (fun _ _ _ => none) (bX1_countBefore_46 k21) n v1 v2 w = some q → World E full w s H → va_S (wA E full) s.heap H locs → lv_has ls 3 [(0, .ref (E.2.1 19)), (1, .int v1), (2, .int v2)] → W p l e rmX1_countBefore s m args below meth c H locs 0 0 Q (F0 m 46 ls []) := by
        intro n
        induction n with
        | zero =>
          intro v1 v2 w H locs ls h hW hS hl
          exact absurd (show (none : Option (Unit × Wd)) = some q from h) (fun z => by cases z)
        | succ n ih46 =>
          intro v1 v2 w H locs ls h hW hS hl
          have h : bX1_countBefore_46 k21 (lp (fun _ _ _ => none) (bX1_countBefore_46 k21) n) v1 v2 w = some q := h
          generalize lp (fun _ _ _ => none) (bX1_countBefore_46 k21) n = k46 at h ih46
          unfold bX1_countBefore_46 at h
          refine lv_iload_n hx hb dX1_countBefore_46 rfl (lv_at hl 2 rfl) ?_
          refine lv_iconst (v := (4 : Int32)) hx hb dX1_countBefore_47 (by decide) ?_
          refine rb_icmp_ge (tgt := 63) hx hb h dX1_countBefore_48 (by decide) (fun h => ?_) (fun h => ?_)
          · refine lv_iinc (v := (v1 + (1 : Int32))) (lv' := [(1, .int (v1 + (1 : Int32))), (0, .ref (E.2.1 19)), (2, .int v2)]) hx hb dX1_countBefore_63 hl (k := 1) rfl rfl (by decide) rfl (fun ls hl => ?_)
            refine lv_goto (tgt := 21) hx hb dX1_countBefore_66 (by decide) ?_
            exact ih21 _ _ _ _ _ h hW hS (lv_sub hl [1, 0] rfl)
          · refine lv_aload_n hx hb dX1_countBefore_51 rfl (lv_at hl 0 rfl) ?_
            refine lv_iload_n hx hb dX1_countBefore_52 rfl (lv_at hl 1 rfl) ?_
            refine lv_iload_n hx hb dX1_countBefore_53 rfl (lv_at hl 2 rfl) ?_
            refine rc_Vv (k := 19) (As := [.int v1, .int v2]) (rest := []) S hW hS h (kX1_addBefore l E v1 v2 w) (cwV 2 hts gX1_countBefore_X1_addBefore rfl rfl rfl hdX1_addBefore ⟨Nat.le_of_ble_eq_true rfl, Nat.le_of_ble_eq_true rfl⟩) (fl 19 rfl) rfl rfl rfl rfl hl.1 rfl (Nat.le_of_ble_eq_true rfl) ⟨Nat.zero_le _, Nat.zero_le _⟩ dX1_countBefore_54 (fun _ w9 H locs h hW hS => ?_)
            refine lv_iinc (v := (v2 + (1 : Int32))) (lv' := [(2, .int (v2 + (1 : Int32))), (0, .ref (E.2.1 19)), (1, .int v1)]) hx hb dX1_countBefore_57 hl (k := 2) rfl rfl (by decide) rfl (fun ls hl => ?_)
            refine lv_goto (tgt := 46) hx hb dX1_countBefore_60 (by decide) ?_
            exact ih46 _ _ _ _ _ _ h hW hS (lv_sub hl [1, 2, 0] rfl)
      unfold bX1_countBefore_21 at h
      refine lv_iload_n hx hb dX1_countBefore_21 rfl (lv_at hl 1 rfl) ?_
      refine lv_aload_n hx hb dX1_countBefore_22 rfl (lv_at hl 0 rfl) ?_
      refine rw_get hx hb hts iX1 hown hW (fl 19 rfl) rfl rfl 0 (by decide) e39 rfl (v := .ref (E.2.1 1)) rfl dX1_countBefore_23 ?_
      refine rc_Vi (k := 1) (As := []) (rest := [.int v1]) S hW hS h (kX2_cells l E  w) (cwV 0 hts gX1_countBefore_X2_cells rfl rfl rfl hdX2_cells ⟨Nat.le_of_ble_eq_true rfl, Nat.le_of_ble_eq_true rfl⟩) (fl 1 rfl) rfl rfl rfl rfl hl.1 rfl (Nat.le_of_ble_eq_true rfl) ⟨Nat.zero_le _, Nat.zero_le _⟩ dX1_countBefore_26 (fun x5 w6 H locs h hW hS => ?_)
      refine rb_icmp_ge (tgt := 69) hx hb h dX1_countBefore_29 (by decide) (fun h => ?_) (fun h => ?_)
      · exact rrV hQ hW hS h dX1_countBefore_69
      · refine lv_aload_n hx hb dX1_countBefore_32 rfl (lv_at hl 0 rfl) ?_
        refine rw_get hx hb hts iX1 hown hW (fl 19 rfl) rfl rfl 5 (by decide) e23 rfl (v := .ref (E.2.1 23)) rfl dX1_countBefore_33 ?_
        refine lv_iload_n hx hb dX1_countBefore_36 rfl (lv_at hl 1 rfl) ?_
        refine lv_iconst (v := (1 : Int32)) hx hb dX1_countBefore_37 (by decide) ?_
        refine lv_iadd hx hb dX1_countBefore_38 ?_
        refine rw_aaldL hx hb hW (fl 23 rfl) rfl h dX1_countBefore_39 (fun j7 h => ?_)
        refine lv_lconst (v := (0 : Int64)) hx hb dX1_countBefore_40 (by decide) ?_
        refine rc_Sv (As := [.ref (E.2.1 (24 + j7)), .long (0 : Int64)]) (rest := []) S hW hS h (kJ7_fill_d0a16 l E (24 + j7) (0 : Int64) w6) (va_cwS 2 hts gX1_countBefore_J7_fill_d0a16 rfl rfl rfl hdJ7_fill_d0a16 ⟨Nat.le_of_ble_eq_true rfl, Nat.le_of_ble_eq_true rfl⟩) rfl hl.1 rfl (Nat.le_of_ble_eq_true rfl) ⟨Nat.zero_le _, Nat.zero_le _⟩ dX1_countBefore_41 (fun _ w8 H locs h hW hS => ?_)
        refine lv_iconst (v := (0 : Int32)) hx hb dX1_countBefore_44 (by decide) ?_
        refine lv_istore_n (lv' := [(2, .int (0 : Int32)), (0, .ref (E.2.1 19)), (1, .int v1)]) hx hb dX1_countBefore_45 rfl hl (by decide) rfl (fun ls hl => ?_)
        exact J46 _ _ _ _ _ _ _ h hW hS (lv_sub hl [1, 2, 0] rfl)
  unfold fX1_countBefore at h
  refine lv_aload_n hx hb dX1_countBefore_0 rfl (lv_at hl 0 rfl) ?_
  refine rw_get hx hb hts iX1 hown hW (fl 19 rfl) rfl rfl 5 (by decide) e23 rfl (v := .ref (E.2.1 23)) rfl dX1_countBefore_1 ?_
  refine lv_iconst (v := (0 : Int32)) hx hb dX1_countBefore_4 (by decide) ?_
  refine rw_aaldL hx hb hW (fl 23 rfl) rfl h dX1_countBefore_5 (fun j1 h => ?_)
  refine lv_lconst (v := (0 : Int64)) hx hb dX1_countBefore_6 (by decide) ?_
  refine rc_Sv (As := [.ref (E.2.1 (24 + j1)), .long (0 : Int64)]) (rest := []) S hW hS h (kJ7_fill_d0a16 l E (24 + j1) (0 : Int64) w) (va_cwS 2 hts gX1_countBefore_J7_fill_d0a16 rfl rfl rfl hdJ7_fill_d0a16 ⟨Nat.le_of_ble_eq_true rfl, Nat.le_of_ble_eq_true rfl⟩) rfl hl.1 rfl (Nat.le_of_ble_eq_true rfl) ⟨Nat.zero_le _, Nat.zero_le _⟩ dX1_countBefore_7 (fun _ w2 H locs h hW hS => ?_)
  refine lv_aload_n hx hb dX1_countBefore_10 rfl (lv_at hl 0 rfl) ?_
  refine rw_get hx hb hts iX1 hown hW (fl 19 rfl) rfl rfl 5 (by decide) e23 rfl (v := .ref (E.2.1 23)) rfl dX1_countBefore_11 ?_
  refine lv_iconst (v := (0 : Int32)) hx hb dX1_countBefore_14 (by decide) ?_
  refine rw_aaldL hx hb hW (fl 23 rfl) rfl h dX1_countBefore_15 (fun j3 h => ?_)
  refine lv_iconst (v := (0 : Int32)) hx hb dX1_countBefore_16 (by decide) ?_
  refine lv_lconst (v := (1 : Int64)) hx hb dX1_countBefore_17 (by decide) ?_
  refine rw_last hx hb hW hS LL_full h dX1_countBefore_18 (fun w4 H locs h hW hS => ?_)
  refine lv_iconst (v := (0 : Int32)) hx hb dX1_countBefore_19 (by decide) ?_
  refine lv_istore_n (lv' := [(1, .int (0 : Int32)), (0, .ref (E.2.1 19))]) hx hb dX1_countBefore_20 rfl hl (by decide) rfl (fun ls hl => ?_)
  exact J21 _ _ _ _ _ _ h hW hS (lv_sub hl [1, 0] rfl)
noncomputable def fX1_allMet  (w : Wd) : Option (Int32 × Wd) :=
  bnd (fX1_states w) fun x1 w2 => some (((x1 - (1 : Int32)) - (1 : Int32)), w2)
abbrev rmX1_allMet : Room := { frames := 2, cells := 0, slots := 0, locals := 41 }
set_option maxHeartbeats 4000000 in
set_option maxRecDepth 100000 in
theorem kX1_allMet (l : Launch) (E : Ev)  (w : Wd) (q : Int32 × Wd) (h : fX1_allMet w = some q) : CtI l yX1_allMet wsX1_allMet rmX1_allMet E full [.ref (E.2.1 19)] w q := by
  refine mkI (cc := cX1_allMet) (maxL := 1) (by decide) rfl (Nat.le_of_ble_eq_true rfl) ?_
  intro p e s m args below meth c Q S hW hQ ls hl
  obtain ⟨hx, hb, hml, hown, hts⟩ := id S
  have hW0 := hW
  have hS : va_S (wA E full) s.heap s.heap [] := va_S.rf
  have hl : lv_has ls 1 [(0, .ref (E.2.1 19))] := hl
  unfold fX1_allMet at h
  refine lv_aload_n hx hb dX1_allMet_0 rfl (lv_at hl 0 rfl) ?_
  refine rc_Vi (k := 19) (As := []) (rest := []) S hW hS h (kX1_states l E  w) (cwV 0 hts gX1_allMet_X1_states rfl rfl rfl hdX1_states ⟨Nat.le_of_ble_eq_true rfl, Nat.le_of_ble_eq_true rfl⟩) (fl 19 rfl) rfl rfl rfl rfl hl.1 rfl (Nat.le_of_ble_eq_true rfl) ⟨Nat.zero_le _, Nat.zero_le _⟩ dX1_allMet_1 (fun x1 w2 H locs h hW hS => ?_)
  refine lv_iconst (v := (1 : Int32)) hx hb dX1_allMet_4 (by decide) ?_
  refine lv_isub hx hb dX1_allMet_5 ?_
  refine lv_iconst (v := (1 : Int32)) hx hb dX1_allMet_6 (by decide) ?_
  refine lv_isub hx hb dX1_allMet_7 ?_
  exact rrI hQ hW hS h dX1_allMet_8
noncomputable def jX1_addBehind_115 (p1 : Int32) (p2 : Int32) (k57 : Int32 → Int32 → Int32 → Int32 → Nat → Nat → Int32 → Wd → Option (Unit × Wd)) (v3 : Int32) (v4 : Int32) (v5 : Int32) (v6 : Int32) (v7 : Nat) (v8 : Nat) (v9 : Int32)  (w : Wd) : Option (Unit × Wd) :=
  k57 v3 v4 v5 v6 v7 v8 (v9 + (1 : Int32)) w
noncomputable def bX1_addBehind_57 (p1 : Int32) (p2 : Int32) (k57 : Int32 → Int32 → Int32 → Int32 → Nat → Nat → Int32 → Wd → Option (Unit × Wd)) (v3 : Int32) (v4 : Int32) (v5 : Int32) (v6 : Int32) (v7 : Nat) (v8 : Nat) (v9 : Int32)  (w : Wd) : Option (Unit × Wd) :=
  if v6 ≤ v9 then some ((), w) else (ixA 26 p1).bind fun j13 => (gL w (24 + j13) v9).bind fun x14 => if x14 = (0 : Int64) then jX1_addBehind_115 p1 p2 k57 v3 v4 v5 v6 v7 v8 v9 w else bnd (fX1_after (v9 ||| v4) v5 w) fun x15 w16 => if x15 = (-1 : Int32) then jX1_addBehind_115 p1 p2 k57 v3 v4 v5 v6 v7 v8 v9 w16 else (gL w16 v7 v9).bind fun x17 => (gL w16 v8 x15).bind fun x18 => (sL w16 v7 v9 (x17 + ((v3.toInt64) * x18))).bind fun w19 => jX1_addBehind_115 p1 p2 k57 v3 v4 v5 v6 v7 v8 v9 w19
noncomputable def fX1_addBehind (p1 : Int32) (p2 : Int32) (w : Wd) : Option (Unit × Wd) :=
  bnd (fX1_heightsOf p1 p2 w) fun x1 w2 => bnd (fJ6_bitCount_0f7a4 x1 w2) fun x3 w4 => if x3 = 0 then some ((), w4) else bnd (fX1_linesMet p1 p2 w4) fun x5 w6 => bnd (fX1_endsRow p1 w6) fun x7 w8 => bnd (fX1_states w8) fun x9 w10 => (ixA 26 p1).bind fun j11 => (ixA 26 (p1 + (1 : Int32))).bind fun j12 => lp (fun _ _ _ _ _ _ _ _ => none) (bX1_addBehind_57 p1 p2) G x3 x5 x7 x9 (51 + j11) (51 + j12) (0 : Int32) w10
abbrev rmX1_addBehind : Room := { frames := 2, cells := 0, slots := 0, locals := 43 }
set_option maxHeartbeats 4000000 in
set_option maxRecDepth 100000 in
theorem kX1_addBehind (l : Launch) (E : Ev) (p1 : Int32) (p2 : Int32) (w : Wd) (q : Unit × Wd) (h : fX1_addBehind p1 p2 w = some q) : CtV l yX1_addBehind wsX1_addBehind rmX1_addBehind E full [.ref (E.2.1 19), .int p1, .int p2] w q := by
  refine mkV (cc := cX1_addBehind) (maxL := 11) (by decide) rfl (Nat.le_of_ble_eq_true rfl) ?_
  intro p e s m args below meth c Q S hW hQ ls hl
  obtain ⟨hx, hb, hml, hown, hts⟩ := id S
  have hW0 := hW
  have hS : va_S (wA E full) s.heap s.heap [] := va_S.rf
  have hl : lv_has ls 11 [(0, .ref (E.2.1 19)), (1, .int p1), (2, .int p2)] := hl
  have iX1 : ∀ w ∈ wsX10, w ∈ wsX1_addBehind := by decide +kernel
  have e23 := hts (.fieldLink RX1 23 "CubeHeaps$Fitting" "before" "[[J") (by decide +kernel)
  have e26 := hts (.fieldLink RX1 26 "CubeHeaps$Fitting" "behind" "[[J") (by decide +kernel)
  have J57 : ∀ (n : Nat) (v3 : Int32) (v4 : Int32) (v5 : Int32) (v6 : Int32) (v7 : Nat) (v8 : Nat) (v9 : Int32) (w : Wd) (H : Heap) (locs : List Loc) (ls : Array Slot), lp (fun _ _ _ _ _ _ _ _ => none) (bX1_addBehind_57 p1 p2) n v3 v4 v5 v6 v7 v8 v9 w = some q → World E full w s H → va_S (wA E full) s.heap H locs → lv_has ls 11 [(0, .ref (E.2.1 19)), (1, .int p1), (3, .int v3), (4, .int v4), (5, .int v5), (6, .int v6), (7, .ref (E.2.1 v7)), (8, .ref (E.2.1 v8)), (9, .int v9)] → W p l e rmX1_addBehind s m args below meth c H locs 0 0 Q (F0 m 57 ls []) := by
    intro n
    induction n with
    | zero =>
      intro v3 v4 v5 v6 v7 v8 v9 w H locs ls h hW hS hl
      exact absurd (show (none : Option (Unit × Wd)) = some q from h) (fun z => by cases z)
    | succ n ih57 =>
      intro v3 v4 v5 v6 v7 v8 v9 w H locs ls h hW hS hl
      have h : bX1_addBehind_57 p1 p2 (lp (fun _ _ _ _ _ _ _ _ => none) (bX1_addBehind_57 p1 p2) n) v3 v4 v5 v6 v7 v8 v9 w = some q := h
      generalize lp (fun _ _ _ _ _ _ _ _ => none) (bX1_addBehind_57 p1 p2) n = k57 at h ih57
      have J115 : ∀ (v3 : Int32) (v4 : Int32) (v5 : Int32) (v6 : Int32) (v7 : Nat) (v8 : Nat) (v9 : Int32) (w : Wd) (H : Heap) (locs : List Loc) (ls : Array Slot), jX1_addBehind_115 p1 p2 k57 v3 v4 v5 v6 v7 v8 v9 w = some q → World E full w s H → va_S (wA E full) s.heap H locs → lv_has ls 11 [(0, .ref (E.2.1 19)), (1, .int p1), (3, .int v3), (4, .int v4), (5, .int v5), (6, .int v6), (7, .ref (E.2.1 v7)), (8, .ref (E.2.1 v8)), (9, .int v9)] → W p l e rmX1_addBehind s m args below meth c H locs 0 0 Q (F0 m 115 ls []) := by
        intro v3 v4 v5 v6 v7 v8 v9 w H locs ls h hW hS hl
        unfold jX1_addBehind_115 at h
        refine lv_iinc (v := (v9 + (1 : Int32))) (lv' := [(9, .int (v9 + (1 : Int32))), (0, .ref (E.2.1 19)), (1, .int p1), (3, .int v3), (4, .int v4), (5, .int v5), (6, .int v6), (7, .ref (E.2.1 v7)), (8, .ref (E.2.1 v8))]) hx hb dX1_addBehind_115 hl (k := 8) rfl rfl (by decide) rfl (fun ls hl => ?_)
        refine lv_goto (tgt := 57) hx hb dX1_addBehind_118 (by decide) ?_
        exact ih57 _ _ _ _ _ _ _ _ _ _ _ h hW hS (lv_sub hl [1, 2, 3, 4, 5, 6, 7, 8, 0] rfl)
      unfold bX1_addBehind_57 at h
      refine lv_iload hx hb dX1_addBehind_57 (lv_at hl 8 rfl) ?_
      refine lv_iload hx hb dX1_addBehind_59 (lv_at hl 5 rfl) ?_
      refine rb_icmp_ge (tgt := 121) hx hb h dX1_addBehind_61 (by decide) (fun h => ?_) (fun h => ?_)
      · exact rrV hQ hW hS h dX1_addBehind_121
      · refine lv_aload_n hx hb dX1_addBehind_64 rfl (lv_at hl 0 rfl) ?_
        refine rw_get hx hb hts iX1 hown hW (fl 19 rfl) rfl rfl 5 (by decide) e23 rfl (v := .ref (E.2.1 23)) rfl dX1_addBehind_65 ?_
        refine lv_iload_n hx hb dX1_addBehind_68 rfl (lv_at hl 1 rfl) ?_
        refine rw_aaldL hx hb hW (fl 23 rfl) rfl h dX1_addBehind_69 (fun j13 h => ?_)
        refine lv_iload hx hb dX1_addBehind_70 (lv_at hl 8 rfl) ?_
        refine rw_lald hx hb hW LL_full h dX1_addBehind_72 (fun x14 h => ?_)
        refine lv_lconst (v := (0 : Int64)) hx hb dX1_addBehind_73 (by decide) ?_
        refine rb_lcmp_ne (tgt := 81) hx hb h dX1_addBehind_74 dX1_addBehind_75 (by decide) (fun h => ?_) (fun h => ?_)
        · refine lv_iload hx hb dX1_addBehind_81 (lv_at hl 8 rfl) ?_
          refine lv_iload hx hb dX1_addBehind_83 (lv_at hl 3 rfl) ?_
          refine lv_ior hx hb dX1_addBehind_85 ?_
          refine lv_iload hx hb dX1_addBehind_86 (lv_at hl 4 rfl) ?_
          refine rc_Si (As := [.int (v9 ||| v4), .int v5]) (rest := []) S hW hS h (kX1_after l E (v9 ||| v4) v5 w) (va_cwS 2 hts gX1_addBehind_X1_after rfl rfl rfl hdX1_after ⟨Nat.le_of_ble_eq_true rfl, Nat.le_of_ble_eq_true rfl⟩) rfl hl.1 rfl (Nat.le_of_ble_eq_true rfl) ⟨Nat.zero_le _, Nat.zero_le _⟩ dX1_addBehind_88 (fun x15 w16 H locs h hW hS => ?_)
          refine lv_istore (lv' := [(10, .int x15), (0, .ref (E.2.1 19)), (1, .int p1), (3, .int v3), (4, .int v4), (5, .int v5), (6, .int v6), (7, .ref (E.2.1 v7)), (8, .ref (E.2.1 v8)), (9, .int v9)]) hx hb dX1_addBehind_91 hl (by decide) rfl (fun ls hl => ?_)
          refine lv_iload hx hb dX1_addBehind_93 (lv_at hl 0 rfl) ?_
          refine lv_iconst (v := (-1 : Int32)) hx hb dX1_addBehind_95 (by decide) ?_
          refine rb_icmp_eq (tgt := 115) hx hb h dX1_addBehind_96 (by decide) (fun h => ?_) (fun h => ?_)
          · exact J115 _ _ _ _ _ _ _ _ _ _ _ h hW hS (lv_sub hl [1, 2, 3, 4, 5, 6, 7, 8, 9] rfl)
          · refine lv_aload hx hb dX1_addBehind_99 (lv_at hl 7 rfl) ?_
            refine lv_iload hx hb dX1_addBehind_101 (lv_at hl 9 rfl) ?_
            refine lv_dup2_11 hx hb dX1_addBehind_103 rfl rfl ?_
            refine rw_lald hx hb hW LL_full h dX1_addBehind_104 (fun x17 h => ?_)
            refine lv_iload_n hx hb dX1_addBehind_105 rfl (lv_at hl 3 rfl) ?_
            refine lv_i2l (v := (v3.toInt64)) hx hb dX1_addBehind_106 rfl ?_
            refine lv_aload hx hb dX1_addBehind_107 (lv_at hl 8 rfl) ?_
            refine lv_iload hx hb dX1_addBehind_109 (lv_at hl 0 rfl) ?_
            refine rw_lald hx hb hW LL_full h dX1_addBehind_111 (fun x18 h => ?_)
            refine lv_lmul hx hb dX1_addBehind_112 ?_
            refine lv_ladd hx hb dX1_addBehind_113 ?_
            refine rw_last hx hb hW hS LL_full h dX1_addBehind_114 (fun w19 H locs h hW hS => ?_)
            exact J115 _ _ _ _ _ _ _ _ _ _ _ h hW hS (lv_sub hl [1, 2, 3, 4, 5, 6, 7, 8, 9] rfl)
        · refine lv_goto (tgt := 115) hx hb dX1_addBehind_78 (by decide) ?_
          exact J115 _ _ _ _ _ _ _ _ _ _ _ h hW hS (hl)
  unfold fX1_addBehind at h
  refine lv_aload_n hx hb dX1_addBehind_0 rfl (lv_at hl 0 rfl) ?_
  refine lv_iload_n hx hb dX1_addBehind_1 rfl (lv_at hl 1 rfl) ?_
  refine lv_iload_n hx hb dX1_addBehind_2 rfl (lv_at hl 2 rfl) ?_
  refine rc_Vi (k := 19) (As := [.int p1, .int p2]) (rest := []) S hW hS h (kX1_heightsOf l E p1 p2 w) (cwV 2 hts gX1_addBehind_X1_heightsOf rfl rfl rfl hdX1_heightsOf ⟨Nat.le_of_ble_eq_true rfl, Nat.le_of_ble_eq_true rfl⟩) (fl 19 rfl) rfl rfl rfl rfl hl.1 rfl (Nat.le_of_ble_eq_true rfl) ⟨Nat.zero_le _, Nat.zero_le _⟩ dX1_addBehind_3 (fun x1 w2 H locs h hW hS => ?_)
  refine rc_Si (As := [.int x1]) (rest := []) S hW hS h (kJ6_bitCount_0f7a4 l E x1 w2) (va_cwS 1 hts gX1_addBehind_J6_bitCount_0f7a4 rfl rfl rfl hdJ6_bitCount_0f7a4 ⟨Nat.le_of_ble_eq_true rfl, Nat.le_of_ble_eq_true rfl⟩) rfl hl.1 rfl (Nat.le_of_ble_eq_true rfl) ⟨Nat.zero_le _, Nat.zero_le _⟩ dX1_addBehind_6 (fun x3 w4 H locs h hW hS => ?_)
  refine lv_istore_n (lv' := [(3, .int x3), (0, .ref (E.2.1 19)), (1, .int p1), (2, .int p2)]) hx hb dX1_addBehind_9 rfl hl (by decide) rfl (fun ls hl => ?_)
  refine lv_iload_n hx hb dX1_addBehind_10 rfl (lv_at hl 0 rfl) ?_
  refine rb_if_ne (tgt := 15) hx hb h dX1_addBehind_11 (by decide) (fun h => ?_) (fun h => ?_)
  · refine lv_aload_n hx hb dX1_addBehind_15 rfl (lv_at hl 1 rfl) ?_
    refine lv_iload_n hx hb dX1_addBehind_16 rfl (lv_at hl 2 rfl) ?_
    refine lv_iload_n hx hb dX1_addBehind_17 rfl (lv_at hl 3 rfl) ?_
    refine rc_Vi (k := 19) (As := [.int p1, .int p2]) (rest := []) S hW hS h (kX1_linesMet l E p1 p2 w4) (cwV 2 hts gX1_addBehind_X1_linesMet rfl rfl rfl hdX1_linesMet ⟨Nat.le_of_ble_eq_true rfl, Nat.le_of_ble_eq_true rfl⟩) (fl 19 rfl) rfl rfl rfl rfl hl.1 rfl (Nat.le_of_ble_eq_true rfl) ⟨Nat.zero_le _, Nat.zero_le _⟩ dX1_addBehind_18 (fun x5 w6 H locs h hW hS => ?_)
    refine lv_istore (lv' := [(4, .int x5), (3, .int x3), (0, .ref (E.2.1 19)), (1, .int p1), (2, .int p2)]) hx hb dX1_addBehind_21 hl (by decide) rfl (fun ls hl => ?_)
    refine lv_aload_n hx hb dX1_addBehind_23 rfl (lv_at hl 2 rfl) ?_
    refine lv_iload_n hx hb dX1_addBehind_24 rfl (lv_at hl 3 rfl) ?_
    refine rc_Vi (k := 19) (As := [.int p1]) (rest := []) S hW hS h (kX1_endsRow l E p1 w6) (cwV 1 hts gX1_addBehind_X1_endsRow rfl rfl rfl hdX1_endsRow ⟨Nat.le_of_ble_eq_true rfl, Nat.le_of_ble_eq_true rfl⟩) (fl 19 rfl) rfl rfl rfl rfl hl.1 rfl (Nat.le_of_ble_eq_true rfl) ⟨Nat.zero_le _, Nat.zero_le _⟩ dX1_addBehind_25 (fun x7 w8 H locs h hW hS => ?_)
    refine lv_istore (lv' := [(5, .int x7), (4, .int x5), (3, .int x3), (0, .ref (E.2.1 19)), (1, .int p1), (2, .int p2)]) hx hb dX1_addBehind_28 hl (by decide) rfl (fun ls hl => ?_)
    refine lv_aload_n hx hb dX1_addBehind_30 rfl (lv_at hl 3 rfl) ?_
    refine rc_Vi (k := 19) (As := []) (rest := []) S hW hS h (kX1_states l E  w8) (cwV 0 hts gX1_addBehind_X1_states rfl rfl rfl hdX1_states ⟨Nat.le_of_ble_eq_true rfl, Nat.le_of_ble_eq_true rfl⟩) (fl 19 rfl) rfl rfl rfl rfl hl.1 rfl (Nat.le_of_ble_eq_true rfl) ⟨Nat.zero_le _, Nat.zero_le _⟩ dX1_addBehind_31 (fun x9 w10 H locs h hW hS => ?_)
    refine lv_istore (lv' := [(6, .int x9), (5, .int x7), (4, .int x5), (3, .int x3), (0, .ref (E.2.1 19)), (1, .int p1), (2, .int p2)]) hx hb dX1_addBehind_34 hl (by decide) rfl (fun ls hl => ?_)
    refine lv_aload_n hx hb dX1_addBehind_36 rfl (lv_at hl 4 rfl) ?_
    refine rw_get hx hb hts iX1 hown hW (fl 19 rfl) rfl rfl 6 (by decide) e26 rfl (v := .ref (E.2.1 50)) rfl dX1_addBehind_37 ?_
    refine lv_iload_n hx hb dX1_addBehind_40 rfl (lv_at hl 5 rfl) ?_
    refine rw_aaldL hx hb hW (fl 50 rfl) rfl h dX1_addBehind_41 (fun j11 h => ?_)
    refine lv_astore (lv' := [(7, .ref (E.2.1 (51 + j11))), (6, .int x9), (5, .int x7), (4, .int x5), (3, .int x3), (0, .ref (E.2.1 19)), (1, .int p1), (2, .int p2)]) hx hb dX1_addBehind_42 hl (by decide) rfl (fun ls hl => ?_)
    refine lv_aload_n hx hb dX1_addBehind_44 rfl (lv_at hl 5 rfl) ?_
    refine rw_get hx hb hts iX1 hown hW (fl 19 rfl) rfl rfl 6 (by decide) e26 rfl (v := .ref (E.2.1 50)) rfl dX1_addBehind_45 ?_
    refine lv_iload_n hx hb dX1_addBehind_48 rfl (lv_at hl 6 rfl) ?_
    refine lv_iconst (v := (1 : Int32)) hx hb dX1_addBehind_49 (by decide) ?_
    refine lv_iadd hx hb dX1_addBehind_50 ?_
    refine rw_aaldL hx hb hW (fl 50 rfl) rfl h dX1_addBehind_51 (fun j12 h => ?_)
    refine lv_astore (lv' := [(8, .ref (E.2.1 (51 + j12))), (7, .ref (E.2.1 (51 + j11))), (6, .int x9), (5, .int x7), (4, .int x5), (3, .int x3), (0, .ref (E.2.1 19)), (1, .int p1), (2, .int p2)]) hx hb dX1_addBehind_52 hl (by decide) rfl (fun ls hl => ?_)
    refine lv_iconst (v := (0 : Int32)) hx hb dX1_addBehind_54 (by decide) ?_
    refine lv_istore (lv' := [(9, .int (0 : Int32)), (8, .ref (E.2.1 (51 + j12))), (7, .ref (E.2.1 (51 + j11))), (6, .int x9), (5, .int x7), (4, .int x5), (3, .int x3), (0, .ref (E.2.1 19)), (1, .int p1), (2, .int p2)]) hx hb dX1_addBehind_55 hl (by decide) rfl (fun ls hl => ?_)
    exact J57 _ _ _ _ _ _ _ _ _ _ _ _ h hW hS (lv_sub hl [7, 8, 6, 5, 4, 3, 2, 1, 0] rfl)
  · exact rrV hQ hW hS h dX1_addBehind_14
noncomputable def bX1_countBehind_50 (k34 : Int32 → Wd → Option (Unit × Wd)) (k50 : Int32 → Int32 → Wd → Option (Unit × Wd)) (v2 : Int32) (v3 : Int32)  (w : Wd) : Option (Unit × Wd) :=
  if (4 : Int32) ≤ v3 then k34 (v2 + (-1 : Int32)) w else bnd (fX1_addBehind v2 v3 w) fun _ w11 => k50 v2 (v3 + (1 : Int32)) w11
noncomputable def bX1_countBehind_34 (k34 : Int32 → Wd → Option (Unit × Wd)) (v2 : Int32)  (w : Wd) : Option (Unit × Wd) :=
  if v2 < 0 then some ((), w) else (ixA 26 v2).bind fun j9 => bnd (fJ7_fill_d0a16 (51 + j9) (0 : Int64) w) fun _ w10 => lp (fun _ _ _ => none) (bX1_countBehind_50 k34) G v2 (0 : Int32) w10
noncomputable def fX1_countBehind  (w : Wd) : Option (Unit × Wd) :=
  bnd (fX2_cells w) fun x1 w2 => (ixA 26 x1).bind fun j3 => bnd (fJ7_fill_d0a16 (51 + j3) (0 : Int64) w2) fun _ w4 => (ixA 26 x1).bind fun j5 => bnd (fX1_allMet w4) fun x6 w7 => (sL w7 (51 + j5) x6 (1 : Int64)).bind fun w8 => lp (fun _ _ => none) (bX1_countBehind_34) G (x1 - (1 : Int32)) w8
abbrev rmX1_countBehind : Room := { frames := 3, cells := 0, slots := 0, locals := 73 }
set_option maxHeartbeats 4000000 in
set_option maxRecDepth 100000 in
theorem kX1_countBehind (l : Launch) (E : Ev)  (w : Wd) (q : Unit × Wd) (h : fX1_countBehind w = some q) : CtV l yX1_countBehind wsX1_countBehind rmX1_countBehind E full [.ref (E.2.1 19)] w q := by
  refine mkV (cc := cX1_countBehind) (maxL := 4) (by decide) rfl (Nat.le_of_ble_eq_true rfl) ?_
  intro p e s m args below meth c Q S hW hQ ls hl
  obtain ⟨hx, hb, hml, hown, hts⟩ := id S
  have hW0 := hW
  have hS : va_S (wA E full) s.heap s.heap [] := va_S.rf
  have hl : lv_has ls 4 [(0, .ref (E.2.1 19))] := hl
  have iX1 : ∀ w ∈ wsX10, w ∈ wsX1_countBehind := by decide +kernel
  have e26 := hts (.fieldLink RX1 26 "CubeHeaps$Fitting" "behind" "[[J") (by decide +kernel)
  have e39 := hts (.fieldLink RX1 39 "CubeHeaps$Fitting" "ground" "LCubeHeaps$Ground;") (by decide +kernel)
  have J34 : ∀ (n : Nat) (v2 : Int32) (w : Wd) (H : Heap) (locs : List Loc) (ls : Array Slot), lp (fun _ _ => none) (bX1_countBehind_34) n v2 w = some q → World E full w s H → va_S (wA E full) s.heap H locs → lv_has ls 4 [(0, .ref (E.2.1 19)), (2, .int v2)] → W p l e rmX1_countBehind s m args below meth c H locs 0 0 Q (F0 m 34 ls []) := by
    intro n
    induction n with
    | zero =>
      intro v2 w H locs ls h hW hS hl
      exact absurd (show (none : Option (Unit × Wd)) = some q from h) (fun z => by cases z)
    | succ n ih34 =>
      intro v2 w H locs ls h hW hS hl
      have h : bX1_countBehind_34 (lp (fun _ _ => none) (bX1_countBehind_34) n) v2 w = some q := h
      generalize lp (fun _ _ => none) (bX1_countBehind_34) n = k34 at h ih34
      have J50 : ∀ (n : Nat) (v2 : Int32) (v3 : Int32) (w : Wd) (H : Heap) (locs : List Loc) (ls : Array Slot), lp (fun _ _ _ => none) (bX1_countBehind_50 k34) n v2 v3 w = some q → World E full w s H → va_S (wA E full) s.heap H locs → lv_has ls 4 [(0, .ref (E.2.1 19)), (2, .int v2), (3, .int v3)] → W p l e rmX1_countBehind s m args below meth c H locs 0 0 Q (F0 m 50 ls []) := by
        intro n
        induction n with
        | zero =>
          intro v2 v3 w H locs ls h hW hS hl
          exact absurd (show (none : Option (Unit × Wd)) = some q from h) (fun z => by cases z)
        | succ n ih50 =>
          intro v2 v3 w H locs ls h hW hS hl
          have h : bX1_countBehind_50 k34 (lp (fun _ _ _ => none) (bX1_countBehind_50 k34) n) v2 v3 w = some q := h
          generalize lp (fun _ _ _ => none) (bX1_countBehind_50 k34) n = k50 at h ih50
          unfold bX1_countBehind_50 at h
          refine lv_iload_n hx hb dX1_countBehind_50 rfl (lv_at hl 2 rfl) ?_
          refine lv_iconst (v := (4 : Int32)) hx hb dX1_countBehind_51 (by decide) ?_
          refine rb_icmp_ge (tgt := 67) hx hb h dX1_countBehind_52 (by decide) (fun h => ?_) (fun h => ?_)
          · refine lv_iinc (v := (v2 + (-1 : Int32))) (lv' := [(2, .int (v2 + (-1 : Int32))), (0, .ref (E.2.1 19)), (3, .int v3)]) hx hb dX1_countBehind_67 hl (k := 1) rfl rfl (by decide) rfl (fun ls hl => ?_)
            refine lv_goto (tgt := 34) hx hb dX1_countBehind_70 (by decide) ?_
            exact ih34 _ _ _ _ _ h hW hS (lv_sub hl [1, 0] rfl)
          · refine lv_aload_n hx hb dX1_countBehind_55 rfl (lv_at hl 0 rfl) ?_
            refine lv_iload_n hx hb dX1_countBehind_56 rfl (lv_at hl 1 rfl) ?_
            refine lv_iload_n hx hb dX1_countBehind_57 rfl (lv_at hl 2 rfl) ?_
            refine rc_Vv (k := 19) (As := [.int v2, .int v3]) (rest := []) S hW hS h (kX1_addBehind l E v2 v3 w) (cwV 2 hts gX1_countBehind_X1_addBehind rfl rfl rfl hdX1_addBehind ⟨Nat.le_of_ble_eq_true rfl, Nat.le_of_ble_eq_true rfl⟩) (fl 19 rfl) rfl rfl rfl rfl hl.1 rfl (Nat.le_of_ble_eq_true rfl) ⟨Nat.zero_le _, Nat.zero_le _⟩ dX1_countBehind_58 (fun _ w11 H locs h hW hS => ?_)
            refine lv_iinc (v := (v3 + (1 : Int32))) (lv' := [(3, .int (v3 + (1 : Int32))), (0, .ref (E.2.1 19)), (2, .int v2)]) hx hb dX1_countBehind_61 hl (k := 2) rfl rfl (by decide) rfl (fun ls hl => ?_)
            refine lv_goto (tgt := 50) hx hb dX1_countBehind_64 (by decide) ?_
            exact ih50 _ _ _ _ _ _ h hW hS (lv_sub hl [1, 2, 0] rfl)
      unfold bX1_countBehind_34 at h
      refine lv_iload_n hx hb dX1_countBehind_34 rfl (lv_at hl 1 rfl) ?_
      refine rb_if_lt (tgt := 73) hx hb h dX1_countBehind_35 (by decide) (fun h => ?_) (fun h => ?_)
      · exact rrV hQ hW hS h dX1_countBehind_73
      · refine lv_aload_n hx hb dX1_countBehind_38 rfl (lv_at hl 0 rfl) ?_
        refine rw_get hx hb hts iX1 hown hW (fl 19 rfl) rfl rfl 6 (by decide) e26 rfl (v := .ref (E.2.1 50)) rfl dX1_countBehind_39 ?_
        refine lv_iload_n hx hb dX1_countBehind_42 rfl (lv_at hl 1 rfl) ?_
        refine rw_aaldL hx hb hW (fl 50 rfl) rfl h dX1_countBehind_43 (fun j9 h => ?_)
        refine lv_lconst (v := (0 : Int64)) hx hb dX1_countBehind_44 (by decide) ?_
        refine rc_Sv (As := [.ref (E.2.1 (51 + j9)), .long (0 : Int64)]) (rest := []) S hW hS h (kJ7_fill_d0a16 l E (51 + j9) (0 : Int64) w) (va_cwS 2 hts gX1_countBehind_J7_fill_d0a16 rfl rfl rfl hdJ7_fill_d0a16 ⟨Nat.le_of_ble_eq_true rfl, Nat.le_of_ble_eq_true rfl⟩) rfl hl.1 rfl (Nat.le_of_ble_eq_true rfl) ⟨Nat.zero_le _, Nat.zero_le _⟩ dX1_countBehind_45 (fun _ w10 H locs h hW hS => ?_)
        refine lv_iconst (v := (0 : Int32)) hx hb dX1_countBehind_48 (by decide) ?_
        refine lv_istore_n (lv' := [(3, .int (0 : Int32)), (0, .ref (E.2.1 19)), (2, .int v2)]) hx hb dX1_countBehind_49 rfl hl (by decide) rfl (fun ls hl => ?_)
        exact J50 _ _ _ _ _ _ _ h hW hS (lv_sub hl [1, 2, 0] rfl)
  unfold fX1_countBehind at h
  refine lv_aload_n hx hb dX1_countBehind_0 rfl (lv_at hl 0 rfl) ?_
  refine rw_get hx hb hts iX1 hown hW (fl 19 rfl) rfl rfl 0 (by decide) e39 rfl (v := .ref (E.2.1 1)) rfl dX1_countBehind_1 ?_
  refine rc_Vi (k := 1) (As := []) (rest := []) S hW hS h (kX2_cells l E  w) (cwV 0 hts gX1_countBehind_X2_cells rfl rfl rfl hdX2_cells ⟨Nat.le_of_ble_eq_true rfl, Nat.le_of_ble_eq_true rfl⟩) (fl 1 rfl) rfl rfl rfl rfl hl.1 rfl (Nat.le_of_ble_eq_true rfl) ⟨Nat.zero_le _, Nat.zero_le _⟩ dX1_countBehind_4 (fun x1 w2 H locs h hW hS => ?_)
  refine lv_istore_n (lv' := [(1, .int x1), (0, .ref (E.2.1 19))]) hx hb dX1_countBehind_7 rfl hl (by decide) rfl (fun ls hl => ?_)
  refine lv_aload_n hx hb dX1_countBehind_8 rfl (lv_at hl 1 rfl) ?_
  refine rw_get hx hb hts iX1 hown hW (fl 19 rfl) rfl rfl 6 (by decide) e26 rfl (v := .ref (E.2.1 50)) rfl dX1_countBehind_9 ?_
  refine lv_iload_n hx hb dX1_countBehind_12 rfl (lv_at hl 0 rfl) ?_
  refine rw_aaldL hx hb hW (fl 50 rfl) rfl h dX1_countBehind_13 (fun j3 h => ?_)
  refine lv_lconst (v := (0 : Int64)) hx hb dX1_countBehind_14 (by decide) ?_
  refine rc_Sv (As := [.ref (E.2.1 (51 + j3)), .long (0 : Int64)]) (rest := []) S hW hS h (kJ7_fill_d0a16 l E (51 + j3) (0 : Int64) w2) (va_cwS 2 hts gX1_countBehind_J7_fill_d0a16 rfl rfl rfl hdJ7_fill_d0a16 ⟨Nat.le_of_ble_eq_true rfl, Nat.le_of_ble_eq_true rfl⟩) rfl hl.1 rfl (Nat.le_of_ble_eq_true rfl) ⟨Nat.zero_le _, Nat.zero_le _⟩ dX1_countBehind_15 (fun _ w4 H locs h hW hS => ?_)
  refine lv_aload_n hx hb dX1_countBehind_18 rfl (lv_at hl 1 rfl) ?_
  refine rw_get hx hb hts iX1 hown hW (fl 19 rfl) rfl rfl 6 (by decide) e26 rfl (v := .ref (E.2.1 50)) rfl dX1_countBehind_19 ?_
  refine lv_iload_n hx hb dX1_countBehind_22 rfl (lv_at hl 0 rfl) ?_
  refine rw_aaldL hx hb hW (fl 50 rfl) rfl h dX1_countBehind_23 (fun j5 h => ?_)
  refine lv_aload_n hx hb dX1_countBehind_24 rfl (lv_at hl 1 rfl) ?_
  refine rc_Vi (k := 19) (As := []) (rest := [.ref (E.2.1 (51 + j5))]) S hW hS h (kX1_allMet l E  w4) (cwV 0 hts gX1_countBehind_X1_allMet rfl rfl rfl hdX1_allMet ⟨Nat.le_of_ble_eq_true rfl, Nat.le_of_ble_eq_true rfl⟩) (fl 19 rfl) rfl rfl rfl rfl hl.1 rfl (Nat.le_of_ble_eq_true rfl) ⟨Nat.zero_le _, Nat.zero_le _⟩ dX1_countBehind_25 (fun x6 w7 H locs h hW hS => ?_)
  refine lv_lconst (v := (1 : Int64)) hx hb dX1_countBehind_28 (by decide) ?_
  refine rw_last hx hb hW hS LL_full h dX1_countBehind_29 (fun w8 H locs h hW hS => ?_)
  refine lv_iload_n hx hb dX1_countBehind_30 rfl (lv_at hl 0 rfl) ?_
  refine lv_iconst (v := (1 : Int32)) hx hb dX1_countBehind_31 (by decide) ?_
  refine lv_isub hx hb dX1_countBehind_32 ?_
  refine lv_istore_n (lv' := [(2, .int (x1 - (1 : Int32))), (1, .int x1), (0, .ref (E.2.1 19))]) hx hb dX1_countBehind_33 rfl hl (by decide) rfl (fun ls hl => ?_)
  exact J34 _ _ _ _ _ _ h hW hS (lv_sub hl [2, 0] rfl)
noncomputable def fX1_refresh  (w : Wd) : Option (Unit × Wd) :=
  bnd (fX5_version w) fun x1 w2 => if (w.1 19 9) = x1 then some ((), w2) else bnd (fX5_version w2) fun x3 w4 => bnd (fX1_readTold (uI w4 19 9 x3)) fun _ w5 => bnd (fX1_countBefore w5) fun _ w6 => bnd (fX1_countBehind w6) fun _ w7 => some ((), w7)
abbrev rmX1_refresh : Room := { frames := 4, cells := 0, slots := 0, locals := 96 }
set_option maxHeartbeats 4000000 in
set_option maxRecDepth 100000 in
theorem kX1_refresh (l : Launch) (E : Ev)  (w : Wd) (q : Unit × Wd) (h : fX1_refresh w = some q) : CtV l yX1_refresh wsX1_refresh rmX1_refresh E full [.ref (E.2.1 19)] w q := by
  refine mkV (cc := cX1_refresh) (maxL := 1) (by decide) rfl (Nat.le_of_ble_eq_true rfl) ?_
  intro p e s m args below meth c Q S hW hQ ls hl
  obtain ⟨hx, hb, hml, hown, hts⟩ := id S
  have hW0 := hW
  have hS : va_S (wA E full) s.heap s.heap [] := va_S.rf
  have hl : lv_has ls 1 [(0, .ref (E.2.1 19))] := hl
  have iX1 : ∀ w ∈ wsX10, w ∈ wsX1_refresh := by decide +kernel
  have e35 := hts (.fieldLink RX1 35 "CubeHeaps$Fitting" "version" "I") (by decide +kernel)
  have e43 := hts (.fieldLink RX1 43 "CubeHeaps$Fitting" "told" "LCubeHeaps$Told;") (by decide +kernel)
  unfold fX1_refresh at h
  refine lv_aload_n hx hb dX1_refresh_0 rfl (lv_at hl 0 rfl) ?_
  refine rw_get hx hb hts iX1 hown hW (fl 19 rfl) rfl rfl 9 (by decide) e35 rfl (v := .int (w.1 19 9)) rfl dX1_refresh_1 ?_
  refine lv_aload_n hx hb dX1_refresh_4 rfl (lv_at hl 0 rfl) ?_
  refine rw_get hx hb hts iX1 hown hW (fl 19 rfl) rfl rfl 1 (by decide) e43 rfl (v := .ref (E.2.1 14)) rfl dX1_refresh_5 ?_
  refine rc_Vi (k := 14) (As := []) (rest := [.int (w.1 19 9)]) S hW hS h (kX5_version l E  w) (cwV 0 hts gX1_refresh_X5_version rfl rfl rfl hdX5_version ⟨Nat.le_of_ble_eq_true rfl, Nat.le_of_ble_eq_true rfl⟩) (fl 14 rfl) rfl rfl rfl rfl hl.1 rfl (Nat.le_of_ble_eq_true rfl) ⟨Nat.zero_le _, Nat.zero_le _⟩ dX1_refresh_8 (fun x1 w2 H locs h hW hS => ?_)
  refine rb_icmp_ne (tgt := 15) hx hb h dX1_refresh_11 (by decide) (fun h => ?_) (fun h => ?_)
  · refine lv_aload_n hx hb dX1_refresh_15 rfl (lv_at hl 0 rfl) ?_
    refine lv_aload_n hx hb dX1_refresh_16 rfl (lv_at hl 0 rfl) ?_
    refine rw_get hx hb hts iX1 hown hW (fl 19 rfl) rfl rfl 1 (by decide) e43 rfl (v := .ref (E.2.1 14)) rfl dX1_refresh_17 ?_
    refine rc_Vi (k := 14) (As := []) (rest := [.ref (E.2.1 19)]) S hW hS h (kX5_version l E  w2) (cwV 0 hts gX1_refresh_X5_version rfl rfl rfl hdX5_version ⟨Nat.le_of_ble_eq_true rfl, Nat.le_of_ble_eq_true rfl⟩) (fl 14 rfl) rfl rfl rfl rfl hl.1 rfl (Nat.le_of_ble_eq_true rfl) ⟨Nat.zero_le _, Nat.zero_le _⟩ dX1_refresh_20 (fun x3 w4 H locs h hW hS => ?_)
    refine rw_put hx hb hts iX1 tyX1_ok nmX1 hown hW hS (fl 19 rfl) rfl rfl 9 (by decide) e35 rfl 9 x3 (L := [.ref (E.2.1 1), .ref (E.2.1 14), .ref (E.2.1 20), .ref (E.2.1 21), .ref (E.2.1 22), .ref (E.2.1 23), .ref (E.2.1 50), .ref (E.2.1 (rl (w4.1 19 7))), .ref (E.2.1 (rl (w4.1 19 8))), .int x3]) rfl rfl rfl rfl (by decide) dX1_refresh_23 (fun H locs hW hS => ?_)
    refine lv_aload_n hx hb dX1_refresh_26 rfl (lv_at hl 0 rfl) ?_
    refine rc_Vv (k := 19) (As := []) (rest := []) S hW hS h (kX1_readTold l E  (uI w4 19 9 x3)) (cwV 0 hts gX1_refresh_X1_readTold rfl rfl rfl hdX1_readTold ⟨Nat.le_of_ble_eq_true rfl, Nat.le_of_ble_eq_true rfl⟩) (fl 19 rfl) rfl rfl rfl rfl hl.1 rfl (Nat.le_of_ble_eq_true rfl) ⟨Nat.zero_le _, Nat.zero_le _⟩ dX1_refresh_27 (fun _ w5 H locs h hW hS => ?_)
    refine lv_aload_n hx hb dX1_refresh_30 rfl (lv_at hl 0 rfl) ?_
    refine rc_Vv (k := 19) (As := []) (rest := []) S hW hS h (kX1_countBefore l E  w5) (cwV 0 hts gX1_refresh_X1_countBefore rfl rfl rfl hdX1_countBefore ⟨Nat.le_of_ble_eq_true rfl, Nat.le_of_ble_eq_true rfl⟩) (fl 19 rfl) rfl rfl rfl rfl hl.1 rfl (Nat.le_of_ble_eq_true rfl) ⟨Nat.zero_le _, Nat.zero_le _⟩ dX1_refresh_31 (fun _ w6 H locs h hW hS => ?_)
    refine lv_aload_n hx hb dX1_refresh_34 rfl (lv_at hl 0 rfl) ?_
    refine rc_Vv (k := 19) (As := []) (rest := []) S hW hS h (kX1_countBehind l E  w6) (cwV 0 hts gX1_refresh_X1_countBehind rfl rfl rfl hdX1_countBehind ⟨Nat.le_of_ble_eq_true rfl, Nat.le_of_ble_eq_true rfl⟩) (fl 19 rfl) rfl rfl rfl rfl hl.1 rfl (Nat.le_of_ble_eq_true rfl) ⟨Nat.zero_le _, Nat.zero_le _⟩ dX1_refresh_35 (fun _ w7 H locs h hW hS => ?_)
    exact rrV hQ hW hS h dX1_refresh_38
  · exact rrV hQ hW hS h dX1_refresh_14
noncomputable def fX1_all  (w : Wd) : Option (Int64 × Wd) :=
  (ixA 26 (0 : Int32)).bind fun j1 => (gL w (51 + j1) (0 : Int32)).bind fun x2 => some (x2, w)
abbrev rmX1_all : Room := { frames := 0, cells := 0, slots := 0, locals := 0 }
set_option maxHeartbeats 4000000 in
set_option maxRecDepth 100000 in
theorem kX1_all (l : Launch) (E : Ev)  (w : Wd) (q : Int64 × Wd) (h : fX1_all w = some q) : CtL l yX1_all wsX1_all rmX1_all E full [.ref (E.2.1 19)] w q := by
  refine mkL (cc := cX1_all) (maxL := 1) (by decide) rfl (Nat.le_of_ble_eq_true rfl) ?_
  intro p e s m args below meth c Q S hW hQ ls hl
  obtain ⟨hx, hb, hml, hown, hts⟩ := id S
  have hW0 := hW
  have hS : va_S (wA E full) s.heap s.heap [] := va_S.rf
  have hl : lv_has ls 1 [(0, .ref (E.2.1 19))] := hl
  have iX1 : ∀ w ∈ wsX10, w ∈ wsX1_all := by decide +kernel
  have e26 := hts (.fieldLink RX1 26 "CubeHeaps$Fitting" "behind" "[[J") (by decide +kernel)
  unfold fX1_all at h
  refine lv_aload_n hx hb dX1_all_0 rfl (lv_at hl 0 rfl) ?_
  refine rw_get hx hb hts iX1 hown hW (fl 19 rfl) rfl rfl 6 (by decide) e26 rfl (v := .ref (E.2.1 50)) rfl dX1_all_1 ?_
  refine lv_iconst (v := (0 : Int32)) hx hb dX1_all_4 (by decide) ?_
  refine rw_aaldL hx hb hW (fl 50 rfl) rfl h dX1_all_5 (fun j1 h => ?_)
  refine lv_iconst (v := (0 : Int32)) hx hb dX1_all_6 (by decide) ?_
  refine rw_lald hx hb hW LL_full h dX1_all_7 (fun x2 h => ?_)
  exact rrL hQ hW hS h dX1_all_8
noncomputable def fX1_has (p0 : Int32) (p1 : Int32) (w : Wd) : Option (Int32 × Wd) :=
  if ((p0 >>> (p1 &&& 31)) &&& (1 : Int32)) = 0 then zr (0 : Int32) w else zr (1 : Int32) w
abbrev rmX1_has : Room := { frames := 0, cells := 0, slots := 0, locals := 0 }
set_option maxHeartbeats 4000000 in
set_option maxRecDepth 100000 in
theorem kX1_has (l : Launch) (E : Ev) (p0 : Int32) (p1 : Int32) (w : Wd) (q : Int32 × Wd) (h : fX1_has p0 p1 w = some q) : CtI l yX1_has wsX1_has rmX1_has E full [.int p0, .int p1] w q := by
  refine mkZ (cc := cX1_has) (maxL := 2) (by decide) rfl (Nat.le_of_ble_eq_true rfl) ?_
  intro p e s m args below meth c Q S hW hQ ls hl
  obtain ⟨hx, hb, hml, hown, hts⟩ := id S
  have hW0 := hW
  have hS : va_S (wA E full) s.heap s.heap [] := va_S.rf
  have hl : lv_has ls 2 [(0, .int p0), (1, .int p1)] := hl
  unfold fX1_has at h
  refine lv_iload_n hx hb dX1_has_0 rfl (lv_at hl 0 rfl) ?_
  refine lv_iload_n hx hb dX1_has_1 rfl (lv_at hl 1 rfl) ?_
  refine lv_ishr hx hb dX1_has_2 ?_
  refine lv_iconst (v := (1 : Int32)) hx hb dX1_has_3 (by decide) ?_
  refine lv_iand hx hb dX1_has_4 ?_
  refine rb_if_eq (tgt := 12) hx hb h dX1_has_5 (by decide) (fun h => ?_) (fun h => ?_)
  · refine lv_iconst (v := (0 : Int32)) hx hb dX1_has_12 (by decide) ?_
    exact rrZ hQ hW hS h dX1_has_13
  · refine lv_iconst (v := (1 : Int32)) hx hb dX1_has_8 (by decide) ?_
    refine lv_goto (tgt := 13) hx hb dX1_has_9 (by decide) ?_
    exact rrZ hQ hW hS h dX1_has_13
noncomputable def jX1_kindOf_36 (p1 : Int32) (p2 : Int32) (s0 : Int32) (s1 : Int32)  (w : Wd) : Option (Int32 × Wd) :=
  some ((s1 ||| s0), w)
noncomputable def jX1_kindOf_18 (p1 : Int32) (p2 : Int32) (s0 : Int32)  (w : Wd) : Option (Int32 × Wd) :=
  (gI w 22 p1).bind fun x4 => bnd (fX1_has x4 p2 w) fun x5 w6 => if x5 = 0 then jX1_kindOf_36 p1 p2 (0 : Int32) s0 w6 else jX1_kindOf_36 p1 p2 (2 : Int32) s0 w6
noncomputable def fX1_kindOf (p1 : Int32) (p2 : Int32) (w : Wd) : Option (Int32 × Wd) :=
  (gI w 21 p1).bind fun x1 => bnd (fX1_has x1 p2 w) fun x2 w3 => if x2 = 0 then jX1_kindOf_18 p1 p2 (0 : Int32) w3 else jX1_kindOf_18 p1 p2 (1 : Int32) w3
abbrev rmX1_kindOf : Room := { frames := 1, cells := 0, slots := 0, locals := 21 }
set_option maxHeartbeats 4000000 in
set_option maxRecDepth 100000 in
theorem kX1_kindOf (l : Launch) (E : Ev) (p1 : Int32) (p2 : Int32) (w : Wd) (q : Int32 × Wd) (h : fX1_kindOf p1 p2 w = some q) : CtI l yX1_kindOf wsX1_kindOf rmX1_kindOf E full [.ref (E.2.1 19), .int p1, .int p2] w q := by
  refine mkI (cc := cX1_kindOf) (maxL := 3) (by decide) rfl (Nat.le_of_ble_eq_true rfl) ?_
  intro p e s m args below meth c Q S hW hQ ls hl
  obtain ⟨hx, hb, hml, hown, hts⟩ := id S
  have hW0 := hW
  have hS : va_S (wA E full) s.heap s.heap [] := va_S.rf
  have hl : lv_has ls 3 [(0, .ref (E.2.1 19)), (1, .int p1), (2, .int p2)] := hl
  have iX1 : ∀ w ∈ wsX10, w ∈ wsX1_kindOf := by decide +kernel
  have e15 := hts (.fieldLink RX1 15 "CubeHeaps$Fitting" "columnMeeting" "[I") (by decide +kernel)
  have e18 := hts (.fieldLink RX1 18 "CubeHeaps$Fitting" "rowMeeting" "[I") (by decide +kernel)
  have J36 : ∀ (s0 : Int32) (s1 : Int32) (w : Wd) (H : Heap) (locs : List Loc) (ls : Array Slot), jX1_kindOf_36 p1 p2 s0 s1 w = some q → World E full w s H → va_S (wA E full) s.heap H locs → lv_has ls 3 [] → W p l e rmX1_kindOf s m args below meth c H locs 0 0 Q (F0 m 36 ls [.int s0, .int s1]) := by
    intro s0 s1 w H locs ls h hW hS hl
    unfold jX1_kindOf_36 at h
    refine lv_ior hx hb dX1_kindOf_36 ?_
    exact rrI hQ hW hS h dX1_kindOf_37
  have J18 : ∀ (s0 : Int32) (w : Wd) (H : Heap) (locs : List Loc) (ls : Array Slot), jX1_kindOf_18 p1 p2 s0 w = some q → World E full w s H → va_S (wA E full) s.heap H locs → lv_has ls 3 [(0, .ref (E.2.1 19)), (1, .int p1), (2, .int p2)] → W p l e rmX1_kindOf s m args below meth c H locs 0 0 Q (F0 m 18 ls [.int s0]) := by
    intro s0 w H locs ls h hW hS hl
    unfold jX1_kindOf_18 at h
    refine lv_aload_n hx hb dX1_kindOf_18 rfl (lv_at hl 0 rfl) ?_
    refine rw_get hx hb hts iX1 hown hW (fl 19 rfl) rfl rfl 4 (by decide) e18 rfl (v := .ref (E.2.1 22)) rfl dX1_kindOf_19 ?_
    refine lv_iload_n hx hb dX1_kindOf_22 rfl (lv_at hl 1 rfl) ?_
    refine rw_iald hx hb hW (fun _ => (fl 22 rfl)) h dX1_kindOf_23 (fun x4 h => ?_)
    refine lv_iload_n hx hb dX1_kindOf_24 rfl (lv_at hl 2 rfl) ?_
    refine rc_Si (As := [.int x4, .int p2]) (rest := [.int s0]) S hW hS h (kX1_has l E x4 p2 w) (va_cwS 2 hts gX1_kindOf_X1_has rfl rfl rfl hdX1_has ⟨Nat.le_of_ble_eq_true rfl, Nat.le_of_ble_eq_true rfl⟩) rfl hl.1 rfl (Nat.le_of_ble_eq_true rfl) ⟨Nat.zero_le _, Nat.zero_le _⟩ dX1_kindOf_25 (fun x5 w6 H locs h hW hS => ?_)
    refine rb_if_eq (tgt := 35) hx hb h dX1_kindOf_28 (by decide) (fun h => ?_) (fun h => ?_)
    · refine lv_iconst (v := (0 : Int32)) hx hb dX1_kindOf_35 (by decide) ?_
      exact J36 _ _ _ _ _ _ h hW hS (lv_sub hl [] rfl)
    · refine lv_iconst (v := (2 : Int32)) hx hb dX1_kindOf_31 (by decide) ?_
      refine lv_goto (tgt := 36) hx hb dX1_kindOf_32 (by decide) ?_
      exact J36 _ _ _ _ _ _ h hW hS (lv_sub hl [] rfl)
  unfold fX1_kindOf at h
  refine lv_aload_n hx hb dX1_kindOf_0 rfl (lv_at hl 0 rfl) ?_
  refine rw_get hx hb hts iX1 hown hW (fl 19 rfl) rfl rfl 3 (by decide) e15 rfl (v := .ref (E.2.1 21)) rfl dX1_kindOf_1 ?_
  refine lv_iload_n hx hb dX1_kindOf_4 rfl (lv_at hl 1 rfl) ?_
  refine rw_iald hx hb hW (fun _ => (fl 21 rfl)) h dX1_kindOf_5 (fun x1 h => ?_)
  refine lv_iload_n hx hb dX1_kindOf_6 rfl (lv_at hl 2 rfl) ?_
  refine rc_Si (As := [.int x1, .int p2]) (rest := []) S hW hS h (kX1_has l E x1 p2 w) (va_cwS 2 hts gX1_kindOf_X1_has rfl rfl rfl hdX1_has ⟨Nat.le_of_ble_eq_true rfl, Nat.le_of_ble_eq_true rfl⟩) rfl hl.1 rfl (Nat.le_of_ble_eq_true rfl) ⟨Nat.zero_le _, Nat.zero_le _⟩ dX1_kindOf_7 (fun x2 w3 H locs h hW hS => ?_)
  refine rb_if_eq (tgt := 17) hx hb h dX1_kindOf_10 (by decide) (fun h => ?_) (fun h => ?_)
  · refine lv_iconst (v := (0 : Int32)) hx hb dX1_kindOf_17 (by decide) ?_
    exact J18 _ _ _ _ _ h hW hS (hl)
  · refine lv_iconst (v := (1 : Int32)) hx hb dX1_kindOf_13 (by decide) ?_
    refine lv_goto (tgt := 18) hx hb dX1_kindOf_14 (by decide) ?_
    exact J18 _ _ _ _ _ h hW hS (hl)
noncomputable def jX1_having_113 (p1 : Int32) (p2 : Int32) (k46 : Int32 → Int32 → Int32 → Int64 → Int32 → Wd → Option (Int64 × Wd)) (v3 : Int32) (v4 : Int32) (v5 : Int32) (v6 : Int64) (v8 : Int32)  (w : Wd) : Option (Int64 × Wd) :=
  k46 v3 v4 v5 v6 (v8 + (1 : Int32)) w
noncomputable def bX1_having_46 (p1 : Int32) (p2 : Int32) (k46 : Int32 → Int32 → Int32 → Int64 → Int32 → Wd → Option (Int64 × Wd)) (v3 : Int32) (v4 : Int32) (v5 : Int32) (v6 : Int64) (v8 : Int32)  (w : Wd) : Option (Int64 × Wd) :=
  if v5 ≤ v8 then some (v6, w) else (ixA 26 p1).bind fun j12 => (gL w (24 + j12) v8).bind fun x13 => if x13 = (0 : Int64) then jX1_having_113 p1 p2 k46 v3 v4 v5 v6 v8 w else bnd (fX1_after (v8 ||| v3) v4 w) fun x14 w15 => if x14 = (-1 : Int32) then jX1_having_113 p1 p2 k46 v3 v4 v5 v6 v8 w15 else (ixA 26 p1).bind fun j16 => (gL w15 (24 + j16) v8).bind fun x17 => (ixA 26 (p1 + (1 : Int32))).bind fun j18 => (gL w15 (51 + j18) x14).bind fun x19 => jX1_having_113 p1 p2 k46 v3 v4 v5 (v6 + (x17 * x19)) v8 w15
noncomputable def fX1_having (p1 : Int32) (p2 : Int32) (w : Wd) : Option (Int64 × Wd) :=
  (gI w 20 p1).bind fun x1 => bnd (fX1_has x1 p2 w) fun x2 w3 => if x2 = 0 then some ((0 : Int64), w3) else bnd (fX1_kindOf p1 p2 w3) fun x4 w5 => bnd (fX1_linesMet p1 x4 w5) fun x6 w7 => bnd (fX1_endsRow p1 w7) fun x8 w9 => bnd (fX1_states w9) fun x10 w11 => lp (fun _ _ _ _ _ _ => none) (bX1_having_46 p1 p2) G x6 x8 x10 (0 : Int64) (0 : Int32) w11
abbrev rmX1_having : Room := { frames := 2, cells := 0, slots := 0, locals := 43 }
set_option maxHeartbeats 4000000 in
set_option maxRecDepth 100000 in
theorem kX1_having (l : Launch) (E : Ev) (p1 : Int32) (p2 : Int32) (w : Wd) (q : Int64 × Wd) (h : fX1_having p1 p2 w = some q) : CtL l yX1_having wsX1_having rmX1_having E full [.ref (E.2.1 19), .int p1, .int p2] w q := by
  refine mkL (cc := cX1_having) (maxL := 10) (by decide) rfl (Nat.le_of_ble_eq_true rfl) ?_
  intro p e s m args below meth c Q S hW hQ ls hl
  obtain ⟨hx, hb, hml, hown, hts⟩ := id S
  have hW0 := hW
  have hS : va_S (wA E full) s.heap s.heap [] := va_S.rf
  have hl : lv_has ls 10 [(0, .ref (E.2.1 19)), (1, .int p1), (2, .int p2)] := hl
  have iX1 : ∀ w ∈ wsX10, w ∈ wsX1_having := by decide +kernel
  have e9 := hts (.fieldLink RX1 9 "CubeHeaps$Fitting" "allowed" "[I") (by decide +kernel)
  have e23 := hts (.fieldLink RX1 23 "CubeHeaps$Fitting" "before" "[[J") (by decide +kernel)
  have e26 := hts (.fieldLink RX1 26 "CubeHeaps$Fitting" "behind" "[[J") (by decide +kernel)
  have J46 : ∀ (n : Nat) (v3 : Int32) (v4 : Int32) (v5 : Int32) (v6 : Int64) (v8 : Int32) (w : Wd) (H : Heap) (locs : List Loc) (ls : Array Slot), lp (fun _ _ _ _ _ _ => none) (bX1_having_46 p1 p2) n v3 v4 v5 v6 v8 w = some q → World E full w s H → va_S (wA E full) s.heap H locs → lv_has ls 10 [(0, .ref (E.2.1 19)), (1, .int p1), (3, .int v3), (4, .int v4), (5, .int v5), (6, .long v6), (8, .int v8)] → W p l e rmX1_having s m args below meth c H locs 0 0 Q (F0 m 46 ls []) := by
    intro n
    induction n with
    | zero =>
      intro v3 v4 v5 v6 v8 w H locs ls h hW hS hl
      exact absurd (show (none : Option (Int64 × Wd)) = some q from h) (fun z => by cases z)
    | succ n ih46 =>
      intro v3 v4 v5 v6 v8 w H locs ls h hW hS hl
      have h : bX1_having_46 p1 p2 (lp (fun _ _ _ _ _ _ => none) (bX1_having_46 p1 p2) n) v3 v4 v5 v6 v8 w = some q := h
      generalize lp (fun _ _ _ _ _ _ => none) (bX1_having_46 p1 p2) n = k46 at h ih46
      have J113 : ∀ (v3 : Int32) (v4 : Int32) (v5 : Int32) (v6 : Int64) (v8 : Int32) (w : Wd) (H : Heap) (locs : List Loc) (ls : Array Slot), jX1_having_113 p1 p2 k46 v3 v4 v5 v6 v8 w = some q → World E full w s H → va_S (wA E full) s.heap H locs → lv_has ls 10 [(0, .ref (E.2.1 19)), (1, .int p1), (3, .int v3), (4, .int v4), (5, .int v5), (6, .long v6), (8, .int v8)] → W p l e rmX1_having s m args below meth c H locs 0 0 Q (F0 m 113 ls []) := by
        intro v3 v4 v5 v6 v8 w H locs ls h hW hS hl
        unfold jX1_having_113 at h
        refine lv_iinc (v := (v8 + (1 : Int32))) (lv' := [(8, .int (v8 + (1 : Int32))), (0, .ref (E.2.1 19)), (1, .int p1), (3, .int v3), (4, .int v4), (5, .int v5), (6, .long v6)]) hx hb dX1_having_113 hl (k := 6) rfl rfl (by decide) rfl (fun ls hl => ?_)
        refine lv_goto (tgt := 46) hx hb dX1_having_116 (by decide) ?_
        exact ih46 _ _ _ _ _ _ _ _ _ h hW hS (lv_sub hl [1, 2, 3, 4, 5, 6, 0] rfl)
      unfold bX1_having_46 at h
      refine lv_iload hx hb dX1_having_46 (lv_at hl 6 rfl) ?_
      refine lv_iload hx hb dX1_having_48 (lv_at hl 4 rfl) ?_
      refine rb_icmp_ge (tgt := 119) hx hb h dX1_having_50 (by decide) (fun h => ?_) (fun h => ?_)
      · refine lv_lload hx hb dX1_having_119 (lv_at hl 5 rfl) ?_
        exact rrL hQ hW hS h dX1_having_121
      · refine lv_aload_n hx hb dX1_having_53 rfl (lv_at hl 0 rfl) ?_
        refine rw_get hx hb hts iX1 hown hW (fl 19 rfl) rfl rfl 5 (by decide) e23 rfl (v := .ref (E.2.1 23)) rfl dX1_having_54 ?_
        refine lv_iload_n hx hb dX1_having_57 rfl (lv_at hl 1 rfl) ?_
        refine rw_aaldL hx hb hW (fl 23 rfl) rfl h dX1_having_58 (fun j12 h => ?_)
        refine lv_iload hx hb dX1_having_59 (lv_at hl 6 rfl) ?_
        refine rw_lald hx hb hW LL_full h dX1_having_61 (fun x13 h => ?_)
        refine lv_lconst (v := (0 : Int64)) hx hb dX1_having_62 (by decide) ?_
        refine rb_lcmp_ne (tgt := 70) hx hb h dX1_having_63 dX1_having_64 (by decide) (fun h => ?_) (fun h => ?_)
        · refine lv_iload hx hb dX1_having_70 (lv_at hl 6 rfl) ?_
          refine lv_iload_n hx hb dX1_having_72 rfl (lv_at hl 2 rfl) ?_
          refine lv_ior hx hb dX1_having_73 ?_
          refine lv_iload hx hb dX1_having_74 (lv_at hl 3 rfl) ?_
          refine rc_Si (As := [.int (v8 ||| v3), .int v4]) (rest := []) S hW hS h (kX1_after l E (v8 ||| v3) v4 w) (va_cwS 2 hts gX1_having_X1_after rfl rfl rfl hdX1_after ⟨Nat.le_of_ble_eq_true rfl, Nat.le_of_ble_eq_true rfl⟩) rfl hl.1 rfl (Nat.le_of_ble_eq_true rfl) ⟨Nat.zero_le _, Nat.zero_le _⟩ dX1_having_76 (fun x14 w15 H locs h hW hS => ?_)
          refine lv_istore (lv' := [(9, .int x14), (0, .ref (E.2.1 19)), (1, .int p1), (3, .int v3), (4, .int v4), (5, .int v5), (6, .long v6), (8, .int v8)]) hx hb dX1_having_79 hl (by decide) rfl (fun ls hl => ?_)
          refine lv_iload hx hb dX1_having_81 (lv_at hl 0 rfl) ?_
          refine lv_iconst (v := (-1 : Int32)) hx hb dX1_having_83 (by decide) ?_
          refine rb_icmp_eq (tgt := 113) hx hb h dX1_having_84 (by decide) (fun h => ?_) (fun h => ?_)
          · exact J113 _ _ _ _ _ _ _ _ _ h hW hS (lv_sub hl [1, 2, 3, 4, 5, 6, 7] rfl)
          · refine lv_lload hx hb dX1_having_87 (lv_at hl 6 rfl) ?_
            refine lv_aload_n hx hb dX1_having_89 rfl (lv_at hl 1 rfl) ?_
            refine rw_get hx hb hts iX1 hown hW (fl 19 rfl) rfl rfl 5 (by decide) e23 rfl (v := .ref (E.2.1 23)) rfl dX1_having_90 ?_
            refine lv_iload_n hx hb dX1_having_93 rfl (lv_at hl 2 rfl) ?_
            refine rw_aaldL hx hb hW (fl 23 rfl) rfl h dX1_having_94 (fun j16 h => ?_)
            refine lv_iload hx hb dX1_having_95 (lv_at hl 7 rfl) ?_
            refine rw_lald hx hb hW LL_full h dX1_having_97 (fun x17 h => ?_)
            refine lv_aload_n hx hb dX1_having_98 rfl (lv_at hl 1 rfl) ?_
            refine rw_get hx hb hts iX1 hown hW (fl 19 rfl) rfl rfl 6 (by decide) e26 rfl (v := .ref (E.2.1 50)) rfl dX1_having_99 ?_
            refine lv_iload_n hx hb dX1_having_102 rfl (lv_at hl 2 rfl) ?_
            refine lv_iconst (v := (1 : Int32)) hx hb dX1_having_103 (by decide) ?_
            refine lv_iadd hx hb dX1_having_104 ?_
            refine rw_aaldL hx hb hW (fl 50 rfl) rfl h dX1_having_105 (fun j18 h => ?_)
            refine lv_iload hx hb dX1_having_106 (lv_at hl 0 rfl) ?_
            refine rw_lald hx hb hW LL_full h dX1_having_108 (fun x19 h => ?_)
            refine lv_lmul hx hb dX1_having_109 ?_
            refine lv_ladd hx hb dX1_having_110 ?_
            refine lv_lstore (lv' := [(6, .long (v6 + (x17 * x19))), (9, .int x14), (0, .ref (E.2.1 19)), (1, .int p1), (3, .int v3), (4, .int v4), (5, .int v5), (8, .int v8)]) hx hb dX1_having_111 hl (by decide) rfl (fun ls hl => ?_)
            exact J113 _ _ _ _ _ _ _ _ _ h hW hS (lv_sub hl [2, 3, 4, 5, 6, 0, 7] rfl)
        · refine lv_goto (tgt := 113) hx hb dX1_having_67 (by decide) ?_
          exact J113 _ _ _ _ _ _ _ _ _ h hW hS (hl)
  unfold fX1_having at h
  refine lv_aload_n hx hb dX1_having_0 rfl (lv_at hl 0 rfl) ?_
  refine rw_get hx hb hts iX1 hown hW (fl 19 rfl) rfl rfl 2 (by decide) e9 rfl (v := .ref (E.2.1 20)) rfl dX1_having_1 ?_
  refine lv_iload_n hx hb dX1_having_4 rfl (lv_at hl 1 rfl) ?_
  refine rw_iald hx hb hW (fun _ => (fl 20 rfl)) h dX1_having_5 (fun x1 h => ?_)
  refine lv_iload_n hx hb dX1_having_6 rfl (lv_at hl 2 rfl) ?_
  refine rc_Si (As := [.int x1, .int p2]) (rest := []) S hW hS h (kX1_has l E x1 p2 w) (va_cwS 2 hts gX1_having_X1_has rfl rfl rfl hdX1_has ⟨Nat.le_of_ble_eq_true rfl, Nat.le_of_ble_eq_true rfl⟩) rfl hl.1 rfl (Nat.le_of_ble_eq_true rfl) ⟨Nat.zero_le _, Nat.zero_le _⟩ dX1_having_7 (fun x2 w3 H locs h hW hS => ?_)
  refine rb_if_ne (tgt := 15) hx hb h dX1_having_10 (by decide) (fun h => ?_) (fun h => ?_)
  · refine lv_aload_n hx hb dX1_having_15 rfl (lv_at hl 0 rfl) ?_
    refine lv_iload_n hx hb dX1_having_16 rfl (lv_at hl 1 rfl) ?_
    refine lv_aload_n hx hb dX1_having_17 rfl (lv_at hl 0 rfl) ?_
    refine lv_iload_n hx hb dX1_having_18 rfl (lv_at hl 1 rfl) ?_
    refine lv_iload_n hx hb dX1_having_19 rfl (lv_at hl 2 rfl) ?_
    refine rc_Vi (k := 19) (As := [.int p1, .int p2]) (rest := [.int p1, .ref (E.2.1 19)]) S hW hS h (kX1_kindOf l E p1 p2 w3) (cwV 2 hts gX1_having_X1_kindOf rfl rfl rfl hdX1_kindOf ⟨Nat.le_of_ble_eq_true rfl, Nat.le_of_ble_eq_true rfl⟩) (fl 19 rfl) rfl rfl rfl rfl hl.1 rfl (Nat.le_of_ble_eq_true rfl) ⟨Nat.zero_le _, Nat.zero_le _⟩ dX1_having_20 (fun x4 w5 H locs h hW hS => ?_)
    refine rc_Vi (k := 19) (As := [.int p1, .int x4]) (rest := []) S hW hS h (kX1_linesMet l E p1 x4 w5) (cwV 2 hts gX1_having_X1_linesMet rfl rfl rfl hdX1_linesMet ⟨Nat.le_of_ble_eq_true rfl, Nat.le_of_ble_eq_true rfl⟩) (fl 19 rfl) rfl rfl rfl rfl hl.1 rfl (Nat.le_of_ble_eq_true rfl) ⟨Nat.zero_le _, Nat.zero_le _⟩ dX1_having_23 (fun x6 w7 H locs h hW hS => ?_)
    refine lv_istore_n (lv' := [(3, .int x6), (0, .ref (E.2.1 19)), (1, .int p1), (2, .int p2)]) hx hb dX1_having_26 rfl hl (by decide) rfl (fun ls hl => ?_)
    refine lv_aload_n hx hb dX1_having_27 rfl (lv_at hl 1 rfl) ?_
    refine lv_iload_n hx hb dX1_having_28 rfl (lv_at hl 2 rfl) ?_
    refine rc_Vi (k := 19) (As := [.int p1]) (rest := []) S hW hS h (kX1_endsRow l E p1 w7) (cwV 1 hts gX1_having_X1_endsRow rfl rfl rfl hdX1_endsRow ⟨Nat.le_of_ble_eq_true rfl, Nat.le_of_ble_eq_true rfl⟩) (fl 19 rfl) rfl rfl rfl rfl hl.1 rfl (Nat.le_of_ble_eq_true rfl) ⟨Nat.zero_le _, Nat.zero_le _⟩ dX1_having_29 (fun x8 w9 H locs h hW hS => ?_)
    refine lv_istore (lv' := [(4, .int x8), (3, .int x6), (0, .ref (E.2.1 19)), (1, .int p1), (2, .int p2)]) hx hb dX1_having_32 hl (by decide) rfl (fun ls hl => ?_)
    refine lv_aload_n hx hb dX1_having_34 rfl (lv_at hl 2 rfl) ?_
    refine rc_Vi (k := 19) (As := []) (rest := []) S hW hS h (kX1_states l E  w9) (cwV 0 hts gX1_having_X1_states rfl rfl rfl hdX1_states ⟨Nat.le_of_ble_eq_true rfl, Nat.le_of_ble_eq_true rfl⟩) (fl 19 rfl) rfl rfl rfl rfl hl.1 rfl (Nat.le_of_ble_eq_true rfl) ⟨Nat.zero_le _, Nat.zero_le _⟩ dX1_having_35 (fun x10 w11 H locs h hW hS => ?_)
    refine lv_istore (lv' := [(5, .int x10), (4, .int x8), (3, .int x6), (0, .ref (E.2.1 19)), (1, .int p1), (2, .int p2)]) hx hb dX1_having_38 hl (by decide) rfl (fun ls hl => ?_)
    refine lv_lconst (v := (0 : Int64)) hx hb dX1_having_40 (by decide) ?_
    refine lv_lstore (lv' := [(6, .long (0 : Int64)), (5, .int x10), (4, .int x8), (3, .int x6), (0, .ref (E.2.1 19)), (1, .int p1), (2, .int p2)]) hx hb dX1_having_41 hl (by decide) rfl (fun ls hl => ?_)
    refine lv_iconst (v := (0 : Int32)) hx hb dX1_having_43 (by decide) ?_
    refine lv_istore (lv' := [(8, .int (0 : Int32)), (6, .long (0 : Int64)), (5, .int x10), (4, .int x8), (3, .int x6), (0, .ref (E.2.1 19)), (1, .int p1), (2, .int p2)]) hx hb dX1_having_44 hl (by decide) rfl (fun ls hl => ?_)
    exact J46 _ _ _ _ _ _ _ _ _ _ h hW hS (lv_sub hl [5, 6, 4, 3, 2, 1, 0] rfl)
  · refine lv_lconst (v := (0 : Int64)) hx hb dX1_having_13 (by decide) ?_
    exact rrL hQ hW hS h dX1_having_14
noncomputable def jX1_extreme_18 (p1 : Int32) (p2 : Int32) (k2 : Int32 → Wd → Option (Int32 × Wd)) (v3 : Int32) (s0 : Int32)  (w : Wd) : Option (Int32 × Wd) :=
  bnd (fX1_having p1 s0 w) fun x1 w2 => if (0 : Int64) < x1 then some (s0, w2) else k2 (v3 + (1 : Int32)) w2
noncomputable def bX1_extreme_2 (p1 : Int32) (p2 : Int32) (k2 : Int32 → Wd → Option (Int32 × Wd)) (v3 : Int32)  (w : Wd) : Option (Int32 × Wd) :=
  if (4 : Int32) < v3 then some ((-9 : Int32), w) else if p2 = 0 then jX1_extreme_18 p1 p2 k2 v3 v3 w else jX1_extreme_18 p1 p2 k2 v3 ((4 : Int32) - v3) w
noncomputable def fX1_extreme (p1 : Int32) (p2 : Int32) (w : Wd) : Option (Int32 × Wd) :=
  lp (fun _ _ => none) (bX1_extreme_2 p1 p2) G (0 : Int32) w
abbrev rmX1_extreme : Room := { frames := 3, cells := 0, slots := 0, locals := 72 }
set_option maxHeartbeats 4000000 in
set_option maxRecDepth 100000 in
theorem kX1_extreme (l : Launch) (E : Ev) (p1 : Int32) (p2 : Int32) (w : Wd) (q : Int32 × Wd) (h : fX1_extreme p1 p2 w = some q) : CtI l yX1_extreme wsX1_extreme rmX1_extreme E full [.ref (E.2.1 19), .int p1, .int p2] w q := by
  refine mkI (cc := cX1_extreme) (maxL := 5) (by decide) rfl (Nat.le_of_ble_eq_true rfl) ?_
  intro p e s m args below meth c Q S hW hQ ls hl
  obtain ⟨hx, hb, hml, hown, hts⟩ := id S
  have hW0 := hW
  have hS : va_S (wA E full) s.heap s.heap [] := va_S.rf
  have hl : lv_has ls 5 [(0, .ref (E.2.1 19)), (1, .int p1), (2, .int p2)] := hl
  have J2 : ∀ (n : Nat) (v3 : Int32) (w : Wd) (H : Heap) (locs : List Loc) (ls : Array Slot), lp (fun _ _ => none) (bX1_extreme_2 p1 p2) n v3 w = some q → World E full w s H → va_S (wA E full) s.heap H locs → lv_has ls 5 [(0, .ref (E.2.1 19)), (1, .int p1), (2, .int p2), (3, .int v3)] → W p l e rmX1_extreme s m args below meth c H locs 0 0 Q (F0 m 2 ls []) := by
    intro n
    induction n with
    | zero =>
      intro v3 w H locs ls h hW hS hl
      exact absurd (show (none : Option (Int32 × Wd)) = some q from h) (fun z => by cases z)
    | succ n ih2 =>
      intro v3 w H locs ls h hW hS hl
      have h : bX1_extreme_2 p1 p2 (lp (fun _ _ => none) (bX1_extreme_2 p1 p2) n) v3 w = some q := h
      generalize lp (fun _ _ => none) (bX1_extreme_2 p1 p2) n = k2 at h ih2
      have J18 : ∀ (v3 : Int32) (s0 : Int32) (w : Wd) (H : Heap) (locs : List Loc) (ls : Array Slot), jX1_extreme_18 p1 p2 k2 v3 s0 w = some q → World E full w s H → va_S (wA E full) s.heap H locs → lv_has ls 5 [(0, .ref (E.2.1 19)), (1, .int p1), (2, .int p2), (3, .int v3)] → W p l e rmX1_extreme s m args below meth c H locs 0 0 Q (F0 m 18 ls [.int s0]) := by
        intro v3 s0 w H locs ls h hW hS hl
        unfold jX1_extreme_18 at h
        refine lv_istore (lv' := [(4, .int s0), (0, .ref (E.2.1 19)), (1, .int p1), (2, .int p2), (3, .int v3)]) hx hb dX1_extreme_18 hl (by decide) rfl (fun ls hl => ?_)
        refine lv_aload_n hx hb dX1_extreme_20 rfl (lv_at hl 1 rfl) ?_
        refine lv_iload_n hx hb dX1_extreme_21 rfl (lv_at hl 2 rfl) ?_
        refine lv_iload hx hb dX1_extreme_22 (lv_at hl 0 rfl) ?_
        refine rc_Vl (k := 19) (As := [.int p1, .int s0]) (rest := []) S hW hS h (kX1_having l E p1 s0 w) (cwV 2 hts gX1_extreme_X1_having rfl rfl rfl hdX1_having ⟨Nat.le_of_ble_eq_true rfl, Nat.le_of_ble_eq_true rfl⟩) (fl 19 rfl) rfl rfl rfl rfl hl.1 rfl (Nat.le_of_ble_eq_true rfl) ⟨Nat.zero_le _, Nat.zero_le _⟩ dX1_extreme_24 (fun x1 w2 H locs h hW hS => ?_)
        refine lv_lconst (v := (0 : Int64)) hx hb dX1_extreme_27 (by decide) ?_
        refine rb_lcmp_le (tgt := 35) hx hb h dX1_extreme_28 dX1_extreme_29 (by decide) (fun h => ?_) (fun h => ?_)
        · refine lv_iinc (v := (v3 + (1 : Int32))) (lv' := [(3, .int (v3 + (1 : Int32))), (4, .int s0), (0, .ref (E.2.1 19)), (1, .int p1), (2, .int p2)]) hx hb dX1_extreme_35 hl (k := 4) rfl rfl (by decide) rfl (fun ls hl => ?_)
          refine lv_goto (tgt := 2) hx hb dX1_extreme_38 (by decide) ?_
          exact ih2 _ _ _ _ _ h hW hS (lv_sub hl [2, 3, 4, 0] rfl)
        · refine lv_iload hx hb dX1_extreme_32 (lv_at hl 0 rfl) ?_
          exact rrI hQ hW hS h dX1_extreme_34
      unfold bX1_extreme_2 at h
      refine lv_iload_n hx hb dX1_extreme_2 rfl (lv_at hl 3 rfl) ?_
      refine lv_iconst (v := (4 : Int32)) hx hb dX1_extreme_3 (by decide) ?_
      refine rb_icmp_gt (tgt := 41) hx hb h dX1_extreme_4 (by decide) (fun h => ?_) (fun h => ?_)
      · refine lv_bipush (v := (-9 : Int32)) hx hb dX1_extreme_41 (by decide) ?_
        exact rrI hQ hW hS h dX1_extreme_43
      · refine lv_iload_n hx hb dX1_extreme_7 rfl (lv_at hl 2 rfl) ?_
        refine rb_if_eq (tgt := 17) hx hb h dX1_extreme_8 (by decide) (fun h => ?_) (fun h => ?_)
        · refine lv_iload_n hx hb dX1_extreme_17 rfl (lv_at hl 3 rfl) ?_
          exact J18 _ _ _ _ _ _ h hW hS (hl)
        · refine lv_iconst (v := (4 : Int32)) hx hb dX1_extreme_11 (by decide) ?_
          refine lv_iload_n hx hb dX1_extreme_12 rfl (lv_at hl 3 rfl) ?_
          refine lv_isub hx hb dX1_extreme_13 ?_
          refine lv_goto (tgt := 18) hx hb dX1_extreme_14 (by decide) ?_
          exact J18 _ _ _ _ _ _ h hW hS (hl)
  unfold fX1_extreme at h
  refine lv_iconst (v := (0 : Int32)) hx hb dX1_extreme_0 (by decide) ?_
  refine lv_istore_n (lv' := [(3, .int (0 : Int32)), (0, .ref (E.2.1 19)), (1, .int p1), (2, .int p2)]) hx hb dX1_extreme_1 rfl hl (by decide) rfl (fun ls hl => ?_)
  exact J2 _ _ _ _ _ _ h hW hS (lv_sub hl [1, 2, 3, 0] rfl)
noncomputable def jJ6_numberOfLeadingZeros_0f7a4_73 (p0 : Int32) (v0 : Int32) (v1 : Int32)  (w : Wd) : Option (Int32 × Wd) :=
  some ((v1 - (usr v0 (1 : Int32))), w)
noncomputable def jJ6_numberOfLeadingZeros_0f7a4_61 (p0 : Int32) (v0 : Int32) (v1 : Int32)  (w : Wd) : Option (Int32 × Wd) :=
  if v0 < (4 : Int32) then jJ6_numberOfLeadingZeros_0f7a4_73 p0 v0 v1 w else jJ6_numberOfLeadingZeros_0f7a4_73 p0 (usr v0 (2 : Int32)) (v1 + (-2 : Int32)) w
noncomputable def jJ6_numberOfLeadingZeros_0f7a4_48 (p0 : Int32) (v0 : Int32) (v1 : Int32)  (w : Wd) : Option (Int32 × Wd) :=
  if v0 < (16 : Int32) then jJ6_numberOfLeadingZeros_0f7a4_61 p0 v0 v1 w else jJ6_numberOfLeadingZeros_0f7a4_61 p0 (usr v0 (4 : Int32)) (v1 + (-4 : Int32)) w
noncomputable def jJ6_numberOfLeadingZeros_0f7a4_33 (p0 : Int32) (v0 : Int32) (v1 : Int32)  (w : Wd) : Option (Int32 × Wd) :=
  if v0 < (256 : Int32) then jJ6_numberOfLeadingZeros_0f7a4_48 p0 v0 v1 w else jJ6_numberOfLeadingZeros_0f7a4_48 p0 (usr v0 (8 : Int32)) (v1 + (-8 : Int32)) w
noncomputable def fJ6_numberOfLeadingZeros_0f7a4 (p0 : Int32) (w : Wd) : Option (Int32 × Wd) :=
  if 0 < p0 then if p0 < (65536 : Int32) then jJ6_numberOfLeadingZeros_0f7a4_33 p0 p0 (31 : Int32) w else jJ6_numberOfLeadingZeros_0f7a4_33 p0 (usr p0 (16 : Int32)) ((31 : Int32) + (-16 : Int32)) w else if p0 = 0 then some ((32 : Int32), w) else some ((0 : Int32), w)
abbrev rmJ6_numberOfLeadingZeros_0f7a4 : Room := { frames := 0, cells := 0, slots := 0, locals := 0 }
set_option maxHeartbeats 4000000 in
set_option maxRecDepth 100000 in
theorem kJ6_numberOfLeadingZeros_0f7a4 (l : Launch) (E : Ev) (p0 : Int32) (w : Wd) (q : Int32 × Wd) (h : fJ6_numberOfLeadingZeros_0f7a4 p0 w = some q) : CtI l yJ6_numberOfLeadingZeros_0f7a4 wsJ6_numberOfLeadingZeros_0f7a4 rmJ6_numberOfLeadingZeros_0f7a4 E full [.int p0] w q := by
  refine mkI (cc := cJ6_numberOfLeadingZeros_0f7a4) (maxL := 2) (by decide) rfl (Nat.le_of_ble_eq_true rfl) ?_
  intro p e s m args below meth c Q S hW hQ ls hl
  obtain ⟨hx, hb, hml, hown, hts⟩ := id S
  have hW0 := hW
  have hS : va_S (wA E full) s.heap s.heap [] := va_S.rf
  have hl : lv_has ls 2 [(0, .int p0)] := hl
  have J73 : ∀ (v0 : Int32) (v1 : Int32) (w : Wd) (H : Heap) (locs : List Loc) (ls : Array Slot), jJ6_numberOfLeadingZeros_0f7a4_73 p0 v0 v1 w = some q → World E full w s H → va_S (wA E full) s.heap H locs → lv_has ls 2 [(0, .int v0), (1, .int v1)] → W p l e rmJ6_numberOfLeadingZeros_0f7a4 s m args below meth c H locs 0 0 Q (F0 m 73 ls []) := by
    intro v0 v1 w H locs ls h hW hS hl
    unfold jJ6_numberOfLeadingZeros_0f7a4_73 at h
    refine lv_iload_n hx hb dJ6_numberOfLeadingZeros_0f7a4_73 rfl (lv_at hl 1 rfl) ?_
    refine lv_iload_n hx hb dJ6_numberOfLeadingZeros_0f7a4_74 rfl (lv_at hl 0 rfl) ?_
    refine lv_iconst (v := (1 : Int32)) hx hb dJ6_numberOfLeadingZeros_0f7a4_75 (by decide) ?_
    refine lv_iushr (v := (usr v0 (1 : Int32))) hx hb dJ6_numberOfLeadingZeros_0f7a4_76 rfl ?_
    refine lv_isub hx hb dJ6_numberOfLeadingZeros_0f7a4_77 ?_
    exact rrI hQ hW hS h dJ6_numberOfLeadingZeros_0f7a4_78
  have J61 : ∀ (v0 : Int32) (v1 : Int32) (w : Wd) (H : Heap) (locs : List Loc) (ls : Array Slot), jJ6_numberOfLeadingZeros_0f7a4_61 p0 v0 v1 w = some q → World E full w s H → va_S (wA E full) s.heap H locs → lv_has ls 2 [(0, .int v0), (1, .int v1)] → W p l e rmJ6_numberOfLeadingZeros_0f7a4 s m args below meth c H locs 0 0 Q (F0 m 61 ls []) := by
    intro v0 v1 w H locs ls h hW hS hl
    unfold jJ6_numberOfLeadingZeros_0f7a4_61 at h
    refine lv_iload_n hx hb dJ6_numberOfLeadingZeros_0f7a4_61 rfl (lv_at hl 0 rfl) ?_
    refine lv_iconst (v := (4 : Int32)) hx hb dJ6_numberOfLeadingZeros_0f7a4_62 (by decide) ?_
    refine rb_icmp_lt (tgt := 73) hx hb h dJ6_numberOfLeadingZeros_0f7a4_63 (by decide) (fun h => ?_) (fun h => ?_)
    · exact J73 _ _ _ _ _ _ h hW hS (hl)
    · refine lv_iinc (v := (v1 + (-2 : Int32))) (lv' := [(1, .int (v1 + (-2 : Int32))), (0, .int v0)]) hx hb dJ6_numberOfLeadingZeros_0f7a4_66 hl (k := 1) rfl rfl (by decide) rfl (fun ls hl => ?_)
      refine lv_iload_n hx hb dJ6_numberOfLeadingZeros_0f7a4_69 rfl (lv_at hl 1 rfl) ?_
      refine lv_iconst (v := (2 : Int32)) hx hb dJ6_numberOfLeadingZeros_0f7a4_70 (by decide) ?_
      refine lv_iushr (v := (usr v0 (2 : Int32))) hx hb dJ6_numberOfLeadingZeros_0f7a4_71 rfl ?_
      refine lv_istore_n (lv' := [(0, .int (usr v0 (2 : Int32))), (1, .int (v1 + (-2 : Int32)))]) hx hb dJ6_numberOfLeadingZeros_0f7a4_72 rfl hl (by decide) rfl (fun ls hl => ?_)
      exact J73 _ _ _ _ _ _ h hW hS (hl)
  have J48 : ∀ (v0 : Int32) (v1 : Int32) (w : Wd) (H : Heap) (locs : List Loc) (ls : Array Slot), jJ6_numberOfLeadingZeros_0f7a4_48 p0 v0 v1 w = some q → World E full w s H → va_S (wA E full) s.heap H locs → lv_has ls 2 [(0, .int v0), (1, .int v1)] → W p l e rmJ6_numberOfLeadingZeros_0f7a4 s m args below meth c H locs 0 0 Q (F0 m 48 ls []) := by
    intro v0 v1 w H locs ls h hW hS hl
    unfold jJ6_numberOfLeadingZeros_0f7a4_48 at h
    refine lv_iload_n hx hb dJ6_numberOfLeadingZeros_0f7a4_48 rfl (lv_at hl 0 rfl) ?_
    refine lv_bipush (v := (16 : Int32)) hx hb dJ6_numberOfLeadingZeros_0f7a4_49 (by decide) ?_
    refine rb_icmp_lt (tgt := 61) hx hb h dJ6_numberOfLeadingZeros_0f7a4_51 (by decide) (fun h => ?_) (fun h => ?_)
    · exact J61 _ _ _ _ _ _ h hW hS (hl)
    · refine lv_iinc (v := (v1 + (-4 : Int32))) (lv' := [(1, .int (v1 + (-4 : Int32))), (0, .int v0)]) hx hb dJ6_numberOfLeadingZeros_0f7a4_54 hl (k := 1) rfl rfl (by decide) rfl (fun ls hl => ?_)
      refine lv_iload_n hx hb dJ6_numberOfLeadingZeros_0f7a4_57 rfl (lv_at hl 1 rfl) ?_
      refine lv_iconst (v := (4 : Int32)) hx hb dJ6_numberOfLeadingZeros_0f7a4_58 (by decide) ?_
      refine lv_iushr (v := (usr v0 (4 : Int32))) hx hb dJ6_numberOfLeadingZeros_0f7a4_59 rfl ?_
      refine lv_istore_n (lv' := [(0, .int (usr v0 (4 : Int32))), (1, .int (v1 + (-4 : Int32)))]) hx hb dJ6_numberOfLeadingZeros_0f7a4_60 rfl hl (by decide) rfl (fun ls hl => ?_)
      exact J61 _ _ _ _ _ _ h hW hS (hl)
  have J33 : ∀ (v0 : Int32) (v1 : Int32) (w : Wd) (H : Heap) (locs : List Loc) (ls : Array Slot), jJ6_numberOfLeadingZeros_0f7a4_33 p0 v0 v1 w = some q → World E full w s H → va_S (wA E full) s.heap H locs → lv_has ls 2 [(0, .int v0), (1, .int v1)] → W p l e rmJ6_numberOfLeadingZeros_0f7a4 s m args below meth c H locs 0 0 Q (F0 m 33 ls []) := by
    intro v0 v1 w H locs ls h hW hS hl
    unfold jJ6_numberOfLeadingZeros_0f7a4_33 at h
    refine lv_iload_n hx hb dJ6_numberOfLeadingZeros_0f7a4_33 rfl (lv_at hl 0 rfl) ?_
    refine lv_sipush (v := (256 : Int32)) hx hb dJ6_numberOfLeadingZeros_0f7a4_34 (by decide) ?_
    refine rb_icmp_lt (tgt := 48) hx hb h dJ6_numberOfLeadingZeros_0f7a4_37 (by decide) (fun h => ?_) (fun h => ?_)
    · exact J48 _ _ _ _ _ _ h hW hS (hl)
    · refine lv_iinc (v := (v1 + (-8 : Int32))) (lv' := [(1, .int (v1 + (-8 : Int32))), (0, .int v0)]) hx hb dJ6_numberOfLeadingZeros_0f7a4_40 hl (k := 1) rfl rfl (by decide) rfl (fun ls hl => ?_)
      refine lv_iload_n hx hb dJ6_numberOfLeadingZeros_0f7a4_43 rfl (lv_at hl 1 rfl) ?_
      refine lv_bipush (v := (8 : Int32)) hx hb dJ6_numberOfLeadingZeros_0f7a4_44 (by decide) ?_
      refine lv_iushr (v := (usr v0 (8 : Int32))) hx hb dJ6_numberOfLeadingZeros_0f7a4_46 rfl ?_
      refine lv_istore_n (lv' := [(0, .int (usr v0 (8 : Int32))), (1, .int (v1 + (-8 : Int32)))]) hx hb dJ6_numberOfLeadingZeros_0f7a4_47 rfl hl (by decide) rfl (fun ls hl => ?_)
      exact J48 _ _ _ _ _ _ h hW hS (hl)
  unfold fJ6_numberOfLeadingZeros_0f7a4 at h
  refine lv_iload_n hx hb dJ6_numberOfLeadingZeros_0f7a4_0 rfl (lv_at hl 0 rfl) ?_
  refine rb_if_gt (tgt := 15) hx hb h dJ6_numberOfLeadingZeros_0f7a4_1 (by decide) (fun h => ?_) (fun h => ?_)
  · refine lv_bipush (v := (31 : Int32)) hx hb dJ6_numberOfLeadingZeros_0f7a4_15 (by decide) ?_
    refine lv_istore_n (lv' := [(1, .int (31 : Int32)), (0, .int p0)]) hx hb dJ6_numberOfLeadingZeros_0f7a4_17 rfl hl (by decide) rfl (fun ls hl => ?_)
    refine lv_iload_n hx hb dJ6_numberOfLeadingZeros_0f7a4_18 rfl (lv_at hl 1 rfl) ?_
    refine lv_ldcw (own := RJ6) (v := (65536 : Int32)) hx hb hown (hts _ (by decide +kernel)) dJ6_numberOfLeadingZeros_0f7a4_19 ?_
    refine rb_icmp_lt (tgt := 33) hx hb h dJ6_numberOfLeadingZeros_0f7a4_22 (by decide) (fun h => ?_) (fun h => ?_)
    · exact J33 _ _ _ _ _ _ h hW hS (lv_sub hl [1, 0] rfl)
    · refine lv_iinc (v := ((31 : Int32) + (-16 : Int32))) (lv' := [(1, .int ((31 : Int32) + (-16 : Int32))), (0, .int p0)]) hx hb dJ6_numberOfLeadingZeros_0f7a4_25 hl (k := 0) rfl rfl (by decide) rfl (fun ls hl => ?_)
      refine lv_iload_n hx hb dJ6_numberOfLeadingZeros_0f7a4_28 rfl (lv_at hl 1 rfl) ?_
      refine lv_bipush (v := (16 : Int32)) hx hb dJ6_numberOfLeadingZeros_0f7a4_29 (by decide) ?_
      refine lv_iushr (v := (usr p0 (16 : Int32))) hx hb dJ6_numberOfLeadingZeros_0f7a4_31 rfl ?_
      refine lv_istore_n (lv' := [(0, .int (usr p0 (16 : Int32))), (1, .int ((31 : Int32) + (-16 : Int32)))]) hx hb dJ6_numberOfLeadingZeros_0f7a4_32 rfl hl (by decide) rfl (fun ls hl => ?_)
      exact J33 _ _ _ _ _ _ h hW hS (hl)
  · refine lv_iload_n hx hb dJ6_numberOfLeadingZeros_0f7a4_4 rfl (lv_at hl 0 rfl) ?_
    refine rb_if_ne (tgt := 13) hx hb h dJ6_numberOfLeadingZeros_0f7a4_5 (by decide) (fun h => ?_) (fun h => ?_)
    · refine lv_iconst (v := (0 : Int32)) hx hb dJ6_numberOfLeadingZeros_0f7a4_13 (by decide) ?_
      exact rrI hQ hW hS h dJ6_numberOfLeadingZeros_0f7a4_14
    · refine lv_bipush (v := (32 : Int32)) hx hb dJ6_numberOfLeadingZeros_0f7a4_8 (by decide) ?_
      refine lv_goto (tgt := 14) hx hb dJ6_numberOfLeadingZeros_0f7a4_10 (by decide) ?_
      exact rrI hQ hW hS h dJ6_numberOfLeadingZeros_0f7a4_14
noncomputable def fX1_highestOf (p0 : Int32) (w : Wd) : Option (Int32 × Wd) :=
  if p0 = 0 then some ((0 : Int32), w) else bnd (fJ6_numberOfLeadingZeros_0f7a4 p0 w) fun x1 w2 => some (((31 : Int32) - x1), w2)
abbrev rmX1_highestOf : Room := { frames := 1, cells := 0, slots := 0, locals := 21 }
set_option maxHeartbeats 4000000 in
set_option maxRecDepth 100000 in
theorem kX1_highestOf (l : Launch) (E : Ev) (p0 : Int32) (w : Wd) (q : Int32 × Wd) (h : fX1_highestOf p0 w = some q) : CtI l yX1_highestOf wsX1_highestOf rmX1_highestOf E full [.int p0] w q := by
  refine mkI (cc := cX1_highestOf) (maxL := 1) (by decide) rfl (Nat.le_of_ble_eq_true rfl) ?_
  intro p e s m args below meth c Q S hW hQ ls hl
  obtain ⟨hx, hb, hml, hown, hts⟩ := id S
  have hW0 := hW
  have hS : va_S (wA E full) s.heap s.heap [] := va_S.rf
  have hl : lv_has ls 1 [(0, .int p0)] := hl
  unfold fX1_highestOf at h
  refine lv_iload_n hx hb dX1_highestOf_0 rfl (lv_at hl 0 rfl) ?_
  refine rb_if_ne (tgt := 8) hx hb h dX1_highestOf_1 (by decide) (fun h => ?_) (fun h => ?_)
  · refine lv_bipush (v := (31 : Int32)) hx hb dX1_highestOf_8 (by decide) ?_
    refine lv_iload_n hx hb dX1_highestOf_10 rfl (lv_at hl 0 rfl) ?_
    refine rc_Si (As := [.int p0]) (rest := [.int (31 : Int32)]) S hW hS h (kJ6_numberOfLeadingZeros_0f7a4 l E p0 w) (va_cwS 1 hts gX1_highestOf_J6_numberOfLeadingZeros_0f7a4 rfl rfl rfl hdJ6_numberOfLeadingZeros_0f7a4 ⟨Nat.le_of_ble_eq_true rfl, Nat.le_of_ble_eq_true rfl⟩) rfl hl.1 rfl (Nat.le_of_ble_eq_true rfl) ⟨Nat.zero_le _, Nat.zero_le _⟩ dX1_highestOf_11 (fun x1 w2 H locs h hW hS => ?_)
    refine lv_isub hx hb dX1_highestOf_14 ?_
    exact rrI hQ hW hS h dX1_highestOf_15
  · refine lv_iconst (v := (0 : Int32)) hx hb dX1_highestOf_4 (by decide) ?_
    refine lv_goto (tgt := 15) hx hb dX1_highestOf_5 (by decide) ?_
    exact rrI hQ hW hS h dX1_highestOf_15
noncomputable def bX1_mostCubes_4 (k4 : Int32 → Int32 → Wd → Option (Int32 × Wd)) (v1 : Int32) (v2 : Int32)  (w : Wd) : Option (Int32 × Wd) :=
  bnd (fX2_cells w) fun x1 w2 => if x1 ≤ v2 then some (v1, w2) else (gI w2 20 v2).bind fun x3 => bnd (fX1_highestOf x3 w2) fun x4 w5 => k4 (v1 + x4) (v2 + (1 : Int32)) w5
noncomputable def fX1_mostCubes  (w : Wd) : Option (Int32 × Wd) :=
  lp (fun _ _ _ => none) (bX1_mostCubes_4) G (0 : Int32) (0 : Int32) w
abbrev rmX1_mostCubes : Room := { frames := 2, cells := 0, slots := 0, locals := 41 }
set_option maxHeartbeats 4000000 in
set_option maxRecDepth 100000 in
theorem kX1_mostCubes (l : Launch) (E : Ev)  (w : Wd) (q : Int32 × Wd) (h : fX1_mostCubes w = some q) : CtI l yX1_mostCubes wsX1_mostCubes rmX1_mostCubes E full [.ref (E.2.1 19)] w q := by
  refine mkI (cc := cX1_mostCubes) (maxL := 3) (by decide) rfl (Nat.le_of_ble_eq_true rfl) ?_
  intro p e s m args below meth c Q S hW hQ ls hl
  obtain ⟨hx, hb, hml, hown, hts⟩ := id S
  have hW0 := hW
  have hS : va_S (wA E full) s.heap s.heap [] := va_S.rf
  have hl : lv_has ls 3 [(0, .ref (E.2.1 19))] := hl
  have iX1 : ∀ w ∈ wsX10, w ∈ wsX1_mostCubes := by decide +kernel
  have e9 := hts (.fieldLink RX1 9 "CubeHeaps$Fitting" "allowed" "[I") (by decide +kernel)
  have e39 := hts (.fieldLink RX1 39 "CubeHeaps$Fitting" "ground" "LCubeHeaps$Ground;") (by decide +kernel)
  have J4 : ∀ (n : Nat) (v1 : Int32) (v2 : Int32) (w : Wd) (H : Heap) (locs : List Loc) (ls : Array Slot), lp (fun _ _ _ => none) (bX1_mostCubes_4) n v1 v2 w = some q → World E full w s H → va_S (wA E full) s.heap H locs → lv_has ls 3 [(0, .ref (E.2.1 19)), (1, .int v1), (2, .int v2)] → W p l e rmX1_mostCubes s m args below meth c H locs 0 0 Q (F0 m 4 ls []) := by
    intro n
    induction n with
    | zero =>
      intro v1 v2 w H locs ls h hW hS hl
      exact absurd (show (none : Option (Int32 × Wd)) = some q from h) (fun z => by cases z)
    | succ n ih4 =>
      intro v1 v2 w H locs ls h hW hS hl
      have h : bX1_mostCubes_4 (lp (fun _ _ _ => none) (bX1_mostCubes_4) n) v1 v2 w = some q := h
      generalize lp (fun _ _ _ => none) (bX1_mostCubes_4) n = k4 at h ih4
      unfold bX1_mostCubes_4 at h
      refine lv_iload_n hx hb dX1_mostCubes_4 rfl (lv_at hl 2 rfl) ?_
      refine lv_aload_n hx hb dX1_mostCubes_5 rfl (lv_at hl 0 rfl) ?_
      refine rw_get hx hb hts iX1 hown hW (fl 19 rfl) rfl rfl 0 (by decide) e39 rfl (v := .ref (E.2.1 1)) rfl dX1_mostCubes_6 ?_
      refine rc_Vi (k := 1) (As := []) (rest := [.int v2]) S hW hS h (kX2_cells l E  w) (cwV 0 hts gX1_mostCubes_X2_cells rfl rfl rfl hdX2_cells ⟨Nat.le_of_ble_eq_true rfl, Nat.le_of_ble_eq_true rfl⟩) (fl 1 rfl) rfl rfl rfl rfl hl.1 rfl (Nat.le_of_ble_eq_true rfl) ⟨Nat.zero_le _, Nat.zero_le _⟩ dX1_mostCubes_9 (fun x1 w2 H locs h hW hS => ?_)
      refine rb_icmp_ge (tgt := 33) hx hb h dX1_mostCubes_12 (by decide) (fun h => ?_) (fun h => ?_)
      · refine lv_iload_n hx hb dX1_mostCubes_33 rfl (lv_at hl 1 rfl) ?_
        exact rrI hQ hW hS h dX1_mostCubes_34
      · refine lv_iload_n hx hb dX1_mostCubes_15 rfl (lv_at hl 1 rfl) ?_
        refine lv_aload_n hx hb dX1_mostCubes_16 rfl (lv_at hl 0 rfl) ?_
        refine rw_get hx hb hts iX1 hown hW (fl 19 rfl) rfl rfl 2 (by decide) e9 rfl (v := .ref (E.2.1 20)) rfl dX1_mostCubes_17 ?_
        refine lv_iload_n hx hb dX1_mostCubes_20 rfl (lv_at hl 2 rfl) ?_
        refine rw_iald hx hb hW (fun _ => (fl 20 rfl)) h dX1_mostCubes_21 (fun x3 h => ?_)
        refine rc_Si (As := [.int x3]) (rest := [.int v1]) S hW hS h (kX1_highestOf l E x3 w2) (va_cwS 1 hts gX1_mostCubes_X1_highestOf rfl rfl rfl hdX1_highestOf ⟨Nat.le_of_ble_eq_true rfl, Nat.le_of_ble_eq_true rfl⟩) rfl hl.1 rfl (Nat.le_of_ble_eq_true rfl) ⟨Nat.zero_le _, Nat.zero_le _⟩ dX1_mostCubes_22 (fun x4 w5 H locs h hW hS => ?_)
        refine lv_iadd hx hb dX1_mostCubes_25 ?_
        refine lv_istore_n (lv' := [(1, .int (v1 + x4)), (0, .ref (E.2.1 19)), (2, .int v2)]) hx hb dX1_mostCubes_26 rfl hl (by decide) rfl (fun ls hl => ?_)
        refine lv_iinc (v := (v2 + (1 : Int32))) (lv' := [(2, .int (v2 + (1 : Int32))), (1, .int (v1 + x4)), (0, .ref (E.2.1 19))]) hx hb dX1_mostCubes_27 hl (k := 2) rfl rfl (by decide) rfl (fun ls hl => ?_)
        refine lv_goto (tgt := 4) hx hb dX1_mostCubes_30 (by decide) ?_
        exact ih4 _ _ _ _ _ _ h hW hS (lv_sub hl [2, 1, 0] rfl)
  unfold fX1_mostCubes at h
  refine lv_iconst (v := (0 : Int32)) hx hb dX1_mostCubes_0 (by decide) ?_
  refine lv_istore_n (lv' := [(1, .int (0 : Int32)), (0, .ref (E.2.1 19))]) hx hb dX1_mostCubes_1 rfl hl (by decide) rfl (fun ls hl => ?_)
  refine lv_iconst (v := (0 : Int32)) hx hb dX1_mostCubes_2 (by decide) ?_
  refine lv_istore_n (lv' := [(2, .int (0 : Int32)), (1, .int (0 : Int32)), (0, .ref (E.2.1 19))]) hx hb dX1_mostCubes_3 rfl hl (by decide) rfl (fun ls hl => ?_)
  exact J4 _ _ _ _ _ _ _ h hW hS (lv_sub hl [2, 1, 0] rfl)
noncomputable def jJ6_numberOfTrailingZeros_0f7a4_74 (p0 : Int32) (v0 : Int32) (v1 : Int32)  (w : Wd) : Option (Int32 × Wd) :=
  some ((v1 + (usr v0 (1 : Int32))), w)
noncomputable def jJ6_numberOfTrailingZeros_0f7a4_62 (p0 : Int32) (v0 : Int32) (v1 : Int32)  (w : Wd) : Option (Int32 × Wd) :=
  if v0 ≤ (4 : Int32) then jJ6_numberOfTrailingZeros_0f7a4_74 p0 v0 v1 w else jJ6_numberOfTrailingZeros_0f7a4_74 p0 (usr v0 (2 : Int32)) (v1 + (2 : Int32)) w
noncomputable def jJ6_numberOfTrailingZeros_0f7a4_49 (p0 : Int32) (v0 : Int32) (v1 : Int32)  (w : Wd) : Option (Int32 × Wd) :=
  if v0 ≤ (16 : Int32) then jJ6_numberOfTrailingZeros_0f7a4_62 p0 v0 v1 w else jJ6_numberOfTrailingZeros_0f7a4_62 p0 (usr v0 (4 : Int32)) (v1 + (4 : Int32)) w
noncomputable def jJ6_numberOfTrailingZeros_0f7a4_34 (p0 : Int32) (v0 : Int32) (v1 : Int32)  (w : Wd) : Option (Int32 × Wd) :=
  if v0 ≤ (256 : Int32) then jJ6_numberOfTrailingZeros_0f7a4_49 p0 v0 v1 w else jJ6_numberOfTrailingZeros_0f7a4_49 p0 (usr v0 (8 : Int32)) (v1 + (8 : Int32)) w
noncomputable def fJ6_numberOfTrailingZeros_0f7a4 (p0 : Int32) (w : Wd) : Option (Int32 × Wd) :=
  if 0 < ((p0 ^^^ (-1 : Int32)) &&& (p0 - (1 : Int32))) then if ((p0 ^^^ (-1 : Int32)) &&& (p0 - (1 : Int32))) ≤ (65536 : Int32) then jJ6_numberOfTrailingZeros_0f7a4_34 p0 ((p0 ^^^ (-1 : Int32)) &&& (p0 - (1 : Int32))) (1 : Int32) w else jJ6_numberOfTrailingZeros_0f7a4_34 p0 (usr ((p0 ^^^ (-1 : Int32)) &&& (p0 - (1 : Int32))) (16 : Int32)) ((1 : Int32) + (16 : Int32)) w else some ((((p0 ^^^ (-1 : Int32)) &&& (p0 - (1 : Int32))) &&& (32 : Int32)), w)
abbrev rmJ6_numberOfTrailingZeros_0f7a4 : Room := { frames := 0, cells := 0, slots := 0, locals := 0 }
set_option maxHeartbeats 4000000 in
set_option maxRecDepth 100000 in
theorem kJ6_numberOfTrailingZeros_0f7a4 (l : Launch) (E : Ev) (p0 : Int32) (w : Wd) (q : Int32 × Wd) (h : fJ6_numberOfTrailingZeros_0f7a4 p0 w = some q) : CtI l yJ6_numberOfTrailingZeros_0f7a4 wsJ6_numberOfTrailingZeros_0f7a4 rmJ6_numberOfTrailingZeros_0f7a4 E full [.int p0] w q := by
  refine mkI (cc := cJ6_numberOfTrailingZeros_0f7a4) (maxL := 2) (by decide) rfl (Nat.le_of_ble_eq_true rfl) ?_
  intro p e s m args below meth c Q S hW hQ ls hl
  obtain ⟨hx, hb, hml, hown, hts⟩ := id S
  have hW0 := hW
  have hS : va_S (wA E full) s.heap s.heap [] := va_S.rf
  have hl : lv_has ls 2 [(0, .int p0)] := hl
  have J74 : ∀ (v0 : Int32) (v1 : Int32) (w : Wd) (H : Heap) (locs : List Loc) (ls : Array Slot), jJ6_numberOfTrailingZeros_0f7a4_74 p0 v0 v1 w = some q → World E full w s H → va_S (wA E full) s.heap H locs → lv_has ls 2 [(0, .int v0), (1, .int v1)] → W p l e rmJ6_numberOfTrailingZeros_0f7a4 s m args below meth c H locs 0 0 Q (F0 m 74 ls []) := by
    intro v0 v1 w H locs ls h hW hS hl
    unfold jJ6_numberOfTrailingZeros_0f7a4_74 at h
    refine lv_iload_n hx hb dJ6_numberOfTrailingZeros_0f7a4_74 rfl (lv_at hl 1 rfl) ?_
    refine lv_iload_n hx hb dJ6_numberOfTrailingZeros_0f7a4_75 rfl (lv_at hl 0 rfl) ?_
    refine lv_iconst (v := (1 : Int32)) hx hb dJ6_numberOfTrailingZeros_0f7a4_76 (by decide) ?_
    refine lv_iushr (v := (usr v0 (1 : Int32))) hx hb dJ6_numberOfTrailingZeros_0f7a4_77 rfl ?_
    refine lv_iadd hx hb dJ6_numberOfTrailingZeros_0f7a4_78 ?_
    exact rrI hQ hW hS h dJ6_numberOfTrailingZeros_0f7a4_79
  have J62 : ∀ (v0 : Int32) (v1 : Int32) (w : Wd) (H : Heap) (locs : List Loc) (ls : Array Slot), jJ6_numberOfTrailingZeros_0f7a4_62 p0 v0 v1 w = some q → World E full w s H → va_S (wA E full) s.heap H locs → lv_has ls 2 [(0, .int v0), (1, .int v1)] → W p l e rmJ6_numberOfTrailingZeros_0f7a4 s m args below meth c H locs 0 0 Q (F0 m 62 ls []) := by
    intro v0 v1 w H locs ls h hW hS hl
    unfold jJ6_numberOfTrailingZeros_0f7a4_62 at h
    refine lv_iload_n hx hb dJ6_numberOfTrailingZeros_0f7a4_62 rfl (lv_at hl 0 rfl) ?_
    refine lv_iconst (v := (4 : Int32)) hx hb dJ6_numberOfTrailingZeros_0f7a4_63 (by decide) ?_
    refine rb_icmp_le (tgt := 74) hx hb h dJ6_numberOfTrailingZeros_0f7a4_64 (by decide) (fun h => ?_) (fun h => ?_)
    · exact J74 _ _ _ _ _ _ h hW hS (hl)
    · refine lv_iinc (v := (v1 + (2 : Int32))) (lv' := [(1, .int (v1 + (2 : Int32))), (0, .int v0)]) hx hb dJ6_numberOfTrailingZeros_0f7a4_67 hl (k := 1) rfl rfl (by decide) rfl (fun ls hl => ?_)
      refine lv_iload_n hx hb dJ6_numberOfTrailingZeros_0f7a4_70 rfl (lv_at hl 1 rfl) ?_
      refine lv_iconst (v := (2 : Int32)) hx hb dJ6_numberOfTrailingZeros_0f7a4_71 (by decide) ?_
      refine lv_iushr (v := (usr v0 (2 : Int32))) hx hb dJ6_numberOfTrailingZeros_0f7a4_72 rfl ?_
      refine lv_istore_n (lv' := [(0, .int (usr v0 (2 : Int32))), (1, .int (v1 + (2 : Int32)))]) hx hb dJ6_numberOfTrailingZeros_0f7a4_73 rfl hl (by decide) rfl (fun ls hl => ?_)
      exact J74 _ _ _ _ _ _ h hW hS (hl)
  have J49 : ∀ (v0 : Int32) (v1 : Int32) (w : Wd) (H : Heap) (locs : List Loc) (ls : Array Slot), jJ6_numberOfTrailingZeros_0f7a4_49 p0 v0 v1 w = some q → World E full w s H → va_S (wA E full) s.heap H locs → lv_has ls 2 [(0, .int v0), (1, .int v1)] → W p l e rmJ6_numberOfTrailingZeros_0f7a4 s m args below meth c H locs 0 0 Q (F0 m 49 ls []) := by
    intro v0 v1 w H locs ls h hW hS hl
    unfold jJ6_numberOfTrailingZeros_0f7a4_49 at h
    refine lv_iload_n hx hb dJ6_numberOfTrailingZeros_0f7a4_49 rfl (lv_at hl 0 rfl) ?_
    refine lv_bipush (v := (16 : Int32)) hx hb dJ6_numberOfTrailingZeros_0f7a4_50 (by decide) ?_
    refine rb_icmp_le (tgt := 62) hx hb h dJ6_numberOfTrailingZeros_0f7a4_52 (by decide) (fun h => ?_) (fun h => ?_)
    · exact J62 _ _ _ _ _ _ h hW hS (hl)
    · refine lv_iinc (v := (v1 + (4 : Int32))) (lv' := [(1, .int (v1 + (4 : Int32))), (0, .int v0)]) hx hb dJ6_numberOfTrailingZeros_0f7a4_55 hl (k := 1) rfl rfl (by decide) rfl (fun ls hl => ?_)
      refine lv_iload_n hx hb dJ6_numberOfTrailingZeros_0f7a4_58 rfl (lv_at hl 1 rfl) ?_
      refine lv_iconst (v := (4 : Int32)) hx hb dJ6_numberOfTrailingZeros_0f7a4_59 (by decide) ?_
      refine lv_iushr (v := (usr v0 (4 : Int32))) hx hb dJ6_numberOfTrailingZeros_0f7a4_60 rfl ?_
      refine lv_istore_n (lv' := [(0, .int (usr v0 (4 : Int32))), (1, .int (v1 + (4 : Int32)))]) hx hb dJ6_numberOfTrailingZeros_0f7a4_61 rfl hl (by decide) rfl (fun ls hl => ?_)
      exact J62 _ _ _ _ _ _ h hW hS (hl)
  have J34 : ∀ (v0 : Int32) (v1 : Int32) (w : Wd) (H : Heap) (locs : List Loc) (ls : Array Slot), jJ6_numberOfTrailingZeros_0f7a4_34 p0 v0 v1 w = some q → World E full w s H → va_S (wA E full) s.heap H locs → lv_has ls 2 [(0, .int v0), (1, .int v1)] → W p l e rmJ6_numberOfTrailingZeros_0f7a4 s m args below meth c H locs 0 0 Q (F0 m 34 ls []) := by
    intro v0 v1 w H locs ls h hW hS hl
    unfold jJ6_numberOfTrailingZeros_0f7a4_34 at h
    refine lv_iload_n hx hb dJ6_numberOfTrailingZeros_0f7a4_34 rfl (lv_at hl 0 rfl) ?_
    refine lv_sipush (v := (256 : Int32)) hx hb dJ6_numberOfTrailingZeros_0f7a4_35 (by decide) ?_
    refine rb_icmp_le (tgt := 49) hx hb h dJ6_numberOfTrailingZeros_0f7a4_38 (by decide) (fun h => ?_) (fun h => ?_)
    · exact J49 _ _ _ _ _ _ h hW hS (hl)
    · refine lv_iinc (v := (v1 + (8 : Int32))) (lv' := [(1, .int (v1 + (8 : Int32))), (0, .int v0)]) hx hb dJ6_numberOfTrailingZeros_0f7a4_41 hl (k := 1) rfl rfl (by decide) rfl (fun ls hl => ?_)
      refine lv_iload_n hx hb dJ6_numberOfTrailingZeros_0f7a4_44 rfl (lv_at hl 1 rfl) ?_
      refine lv_bipush (v := (8 : Int32)) hx hb dJ6_numberOfTrailingZeros_0f7a4_45 (by decide) ?_
      refine lv_iushr (v := (usr v0 (8 : Int32))) hx hb dJ6_numberOfTrailingZeros_0f7a4_47 rfl ?_
      refine lv_istore_n (lv' := [(0, .int (usr v0 (8 : Int32))), (1, .int (v1 + (8 : Int32)))]) hx hb dJ6_numberOfTrailingZeros_0f7a4_48 rfl hl (by decide) rfl (fun ls hl => ?_)
      exact J49 _ _ _ _ _ _ h hW hS (hl)
  unfold fJ6_numberOfTrailingZeros_0f7a4 at h
  refine lv_iload_n hx hb dJ6_numberOfTrailingZeros_0f7a4_0 rfl (lv_at hl 0 rfl) ?_
  refine lv_iconst (v := (-1 : Int32)) hx hb dJ6_numberOfTrailingZeros_0f7a4_1 (by decide) ?_
  refine lv_ixor hx hb dJ6_numberOfTrailingZeros_0f7a4_2 ?_
  refine lv_iload_n hx hb dJ6_numberOfTrailingZeros_0f7a4_3 rfl (lv_at hl 0 rfl) ?_
  refine lv_iconst (v := (1 : Int32)) hx hb dJ6_numberOfTrailingZeros_0f7a4_4 (by decide) ?_
  refine lv_isub hx hb dJ6_numberOfTrailingZeros_0f7a4_5 ?_
  refine lv_iand hx hb dJ6_numberOfTrailingZeros_0f7a4_6 ?_
  refine lv_istore_n (lv' := [(0, .int ((p0 ^^^ (-1 : Int32)) &&& (p0 - (1 : Int32))))]) hx hb dJ6_numberOfTrailingZeros_0f7a4_7 rfl hl (by decide) rfl (fun ls hl => ?_)
  refine lv_iload_n hx hb dJ6_numberOfTrailingZeros_0f7a4_8 rfl (lv_at hl 0 rfl) ?_
  refine rb_if_gt (tgt := 17) hx hb h dJ6_numberOfTrailingZeros_0f7a4_9 (by decide) (fun h => ?_) (fun h => ?_)
  · refine lv_iconst (v := (1 : Int32)) hx hb dJ6_numberOfTrailingZeros_0f7a4_17 (by decide) ?_
    refine lv_istore_n (lv' := [(1, .int (1 : Int32)), (0, .int ((p0 ^^^ (-1 : Int32)) &&& (p0 - (1 : Int32))))]) hx hb dJ6_numberOfTrailingZeros_0f7a4_18 rfl hl (by decide) rfl (fun ls hl => ?_)
    refine lv_iload_n hx hb dJ6_numberOfTrailingZeros_0f7a4_19 rfl (lv_at hl 1 rfl) ?_
    refine lv_ldcw (own := RJ6) (v := (65536 : Int32)) hx hb hown (hts _ (by decide +kernel)) dJ6_numberOfTrailingZeros_0f7a4_20 ?_
    refine rb_icmp_le (tgt := 34) hx hb h dJ6_numberOfTrailingZeros_0f7a4_23 (by decide) (fun h => ?_) (fun h => ?_)
    · exact J34 _ _ _ _ _ _ h hW hS (lv_sub hl [1, 0] rfl)
    · refine lv_iinc (v := ((1 : Int32) + (16 : Int32))) (lv' := [(1, .int ((1 : Int32) + (16 : Int32))), (0, .int ((p0 ^^^ (-1 : Int32)) &&& (p0 - (1 : Int32))))]) hx hb dJ6_numberOfTrailingZeros_0f7a4_26 hl (k := 0) rfl rfl (by decide) rfl (fun ls hl => ?_)
      refine lv_iload_n hx hb dJ6_numberOfTrailingZeros_0f7a4_29 rfl (lv_at hl 1 rfl) ?_
      refine lv_bipush (v := (16 : Int32)) hx hb dJ6_numberOfTrailingZeros_0f7a4_30 (by decide) ?_
      refine lv_iushr (v := (usr ((p0 ^^^ (-1 : Int32)) &&& (p0 - (1 : Int32))) (16 : Int32))) hx hb dJ6_numberOfTrailingZeros_0f7a4_32 rfl ?_
      refine lv_istore_n (lv' := [(0, .int (usr ((p0 ^^^ (-1 : Int32)) &&& (p0 - (1 : Int32))) (16 : Int32))), (1, .int ((1 : Int32) + (16 : Int32)))]) hx hb dJ6_numberOfTrailingZeros_0f7a4_33 rfl hl (by decide) rfl (fun ls hl => ?_)
      exact J34 _ _ _ _ _ _ h hW hS (hl)
  · refine lv_iload_n hx hb dJ6_numberOfTrailingZeros_0f7a4_12 rfl (lv_at hl 0 rfl) ?_
    refine lv_bipush (v := (32 : Int32)) hx hb dJ6_numberOfTrailingZeros_0f7a4_13 (by decide) ?_
    refine lv_iand hx hb dJ6_numberOfTrailingZeros_0f7a4_15 ?_
    exact rrI hQ hW hS h dJ6_numberOfTrailingZeros_0f7a4_16
