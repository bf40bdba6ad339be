noncomputable def fX8_sumsAs (p1 : Int32) (w : Wd) : Option (Int32 × Wd) :=
  bnd (fX8_noSlot p1 w) fun x1 w2 => if x1 = 0 then (ixA 4 p1).bind fun j3 => bnd (fX4_takeFrom (6 + j3) w2) fun _ w4 => (ixA 4 p1).bind fun j5 => bnd (fX2_total (6 + j5) w4) fun x6 w7 => some (x6, w7) else some ((-1 : Int32), w2)
abbrev rmX8_sumsAs : Room := { frames := 4, cells := 0, slots := 0, locals := 92 }
set_option maxHeartbeats 4000000 in
set_option maxRecDepth 100000 in
theorem kX8_sumsAs (l : Launch) (E : Ev) (p1 : Int32) (w : Wd) (q : Int32 × Wd) (h : fX8_sumsAs p1 w = some q) : CtI l yX8_sumsAs wsX8_sumsAs rmX8_sumsAs E full [.ref (E.2.1 0), .int p1] w q := by
  refine mkI (cc := cX8_sumsAs) (maxL := 2) (by decide) rfl (Nat.le_of_ble_eq_true rfl) ?_
  intro p e s m args below meth c Q S hW hQ ls hl
  obtain ⟨hx, hb, hml, hown, hts⟩ := id S
  have hW0 := hW
  have hS : va_S (wA E full) s.heap s.heap [] := va_S.rf
  have hl : lv_has ls 2 [(0, .ref (E.2.1 0)), (1, .int p1)] := hl
  have iX8 : ∀ w ∈ wsX80, w ∈ wsX8_sumsAs := by decide +kernel
  have e14 := hts (.fieldLink RX8 14 "CubeHeaps" "ground" "LCubeHeaps$Ground;") (by decide +kernel)
  have e20 := hts (.fieldLink RX8 20 "CubeHeaps" "slots" "[[I") (by decide +kernel)
  have e53 := hts (.fieldLink RX8 53 "CubeHeaps" "sums" "LCubeHeaps$Sums;") (by decide +kernel)
  unfold fX8_sumsAs at h
  refine lv_iload_n hx hb dX8_sumsAs_0 rfl (lv_at hl 1 rfl) ?_
  refine rc_Si (As := [.int p1]) (rest := []) S hW hS h (kX8_noSlot l E p1 w) (va_cwS 1 hts gX8_sumsAs_X8_noSlot rfl rfl rfl hdX8_noSlot ⟨Nat.le_of_ble_eq_true rfl, Nat.le_of_ble_eq_true rfl⟩) rfl hl.1 rfl (Nat.le_of_ble_eq_true rfl) ⟨Nat.zero_le _, Nat.zero_le _⟩ dX8_sumsAs_1 (fun x1 w2 H locs h hW hS => ?_)
  refine rb_if_eq (tgt := 9) hx hb h dX8_sumsAs_4 (by decide) (fun h => ?_) (fun h => ?_)
  · refine lv_aload_n hx hb dX8_sumsAs_9 rfl (lv_at hl 0 rfl) ?_
    refine rw_get hx hb hts iX8 hown hW (fl 0 rfl) rfl rfl 5 (by decide) e53 rfl (v := .ref (E.2.1 79)) rfl dX8_sumsAs_10 ?_
    refine lv_aload_n hx hb dX8_sumsAs_13 rfl (lv_at hl 0 rfl) ?_
    refine rw_get hx hb hts iX8 hown hW (fl 0 rfl) rfl rfl 1 (by decide) e20 rfl (v := .ref (E.2.1 5)) rfl dX8_sumsAs_14 ?_
    refine lv_iload_n hx hb dX8_sumsAs_17 rfl (lv_at hl 1 rfl) ?_
    refine rw_aaldI hx hb hW (fl 5 rfl) rfl h dX8_sumsAs_18 (fun j3 h => ?_)
    refine rc_Vv (k := 79) (As := [.ref (E.2.1 (6 + j3))]) (rest := []) S hW hS h (kX4_takeFrom l E (6 + j3) w2) (cwV 1 hts gX8_sumsAs_X4_takeFrom rfl rfl rfl hdX4_takeFrom ⟨Nat.le_of_ble_eq_true rfl, Nat.le_of_ble_eq_true rfl⟩) (fl 79 rfl) rfl rfl rfl rfl hl.1 rfl (Nat.le_of_ble_eq_true rfl) ⟨Nat.zero_le _, Nat.zero_le _⟩ dX8_sumsAs_19 (fun _ w4 H locs h hW hS => ?_)
    refine lv_aload_n hx hb dX8_sumsAs_22 rfl (lv_at hl 0 rfl) ?_
    refine rw_get hx hb hts iX8 hown hW (fl 0 rfl) rfl rfl 0 (by decide) e14 rfl (v := .ref (E.2.1 1)) rfl dX8_sumsAs_23 ?_
    refine lv_aload_n hx hb dX8_sumsAs_26 rfl (lv_at hl 0 rfl) ?_
    refine rw_get hx hb hts iX8 hown hW (fl 0 rfl) rfl rfl 1 (by decide) e20 rfl (v := .ref (E.2.1 5)) rfl dX8_sumsAs_27 ?_
    refine lv_iload_n hx hb dX8_sumsAs_30 rfl (lv_at hl 1 rfl) ?_
    refine rw_aaldI hx hb hW (fl 5 rfl) rfl h dX8_sumsAs_31 (fun j5 h => ?_)
    refine rc_Vi (k := 1) (As := [.ref (E.2.1 (6 + j5))]) (rest := []) S hW hS h (kX2_total l E (6 + j5) w4) (cwV 1 hts gX8_sumsAs_X2_total rfl rfl rfl hdX2_total ⟨Nat.le_of_ble_eq_true rfl, Nat.le_of_ble_eq_true rfl⟩) (fl 1 rfl) rfl rfl rfl rfl hl.1 rfl (Nat.le_of_ble_eq_true rfl) ⟨Nat.zero_le _, Nat.zero_le _⟩ dX8_sumsAs_32 (fun x6 w7 H locs h hW hS => ?_)
    exact rrI hQ hW hS h dX8_sumsAs_35
  · refine lv_iconst (v := (-1 : Int32)) hx hb dX8_sumsAs_7 (by decide) ?_
    exact rrI hQ hW hS h dX8_sumsAs_8
noncomputable def fX8_bySums  (w : Wd) : Option (Int32 × Wd) :=
  bnd (fX4_noneOneMore w) fun x1 w2 => some (x1, w2)
abbrev rmX8_bySums : Room := { frames := 6, cells := 0, slots := 0, locals := 135 }
set_option maxHeartbeats 4000000 in
set_option maxRecDepth 100000 in
theorem kX8_bySums (l : Launch) (E : Ev)  (w : Wd) (q : Int32 × Wd) (h : fX8_bySums w = some q) : CtI l yX8_bySums wsX8_bySums rmX8_bySums E full [.ref (E.2.1 0)] w q := by
  refine mkI (cc := cX8_bySums) (maxL := 1) (by decide) rfl (Nat.le_of_ble_eq_true rfl) ?_
  intro p e s m args below meth c Q S hW hQ ls hl
  obtain ⟨hx, hb, hml, hown, hts⟩ := id S
  have hW0 := hW
  have hS : va_S (wA E full) s.heap s.heap [] := va_S.rf
  have hl : lv_has ls 1 [(0, .ref (E.2.1 0))] := hl
  have iX8 : ∀ w ∈ wsX80, w ∈ wsX8_bySums := by decide +kernel
  have e53 := hts (.fieldLink RX8 53 "CubeHeaps" "sums" "LCubeHeaps$Sums;") (by decide +kernel)
  unfold fX8_bySums at h
  refine lv_aload_n hx hb dX8_bySums_0 rfl (lv_at hl 0 rfl) ?_
  refine rw_get hx hb hts iX8 hown hW (fl 0 rfl) rfl rfl 5 (by decide) e53 rfl (v := .ref (E.2.1 79)) rfl dX8_bySums_1 ?_
  refine rc_Vi (k := 79) (As := []) (rest := []) S hW hS h (kX4_noneOneMore l E  w) (cwV 0 hts gX8_bySums_X4_noneOneMore rfl rfl rfl hdX4_noneOneMore ⟨Nat.le_of_ble_eq_true rfl, Nat.le_of_ble_eq_true rfl⟩) (fl 79 rfl) rfl rfl rfl rfl hl.1 rfl (Nat.le_of_ble_eq_true rfl) ⟨Nat.zero_le _, Nat.zero_le _⟩ dX8_bySums_4 (fun x1 w2 H locs h hW hS => ?_)
  exact rrI hQ hW hS h dX8_bySums_7
noncomputable def fX8_laySums (p1 : Int32) (w : Wd) : Option (Int32 × Wd) :=
  bnd (fX8_noSlot p1 w) fun x1 w2 => if x1 = 0 then (ixA 4 p1).bind fun j3 => bnd (fX4_fillFirst (6 + j3) w2) fun x4 w5 => if x4 = 0 then some ((-3 : Int32), w5) else (ixA 4 p1).bind fun j6 => bnd (fX2_total (6 + j6) w5) fun x7 w8 => some (x7, w8) else some ((-1 : Int32), w2)
abbrev rmX8_laySums : Room := { frames := 6, cells := 0, slots := 0, locals := 151 }
set_option maxHeartbeats 4000000 in
set_option maxRecDepth 100000 in
theorem kX8_laySums (l : Launch) (E : Ev) (p1 : Int32) (w : Wd) (q : Int32 × Wd) (h : fX8_laySums p1 w = some q) : CtI l yX8_laySums wsX8_laySums rmX8_laySums E full [.ref (E.2.1 0), .int p1] w q := by
  refine mkI (cc := cX8_laySums) (maxL := 2) (by decide) rfl (Nat.le_of_ble_eq_true rfl) ?_
  intro p e s m args below meth c Q S hW hQ ls hl
  obtain ⟨hx, hb, hml, hown, hts⟩ := id S
  have hW0 := hW
  have hS : va_S (wA E full) s.heap s.heap [] := va_S.rf
  have hl : lv_has ls 2 [(0, .ref (E.2.1 0)), (1, .int p1)] := hl
  have iX8 : ∀ w ∈ wsX80, w ∈ wsX8_laySums := by decide +kernel
  have e14 := hts (.fieldLink RX8 14 "CubeHeaps" "ground" "LCubeHeaps$Ground;") (by decide +kernel)
  have e20 := hts (.fieldLink RX8 20 "CubeHeaps" "slots" "[[I") (by decide +kernel)
  have e53 := hts (.fieldLink RX8 53 "CubeHeaps" "sums" "LCubeHeaps$Sums;") (by decide +kernel)
  unfold fX8_laySums at h
  refine lv_iload_n hx hb dX8_laySums_0 rfl (lv_at hl 1 rfl) ?_
  refine rc_Si (As := [.int p1]) (rest := []) S hW hS h (kX8_noSlot l E p1 w) (va_cwS 1 hts gX8_laySums_X8_noSlot rfl rfl rfl hdX8_noSlot ⟨Nat.le_of_ble_eq_true rfl, Nat.le_of_ble_eq_true rfl⟩) rfl hl.1 rfl (Nat.le_of_ble_eq_true rfl) ⟨Nat.zero_le _, Nat.zero_le _⟩ dX8_laySums_1 (fun x1 w2 H locs h hW hS => ?_)
  refine rb_if_eq (tgt := 9) hx hb h dX8_laySums_4 (by decide) (fun h => ?_) (fun h => ?_)
  · refine lv_aload_n hx hb dX8_laySums_9 rfl (lv_at hl 0 rfl) ?_
    refine rw_get hx hb hts iX8 hown hW (fl 0 rfl) rfl rfl 5 (by decide) e53 rfl (v := .ref (E.2.1 79)) rfl dX8_laySums_10 ?_
    refine lv_aload_n hx hb dX8_laySums_13 rfl (lv_at hl 0 rfl) ?_
    refine rw_get hx hb hts iX8 hown hW (fl 0 rfl) rfl rfl 1 (by decide) e20 rfl (v := .ref (E.2.1 5)) rfl dX8_laySums_14 ?_
    refine lv_iload_n hx hb dX8_laySums_17 rfl (lv_at hl 1 rfl) ?_
    refine rw_aaldI hx hb hW (fl 5 rfl) rfl h dX8_laySums_18 (fun j3 h => ?_)
    refine rc_Vi (k := 79) (As := [.ref (E.2.1 (6 + j3))]) (rest := []) S hW hS h (kX4_fillFirst l E (6 + j3) w2) (cwV 1 hts gX8_laySums_X4_fillFirst rfl rfl rfl hdX4_fillFirst ⟨Nat.le_of_ble_eq_true rfl, Nat.le_of_ble_eq_true rfl⟩) (fl 79 rfl) rfl rfl rfl rfl hl.1 rfl (Nat.le_of_ble_eq_true rfl) ⟨Nat.zero_le _, Nat.zero_le _⟩ dX8_laySums_19 (fun x4 w5 H locs h hW hS => ?_)
    refine rb_if_ne (tgt := 28) hx hb h dX8_laySums_22 (by decide) (fun h => ?_) (fun h => ?_)
    · refine lv_aload_n hx hb dX8_laySums_28 rfl (lv_at hl 0 rfl) ?_
      refine rw_get hx hb hts iX8 hown hW (fl 0 rfl) rfl rfl 0 (by decide) e14 rfl (v := .ref (E.2.1 1)) rfl dX8_laySums_29 ?_
      refine lv_aload_n hx hb dX8_laySums_32 rfl (lv_at hl 0 rfl) ?_
      refine rw_get hx hb hts iX8 hown hW (fl 0 rfl) rfl rfl 1 (by decide) e20 rfl (v := .ref (E.2.1 5)) rfl dX8_laySums_33 ?_
      refine lv_iload_n hx hb dX8_laySums_36 rfl (lv_at hl 1 rfl) ?_
      refine rw_aaldI hx hb hW (fl 5 rfl) rfl h dX8_laySums_37 (fun j6 h => ?_)
      refine rc_Vi (k := 1) (As := [.ref (E.2.1 (6 + j6))]) (rest := []) S hW hS h (kX2_total l E (6 + j6) w5) (cwV 1 hts gX8_laySums_X2_total rfl rfl rfl hdX2_total ⟨Nat.le_of_ble_eq_true rfl, Nat.le_of_ble_eq_true rfl⟩) (fl 1 rfl) rfl rfl rfl rfl hl.1 rfl (Nat.le_of_ble_eq_true rfl) ⟨Nat.zero_le _, Nat.zero_le _⟩ dX8_laySums_38 (fun x7 w8 H locs h hW hS => ?_)
      exact rrI hQ hW hS h dX8_laySums_41
    · refine lv_bipush (v := (-3 : Int32)) hx hb dX8_laySums_25 (by decide) ?_
      exact rrI hQ hW hS h dX8_laySums_27
  · refine lv_iconst (v := (-1 : Int32)) hx hb dX8_laySums_7 (by decide) ?_
    exact rrI hQ hW hS h dX8_laySums_8
noncomputable def fX8_spanSums (p1 : Int32) (p2 : Int32) (w : Wd) : Option (Int32 × Wd) :=
  bnd (fX8_noCell p1 w) fun x1 w2 => if x1 = 0 then bnd (fX4_extreme p1 p2 w2) fun x3 w4 => some (x3, w4) else some ((-1 : Int32), w2)
abbrev rmX8_spanSums : Room := { frames := 6, cells := 0, slots := 0, locals := 151 }
set_option maxHeartbeats 4000000 in
set_option maxRecDepth 100000 in
theorem kX8_spanSums (l : Launch) (E : Ev) (p1 : Int32) (p2 : Int32) (w : Wd) (q : Int32 × Wd) (h : fX8_spanSums p1 p2 w = some q) : CtI l yX8_spanSums wsX8_spanSums rmX8_spanSums E full [.ref (E.2.1 0), .int p1, .int p2] w q := by
  refine mkI (cc := cX8_spanSums) (maxL := 3) (by decide) rfl (Nat.le_of_ble_eq_true rfl) ?_
  intro p e s m args below meth c Q S hW hQ ls hl
  obtain ⟨hx, hb, hml, hown, hts⟩ := id S
  have hW0 := hW
  have hS : va_S (wA E full) s.heap s.heap [] := va_S.rf
  have hl : lv_has ls 3 [(0, .ref (E.2.1 0)), (1, .int p1), (2, .int p2)] := hl
  have iX8 : ∀ w ∈ wsX80, w ∈ wsX8_spanSums := by decide +kernel
  have e53 := hts (.fieldLink RX8 53 "CubeHeaps" "sums" "LCubeHeaps$Sums;") (by decide +kernel)
  unfold fX8_spanSums at h
  refine lv_aload_n hx hb dX8_spanSums_0 rfl (lv_at hl 0 rfl) ?_
  refine lv_iload_n hx hb dX8_spanSums_1 rfl (lv_at hl 1 rfl) ?_
  refine rc_Vi (k := 0) (As := [.int p1]) (rest := []) S hW hS h (kX8_noCell l E p1 w) (cwV 1 hts gX8_spanSums_X8_noCell rfl rfl rfl hdX8_noCell ⟨Nat.le_of_ble_eq_true rfl, Nat.le_of_ble_eq_true rfl⟩) (fl 0 rfl) rfl rfl rfl rfl hl.1 rfl (Nat.le_of_ble_eq_true rfl) ⟨Nat.zero_le _, Nat.zero_le _⟩ dX8_spanSums_2 (fun x1 w2 H locs h hW hS => ?_)
  refine rb_if_eq (tgt := 10) hx hb h dX8_spanSums_5 (by decide) (fun h => ?_) (fun h => ?_)
  · refine lv_aload_n hx hb dX8_spanSums_10 rfl (lv_at hl 0 rfl) ?_
    refine rw_get hx hb hts iX8 hown hW (fl 0 rfl) rfl rfl 5 (by decide) e53 rfl (v := .ref (E.2.1 79)) rfl dX8_spanSums_11 ?_
    refine lv_iload_n hx hb dX8_spanSums_14 rfl (lv_at hl 1 rfl) ?_
    refine lv_iload_n hx hb dX8_spanSums_15 rfl (lv_at hl 2 rfl) ?_
    refine rc_Vi (k := 79) (As := [.int p1, .int p2]) (rest := []) S hW hS h (kX4_extreme l E p1 p2 w2) (cwV 2 hts gX8_spanSums_X4_extreme rfl rfl rfl hdX4_extreme ⟨Nat.le_of_ble_eq_true rfl, Nat.le_of_ble_eq_true rfl⟩) (fl 79 rfl) rfl rfl rfl rfl hl.1 rfl (Nat.le_of_ble_eq_true rfl) ⟨Nat.zero_le _, Nat.zero_le _⟩ dX8_spanSums_16 (fun x3 w4 H locs h hW hS => ?_)
    exact rrI hQ hW hS h dX8_spanSums_19
  · refine lv_iconst (v := (-1 : Int32)) hx hb dX8_spanSums_8 (by decide) ?_
    exact rrI hQ hW hS h dX8_spanSums_9
noncomputable def fX8_carry (p1 : Int32) (p2 : Int32) (w : Wd) : Option (Int32 × Wd) :=
  bnd (fX8_noSlot p1 w) fun x1 w2 => if x1 = 0 then bnd (fX8_noSlot p2 w2) fun x3 w4 => if x3 = 0 then (ixA 4 p1).bind fun j5 => (ixA 4 p2).bind fun j6 => bnd (fX0_leastSteps (6 + j5) (6 + j6) w4) fun x7 w8 => some (x7, w8) else some ((-1 : Int32), w4) else some ((-1 : Int32), w2)
abbrev rmX8_carry : Room := { frames := 5, cells := 0, slots := 0, locals := 117 }
set_option maxHeartbeats 4000000 in
set_option maxRecDepth 100000 in
theorem kX8_carry (l : Launch) (E : Ev) (p1 : Int32) (p2 : Int32) (w : Wd) (q : Int32 × Wd) (h : fX8_carry p1 p2 w = some q) : CtI l yX8_carry wsX8_carry rmX8_carry E full [.ref (E.2.1 0), .int p1, .int p2] w q := by
  refine mkI (cc := cX8_carry) (maxL := 3) (by decide) rfl (Nat.le_of_ble_eq_true rfl) ?_
  intro p e s m args below meth c Q S hW hQ ls hl
  obtain ⟨hx, hb, hml, hown, hts⟩ := id S
  have hW0 := hW
  have hS : va_S (wA E full) s.heap s.heap [] := va_S.rf
  have hl : lv_has ls 3 [(0, .ref (E.2.1 0)), (1, .int p1), (2, .int p2)] := hl
  have iX8 : ∀ w ∈ wsX80, w ∈ wsX8_carry := by decide +kernel
  have e20 := hts (.fieldLink RX8 20 "CubeHeaps" "slots" "[[I") (by decide +kernel)
  have e60 := hts (.fieldLink RX8 60 "CubeHeaps" "carrying" "LCubeHeaps$Carrying;") (by decide +kernel)
  unfold fX8_carry at h
  refine lv_iload_n hx hb dX8_carry_0 rfl (lv_at hl 1 rfl) ?_
  refine rc_Si (As := [.int p1]) (rest := []) S hW hS h (kX8_noSlot l E p1 w) (va_cwS 1 hts gX8_carry_X8_noSlot rfl rfl rfl hdX8_noSlot ⟨Nat.le_of_ble_eq_true rfl, Nat.le_of_ble_eq_true rfl⟩) rfl hl.1 rfl (Nat.le_of_ble_eq_true rfl) ⟨Nat.zero_le _, Nat.zero_le _⟩ dX8_carry_1 (fun x1 w2 H locs h hW hS => ?_)
  refine rb_if_ne (tgt := 14) hx hb h dX8_carry_4 (by decide) (fun h => ?_) (fun h => ?_)
  · refine lv_iconst (v := (-1 : Int32)) hx hb dX8_carry_14 (by decide) ?_
    exact rrI hQ hW hS h dX8_carry_15
  · refine lv_iload_n hx hb dX8_carry_7 rfl (lv_at hl 2 rfl) ?_
    refine rc_Si (As := [.int p2]) (rest := []) S hW hS h (kX8_noSlot l E p2 w2) (va_cwS 1 hts gX8_carry_X8_noSlot rfl rfl rfl hdX8_noSlot ⟨Nat.le_of_ble_eq_true rfl, Nat.le_of_ble_eq_true rfl⟩) rfl hl.1 rfl (Nat.le_of_ble_eq_true rfl) ⟨Nat.zero_le _, Nat.zero_le _⟩ dX8_carry_8 (fun x3 w4 H locs h hW hS => ?_)
    refine rb_if_eq (tgt := 16) hx hb h dX8_carry_11 (by decide) (fun h => ?_) (fun h => ?_)
    · refine lv_aload_n hx hb dX8_carry_16 rfl (lv_at hl 0 rfl) ?_
      refine rw_get hx hb hts iX8 hown hW (fl 0 rfl) rfl rfl 6 (by decide) e60 rfl (v := .ref (E.2.1 90)) rfl dX8_carry_17 ?_
      refine lv_aload_n hx hb dX8_carry_20 rfl (lv_at hl 0 rfl) ?_
      refine rw_get hx hb hts iX8 hown hW (fl 0 rfl) rfl rfl 1 (by decide) e20 rfl (v := .ref (E.2.1 5)) rfl dX8_carry_21 ?_
      refine lv_iload_n hx hb dX8_carry_24 rfl (lv_at hl 1 rfl) ?_
      refine rw_aaldI hx hb hW (fl 5 rfl) rfl h dX8_carry_25 (fun j5 h => ?_)
      refine lv_aload_n hx hb dX8_carry_26 rfl (lv_at hl 0 rfl) ?_
      refine rw_get hx hb hts iX8 hown hW (fl 0 rfl) rfl rfl 1 (by decide) e20 rfl (v := .ref (E.2.1 5)) rfl dX8_carry_27 ?_
      refine lv_iload_n hx hb dX8_carry_30 rfl (lv_at hl 2 rfl) ?_
      refine rw_aaldI hx hb hW (fl 5 rfl) rfl h dX8_carry_31 (fun j6 h => ?_)
      refine rc_Vi (k := 90) (As := [.ref (E.2.1 (6 + j5)), .ref (E.2.1 (6 + j6))]) (rest := []) S hW hS h (kX0_leastSteps l E (6 + j5) (6 + j6) w4) (cwV 2 hts gX8_carry_X0_leastSteps rfl rfl rfl hdX0_leastSteps ⟨Nat.le_of_ble_eq_true rfl, Nat.le_of_ble_eq_true rfl⟩) (fl 90 rfl) rfl rfl rfl rfl hl.1 rfl (Nat.le_of_ble_eq_true rfl) ⟨Nat.zero_le _, Nat.zero_le _⟩ dX8_carry_32 (fun x7 w8 H locs h hW hS => ?_)
      exact rrI hQ hW hS h dX8_carry_35
    · refine lv_iconst (v := (-1 : Int32)) hx hb dX8_carry_14 (by decide) ?_
      exact rrI hQ hW hS h dX8_carry_15
noncomputable def fX8_turn (p1 : Int32) (p2 : Int32) (w : Wd) : Option (Int32 × Wd) :=
  bnd (fX8_noSlot p1 w) fun x1 w2 => if x1 = 0 then if p2 < 0 then some ((-2 : Int32), w2) else if p2 < (8 : Int32) then bnd (fX6_keepsGround p2 w2) fun x3 w4 => if x3 = 0 then some ((-3 : Int32), w4) else (ixA 4 p1).bind fun j5 => bnd (fX6_apply (6 + j5) p2 w4) fun x6 w7 => some (x6, w7) else some ((-2 : Int32), w2) else some ((-1 : Int32), w2)
abbrev rmX8_turn : Room := { frames := 4, cells := 0, slots := 0, locals := 94 }
set_option maxHeartbeats 4000000 in
set_option maxRecDepth 100000 in
theorem kX8_turn (l : Launch) (E : Ev) (p1 : Int32) (p2 : Int32) (w : Wd) (q : Int32 × Wd) (h : fX8_turn p1 p2 w = some q) : CtI l yX8_turn wsX8_turn rmX8_turn E full [.ref (E.2.1 0), .int p1, .int p2] w q := by
  refine mkI (cc := cX8_turn) (maxL := 3) (by decide) rfl (Nat.le_of_ble_eq_true rfl) ?_
  intro p e s m args below meth c Q S hW hQ ls hl
  obtain ⟨hx, hb, hml, hown, hts⟩ := id S
  have hW0 := hW
  have hS : va_S (wA E full) s.heap s.heap [] := va_S.rf
  have hl : lv_has ls 3 [(0, .ref (E.2.1 0)), (1, .int p1), (2, .int p2)] := hl
  have iX8 : ∀ w ∈ wsX80, w ∈ wsX8_turn := by decide +kernel
  have e20 := hts (.fieldLink RX8 20 "CubeHeaps" "slots" "[[I") (by decide +kernel)
  have e67 := hts (.fieldLink RX8 67 "CubeHeaps" "turning" "LCubeHeaps$Turning;") (by decide +kernel)
  unfold fX8_turn at h
  refine lv_iload_n hx hb dX8_turn_0 rfl (lv_at hl 1 rfl) ?_
  refine rc_Si (As := [.int p1]) (rest := []) S hW hS h (kX8_noSlot l E p1 w) (va_cwS 1 hts gX8_turn_X8_noSlot rfl rfl rfl hdX8_noSlot ⟨Nat.le_of_ble_eq_true rfl, Nat.le_of_ble_eq_true rfl⟩) rfl hl.1 rfl (Nat.le_of_ble_eq_true rfl) ⟨Nat.zero_le _, Nat.zero_le _⟩ dX8_turn_1 (fun x1 w2 H locs h hW hS => ?_)
  refine rb_if_eq (tgt := 9) hx hb h dX8_turn_4 (by decide) (fun h => ?_) (fun h => ?_)
  · refine lv_iload_n hx hb dX8_turn_9 rfl (lv_at hl 2 rfl) ?_
    refine rb_if_lt (tgt := 19) hx hb h dX8_turn_10 (by decide) (fun h => ?_) (fun h => ?_)
    · refine lv_bipush (v := (-2 : Int32)) hx hb dX8_turn_19 (by decide) ?_
      exact rrI hQ hW hS h dX8_turn_21
    · refine lv_iload_n hx hb dX8_turn_13 rfl (lv_at hl 2 rfl) ?_
      refine lv_bipush (v := (8 : Int32)) hx hb dX8_turn_14 (by decide) ?_
      refine rb_icmp_lt (tgt := 22) hx hb h dX8_turn_16 (by decide) (fun h => ?_) (fun h => ?_)
      · refine lv_aload_n hx hb dX8_turn_22 rfl (lv_at hl 0 rfl) ?_
        refine rw_get hx hb hts iX8 hown hW (fl 0 rfl) rfl rfl 7 (by decide) e67 rfl (v := .ref (E.2.1 96)) rfl dX8_turn_23 ?_
        refine lv_iload_n hx hb dX8_turn_26 rfl (lv_at hl 2 rfl) ?_
        refine rc_Vi (k := 96) (As := [.int p2]) (rest := []) S hW hS h (kX6_keepsGround l E p2 w2) (cwV 1 hts gX8_turn_X6_keepsGround rfl rfl rfl hdX6_keepsGround ⟨Nat.le_of_ble_eq_true rfl, Nat.le_of_ble_eq_true rfl⟩) (fl 96 rfl) rfl rfl rfl rfl hl.1 rfl (Nat.le_of_ble_eq_true rfl) ⟨Nat.zero_le _, Nat.zero_le _⟩ dX8_turn_27 (fun x3 w4 H locs h hW hS => ?_)
        refine rb_if_ne (tgt := 36) hx hb h dX8_turn_30 (by decide) (fun h => ?_) (fun h => ?_)
        · refine lv_aload_n hx hb dX8_turn_36 rfl (lv_at hl 0 rfl) ?_
          refine rw_get hx hb hts iX8 hown hW (fl 0 rfl) rfl rfl 7 (by decide) e67 rfl (v := .ref (E.2.1 96)) rfl dX8_turn_37 ?_
          refine lv_aload_n hx hb dX8_turn_40 rfl (lv_at hl 0 rfl) ?_
          refine rw_get hx hb hts iX8 hown hW (fl 0 rfl) rfl rfl 1 (by decide) e20 rfl (v := .ref (E.2.1 5)) rfl dX8_turn_41 ?_
          refine lv_iload_n hx hb dX8_turn_44 rfl (lv_at hl 1 rfl) ?_
          refine rw_aaldI hx hb hW (fl 5 rfl) rfl h dX8_turn_45 (fun j5 h => ?_)
          refine lv_iload_n hx hb dX8_turn_46 rfl (lv_at hl 2 rfl) ?_
          refine rc_Vi (k := 96) (As := [.ref (E.2.1 (6 + j5)), .int p2]) (rest := []) S hW hS h (kX6_apply l E (6 + j5) p2 w4) (cwV 2 hts gX8_turn_X6_apply rfl rfl rfl hdX6_apply ⟨Nat.le_of_ble_eq_true rfl, Nat.le_of_ble_eq_true rfl⟩) (fl 96 rfl) rfl rfl rfl rfl hl.1 rfl (Nat.le_of_ble_eq_true rfl) ⟨Nat.zero_le _, Nat.zero_le _⟩ dX8_turn_47 (fun x6 w7 H locs h hW hS => ?_)
          exact rrI hQ hW hS h dX8_turn_50
        · refine lv_bipush (v := (-3 : Int32)) hx hb dX8_turn_33 (by decide) ?_
          exact rrI hQ hW hS h dX8_turn_35
      · refine lv_bipush (v := (-2 : Int32)) hx hb dX8_turn_19 (by decide) ?_
        exact rrI hQ hW hS h dX8_turn_21
  · refine lv_iconst (v := (-1 : Int32)) hx hb dX8_turn_7 (by decide) ?_
    exact rrI hQ hW hS h dX8_turn_8
noncomputable def fX8_alike (p1 : Int32) (p2 : Int32) (w : Wd) : Option (Int32 × Wd) :=
  bnd (fX8_noSlot p1 w) fun x1 w2 => if x1 = 0 then bnd (fX8_noSlot p2 w2) fun x3 w4 => if x3 = 0 then (ixA 4 p1).bind fun j5 => (ixA 4 p2).bind fun j6 => bnd (fX6_turnsBetween (6 + j5) (6 + j6) w4) fun x7 w8 => if x7 ≤ 0 then some ((0 : Int32), w8) else some ((1 : Int32), w8) else some ((-1 : Int32), w4) else some ((-1 : Int32), w2)
abbrev rmX8_alike : Room := { frames := 4, cells := 0, slots := 0, locals := 96 }
set_option maxHeartbeats 4000000 in
set_option maxRecDepth 100000 in
theorem kX8_alike (l : Launch) (E : Ev) (p1 : Int32) (p2 : Int32) (w : Wd) (q : Int32 × Wd) (h : fX8_alike p1 p2 w = some q) : CtI l yX8_alike wsX8_alike rmX8_alike E full [.ref (E.2.1 0), .int p1, .int p2] w q := by
  refine mkI (cc := cX8_alike) (maxL := 3) (by decide) rfl (Nat.le_of_ble_eq_true rfl) ?_
  intro p e s m args below meth c Q S hW hQ ls hl
  obtain ⟨hx, hb, hml, hown, hts⟩ := id S
  have hW0 := hW
  have hS : va_S (wA E full) s.heap s.heap [] := va_S.rf
  have hl : lv_has ls 3 [(0, .ref (E.2.1 0)), (1, .int p1), (2, .int p2)] := hl
  have iX8 : ∀ w ∈ wsX80, w ∈ wsX8_alike := by decide +kernel
  have e20 := hts (.fieldLink RX8 20 "CubeHeaps" "slots" "[[I") (by decide +kernel)
  have e67 := hts (.fieldLink RX8 67 "CubeHeaps" "turning" "LCubeHeaps$Turning;") (by decide +kernel)
  unfold fX8_alike at h
  refine lv_iload_n hx hb dX8_alike_0 rfl (lv_at hl 1 rfl) ?_
  refine rc_Si (As := [.int p1]) (rest := []) S hW hS h (kX8_noSlot l E p1 w) (va_cwS 1 hts gX8_alike_X8_noSlot rfl rfl rfl hdX8_noSlot ⟨Nat.le_of_ble_eq_true rfl, Nat.le_of_ble_eq_true rfl⟩) rfl hl.1 rfl (Nat.le_of_ble_eq_true rfl) ⟨Nat.zero_le _, Nat.zero_le _⟩ dX8_alike_1 (fun x1 w2 H locs h hW hS => ?_)
  refine rb_if_ne (tgt := 14) hx hb h dX8_alike_4 (by decide) (fun h => ?_) (fun h => ?_)
  · refine lv_iconst (v := (-1 : Int32)) hx hb dX8_alike_14 (by decide) ?_
    exact rrI hQ hW hS h dX8_alike_15
  · refine lv_iload_n hx hb dX8_alike_7 rfl (lv_at hl 2 rfl) ?_
    refine rc_Si (As := [.int p2]) (rest := []) S hW hS h (kX8_noSlot l E p2 w2) (va_cwS 1 hts gX8_alike_X8_noSlot rfl rfl rfl hdX8_noSlot ⟨Nat.le_of_ble_eq_true rfl, Nat.le_of_ble_eq_true rfl⟩) rfl hl.1 rfl (Nat.le_of_ble_eq_true rfl) ⟨Nat.zero_le _, Nat.zero_le _⟩ dX8_alike_8 (fun x3 w4 H locs h hW hS => ?_)
    refine rb_if_eq (tgt := 16) hx hb h dX8_alike_11 (by decide) (fun h => ?_) (fun h => ?_)
    · refine lv_aload_n hx hb dX8_alike_16 rfl (lv_at hl 0 rfl) ?_
      refine rw_get hx hb hts iX8 hown hW (fl 0 rfl) rfl rfl 7 (by decide) e67 rfl (v := .ref (E.2.1 96)) rfl dX8_alike_17 ?_
      refine lv_aload_n hx hb dX8_alike_20 rfl (lv_at hl 0 rfl) ?_
      refine rw_get hx hb hts iX8 hown hW (fl 0 rfl) rfl rfl 1 (by decide) e20 rfl (v := .ref (E.2.1 5)) rfl dX8_alike_21 ?_
      refine lv_iload_n hx hb dX8_alike_24 rfl (lv_at hl 1 rfl) ?_
      refine rw_aaldI hx hb hW (fl 5 rfl) rfl h dX8_alike_25 (fun j5 h => ?_)
      refine lv_aload_n hx hb dX8_alike_26 rfl (lv_at hl 0 rfl) ?_
      refine rw_get hx hb hts iX8 hown hW (fl 0 rfl) rfl rfl 1 (by decide) e20 rfl (v := .ref (E.2.1 5)) rfl dX8_alike_27 ?_
      refine lv_iload_n hx hb dX8_alike_30 rfl (lv_at hl 2 rfl) ?_
      refine rw_aaldI hx hb hW (fl 5 rfl) rfl h dX8_alike_31 (fun j6 h => ?_)
      refine rc_Vi (k := 96) (As := [.ref (E.2.1 (6 + j5)), .ref (E.2.1 (6 + j6))]) (rest := []) S hW hS h (kX6_turnsBetween l E (6 + j5) (6 + j6) w4) (cwV 2 hts gX8_alike_X6_turnsBetween rfl rfl rfl hdX6_turnsBetween ⟨Nat.le_of_ble_eq_true rfl, Nat.le_of_ble_eq_true rfl⟩) (fl 96 rfl) rfl rfl rfl rfl hl.1 rfl (Nat.le_of_ble_eq_true rfl) ⟨Nat.zero_le _, Nat.zero_le _⟩ dX8_alike_32 (fun x7 w8 H locs h hW hS => ?_)
      refine rb_if_le (tgt := 42) hx hb h dX8_alike_35 (by decide) (fun h => ?_) (fun h => ?_)
      · refine lv_iconst (v := (0 : Int32)) hx hb dX8_alike_42 (by decide) ?_
        exact rrI hQ hW hS h dX8_alike_43
      · refine lv_iconst (v := (1 : Int32)) hx hb dX8_alike_38 (by decide) ?_
        refine lv_goto (tgt := 43) hx hb dX8_alike_39 (by decide) ?_
        exact rrI hQ hW hS h dX8_alike_43
    · refine lv_iconst (v := (-1 : Int32)) hx hb dX8_alike_14 (by decide) ?_
      exact rrI hQ hW hS h dX8_alike_15
noncomputable def fX8_same (p1 : Int32) (w : Wd) : Option (Int32 × Wd) :=
  bnd (fX8_noSlot p1 w) fun x1 w2 => if x1 = 0 then (ixA 4 p1).bind fun j3 => (ixA 4 p1).bind fun j4 => bnd (fX6_turnsBetween (6 + j3) (6 + j4) w2) fun x5 w6 => some (x5, w6) else some ((-1 : Int32), w2)
abbrev rmX8_same : Room := { frames := 4, cells := 0, slots := 0, locals := 96 }
set_option maxHeartbeats 4000000 in
set_option maxRecDepth 100000 in
theorem kX8_same (l : Launch) (E : Ev) (p1 : Int32) (w : Wd) (q : Int32 × Wd) (h : fX8_same p1 w = some q) : CtI l yX8_same wsX8_same rmX8_same E full [.ref (E.2.1 0), .int p1] w q := by
  refine mkI (cc := cX8_same) (maxL := 2) (by decide) rfl (Nat.le_of_ble_eq_true rfl) ?_
  intro p e s m args below meth c Q S hW hQ ls hl
  obtain ⟨hx, hb, hml, hown, hts⟩ := id S
  have hW0 := hW
  have hS : va_S (wA E full) s.heap s.heap [] := va_S.rf
  have hl : lv_has ls 2 [(0, .ref (E.2.1 0)), (1, .int p1)] := hl
  have iX8 : ∀ w ∈ wsX80, w ∈ wsX8_same := by decide +kernel
  have e20 := hts (.fieldLink RX8 20 "CubeHeaps" "slots" "[[I") (by decide +kernel)
  have e67 := hts (.fieldLink RX8 67 "CubeHeaps" "turning" "LCubeHeaps$Turning;") (by decide +kernel)
  unfold fX8_same at h
  refine lv_iload_n hx hb dX8_same_0 rfl (lv_at hl 1 rfl) ?_
  refine rc_Si (As := [.int p1]) (rest := []) S hW hS h (kX8_noSlot l E p1 w) (va_cwS 1 hts gX8_same_X8_noSlot rfl rfl rfl hdX8_noSlot ⟨Nat.le_of_ble_eq_true rfl, Nat.le_of_ble_eq_true rfl⟩) rfl hl.1 rfl (Nat.le_of_ble_eq_true rfl) ⟨Nat.zero_le _, Nat.zero_le _⟩ dX8_same_1 (fun x1 w2 H locs h hW hS => ?_)
  refine rb_if_eq (tgt := 9) hx hb h dX8_same_4 (by decide) (fun h => ?_) (fun h => ?_)
  · refine lv_aload_n hx hb dX8_same_9 rfl (lv_at hl 0 rfl) ?_
    refine rw_get hx hb hts iX8 hown hW (fl 0 rfl) rfl rfl 7 (by decide) e67 rfl (v := .ref (E.2.1 96)) rfl dX8_same_10 ?_
    refine lv_aload_n hx hb dX8_same_13 rfl (lv_at hl 0 rfl) ?_
    refine rw_get hx hb hts iX8 hown hW (fl 0 rfl) rfl rfl 1 (by decide) e20 rfl (v := .ref (E.2.1 5)) rfl dX8_same_14 ?_
    refine lv_iload_n hx hb dX8_same_17 rfl (lv_at hl 1 rfl) ?_
    refine rw_aaldI hx hb hW (fl 5 rfl) rfl h dX8_same_18 (fun j3 h => ?_)
    refine lv_aload_n hx hb dX8_same_19 rfl (lv_at hl 0 rfl) ?_
    refine rw_get hx hb hts iX8 hown hW (fl 0 rfl) rfl rfl 1 (by decide) e20 rfl (v := .ref (E.2.1 5)) rfl dX8_same_20 ?_
    refine lv_iload_n hx hb dX8_same_23 rfl (lv_at hl 1 rfl) ?_
    refine rw_aaldI hx hb hW (fl 5 rfl) rfl h dX8_same_24 (fun j4 h => ?_)
    refine rc_Vi (k := 96) (As := [.ref (E.2.1 (6 + j3)), .ref (E.2.1 (6 + j4))]) (rest := []) S hW hS h (kX6_turnsBetween l E (6 + j3) (6 + j4) w2) (cwV 2 hts gX8_same_X6_turnsBetween rfl rfl rfl hdX6_turnsBetween ⟨Nat.le_of_ble_eq_true rfl, Nat.le_of_ble_eq_true rfl⟩) (fl 96 rfl) rfl rfl rfl rfl hl.1 rfl (Nat.le_of_ble_eq_true rfl) ⟨Nat.zero_le _, Nat.zero_le _⟩ dX8_same_25 (fun x5 w6 H locs h hW hS => ?_)
    exact rrI hQ hW hS h dX8_same_28
  · refine lv_iconst (v := (-1 : Int32)) hx hb dX8_same_7 (by decide) ?_
    exact rrI hQ hW hS h dX8_same_8
noncomputable def fX8_least (p1 : Int32) (w : Wd) : Option (Int32 × Wd) :=
  bnd (fX8_noSlot p1 w) fun x1 w2 => if x1 = 0 then (ixA 4 p1).bind fun j3 => bnd (fX6_toFirst (6 + j3) w2) fun x4 w5 => (ixA 4 p1).bind fun j6 => bnd (fX6_apply (6 + j6) x4 w5) fun x7 w8 => some (x4, w8) else some ((-1 : Int32), w2)
abbrev rmX8_least : Room := { frames := 4, cells := 0, slots := 0, locals := 95 }
set_option maxHeartbeats 4000000 in
set_option maxRecDepth 100000 in
theorem kX8_least (l : Launch) (E : Ev) (p1 : Int32) (w : Wd) (q : Int32 × Wd) (h : fX8_least p1 w = some q) : CtI l yX8_least wsX8_least rmX8_least E full [.ref (E.2.1 0), .int p1] w q := by
  refine mkI (cc := cX8_least) (maxL := 3) (by decide) rfl (Nat.le_of_ble_eq_true rfl) ?_
  intro p e s m args below meth c Q S hW hQ ls hl
  obtain ⟨hx, hb, hml, hown, hts⟩ := id S
  have hW0 := hW
  have hS : va_S (wA E full) s.heap s.heap [] := va_S.rf
  have hl : lv_has ls 3 [(0, .ref (E.2.1 0)), (1, .int p1)] := hl
  have iX8 : ∀ w ∈ wsX80, w ∈ wsX8_least := by decide +kernel
  have e20 := hts (.fieldLink RX8 20 "CubeHeaps" "slots" "[[I") (by decide +kernel)
  have e67 := hts (.fieldLink RX8 67 "CubeHeaps" "turning" "LCubeHeaps$Turning;") (by decide +kernel)
  unfold fX8_least at h
  refine lv_iload_n hx hb dX8_least_0 rfl (lv_at hl 1 rfl) ?_
  refine rc_Si (As := [.int p1]) (rest := []) S hW hS h (kX8_noSlot l E p1 w) (va_cwS 1 hts gX8_least_X8_noSlot rfl rfl rfl hdX8_noSlot ⟨Nat.le_of_ble_eq_true rfl, Nat.le_of_ble_eq_true rfl⟩) rfl hl.1 rfl (Nat.le_of_ble_eq_true rfl) ⟨Nat.zero_le _, Nat.zero_le _⟩ dX8_least_1 (fun x1 w2 H locs h hW hS => ?_)
  refine rb_if_eq (tgt := 9) hx hb h dX8_least_4 (by decide) (fun h => ?_) (fun h => ?_)
  · refine lv_aload_n hx hb dX8_least_9 rfl (lv_at hl 0 rfl) ?_
    refine rw_get hx hb hts iX8 hown hW (fl 0 rfl) rfl rfl 7 (by decide) e67 rfl (v := .ref (E.2.1 96)) rfl dX8_least_10 ?_
    refine lv_aload_n hx hb dX8_least_13 rfl (lv_at hl 0 rfl) ?_
    refine rw_get hx hb hts iX8 hown hW (fl 0 rfl) rfl rfl 1 (by decide) e20 rfl (v := .ref (E.2.1 5)) rfl dX8_least_14 ?_
    refine lv_iload_n hx hb dX8_least_17 rfl (lv_at hl 1 rfl) ?_
    refine rw_aaldI hx hb hW (fl 5 rfl) rfl h dX8_least_18 (fun j3 h => ?_)
    refine rc_Vi (k := 96) (As := [.ref (E.2.1 (6 + j3))]) (rest := []) S hW hS h (kX6_toFirst l E (6 + j3) w2) (cwV 1 hts gX8_least_X6_toFirst rfl rfl rfl hdX6_toFirst ⟨Nat.le_of_ble_eq_true rfl, Nat.le_of_ble_eq_true rfl⟩) (fl 96 rfl) rfl rfl rfl rfl hl.1 rfl (Nat.le_of_ble_eq_true rfl) ⟨Nat.zero_le _, Nat.zero_le _⟩ dX8_least_19 (fun x4 w5 H locs h hW hS => ?_)
    refine lv_istore_n (lv' := [(2, .int x4), (0, .ref (E.2.1 0)), (1, .int p1)]) hx hb dX8_least_22 rfl hl (by decide) rfl (fun ls hl => ?_)
    refine lv_aload_n hx hb dX8_least_23 rfl (lv_at hl 1 rfl) ?_
    refine rw_get hx hb hts iX8 hown hW (fl 0 rfl) rfl rfl 7 (by decide) e67 rfl (v := .ref (E.2.1 96)) rfl dX8_least_24 ?_
    refine lv_aload_n hx hb dX8_least_27 rfl (lv_at hl 1 rfl) ?_
    refine rw_get hx hb hts iX8 hown hW (fl 0 rfl) rfl rfl 1 (by decide) e20 rfl (v := .ref (E.2.1 5)) rfl dX8_least_28 ?_
    refine lv_iload_n hx hb dX8_least_31 rfl (lv_at hl 2 rfl) ?_
    refine rw_aaldI hx hb hW (fl 5 rfl) rfl h dX8_least_32 (fun j6 h => ?_)
    refine lv_iload_n hx hb dX8_least_33 rfl (lv_at hl 0 rfl) ?_
    refine rc_Vi (k := 96) (As := [.ref (E.2.1 (6 + j6)), .int x4]) (rest := []) S hW hS h (kX6_apply l E (6 + j6) x4 w5) (cwV 2 hts gX8_least_X6_apply rfl rfl rfl hdX6_apply ⟨Nat.le_of_ble_eq_true rfl, Nat.le_of_ble_eq_true rfl⟩) (fl 96 rfl) rfl rfl rfl rfl hl.1 rfl (Nat.le_of_ble_eq_true rfl) ⟨Nat.zero_le _, Nat.zero_le _⟩ dX8_least_34 (fun x7 w8 H locs h hW hS => ?_)
    refine lv_pop hx hb dX8_least_37 rfl ?_
    refine lv_iload_n hx hb dX8_least_38 rfl (lv_at hl 0 rfl) ?_
    exact rrI hQ hW hS h dX8_least_39
  · refine lv_iconst (v := (-1 : Int32)) hx hb dX8_least_7 (by decide) ?_
    exact rrI hQ hW hS h dX8_least_8
noncomputable def fX8_about (p1 : Int32) (w : Wd) : Option (Int32 × Wd) :=
  if p1 = 0 then bnd (fX2_lines (1 : Int32) w) fun x1 w2 => some (x1, w2) else if p1 = 1 then bnd (fX2_lines (0 : Int32) w) fun x3 w4 => some (x3, w4) else if p1 = 2 then bnd (fX5_linesTold w) fun x5 w6 => some (x5, w6) else if p1 = 3 then bnd (fX5_topsTold w) fun x7 w8 => some (x7, w8) else if p1 = 4 then bnd (fX2_cells w) fun x9 w10 => some (x9, w10) else some ((-2 : Int32), w)
abbrev rmX8_about : Room := { frames := 4, cells := 0, slots := 0, locals := 87 }
set_option maxHeartbeats 4000000 in
set_option maxRecDepth 100000 in
theorem kX8_about (l : Launch) (E : Ev) (p1 : Int32) (w : Wd) (q : Int32 × Wd) (h : fX8_about p1 w = some q) : CtI l yX8_about wsX8_about rmX8_about E full [.ref (E.2.1 0), .int p1] w q := by
  refine mkI (cc := cX8_about) (maxL := 2) (by decide) rfl (Nat.le_of_ble_eq_true rfl) ?_
  intro p e s m args below meth c Q S hW hQ ls hl
  obtain ⟨hx, hb, hml, hown, hts⟩ := id S
  have hW0 := hW
  have hS : va_S (wA E full) s.heap s.heap [] := va_S.rf
  have hl : lv_has ls 2 [(0, .ref (E.2.1 0)), (1, .int p1)] := hl
  have iX8 : ∀ w ∈ wsX80, w ∈ wsX8_about := by decide +kernel
  have e14 := hts (.fieldLink RX8 14 "CubeHeaps" "ground" "LCubeHeaps$Ground;") (by decide +kernel)
  have e37 := hts (.fieldLink RX8 37 "CubeHeaps" "told" "LCubeHeaps$Told;") (by decide +kernel)
  unfold fX8_about at h
  refine lv_iload_n hx hb dX8_about_0 rfl (lv_at hl 1 rfl) ?_
  by_cases c0 : p1 = 0
  · rw [if_pos c0] at h
    refine lv_tableIn (off := 35) (tgt := 36) hx hb dX8_about_1 (by rw [c0]; decide) (by rw [c0]; decide) (by rw [c0]; rfl) (by decide) ?_
    refine lv_aload_n hx hb dX8_about_36 rfl (lv_at hl 0 rfl) ?_
    refine rw_get hx hb hts iX8 hown hW (fl 0 rfl) rfl rfl 0 (by decide) e14 rfl (v := .ref (E.2.1 1)) rfl dX8_about_37 ?_
    refine lv_iconst (v := (1 : Int32)) hx hb dX8_about_40 (by decide) ?_
    refine rc_Vi (k := 1) (As := [.int (1 : Int32)]) (rest := []) S hW hS h (kX2_lines l E (1 : Int32) w) (cwV 1 hts gX8_about_X2_lines rfl rfl rfl hdX2_lines ⟨Nat.le_of_ble_eq_true rfl, Nat.le_of_ble_eq_true rfl⟩) (fl 1 rfl) rfl rfl rfl rfl hl.1 rfl (Nat.le_of_ble_eq_true rfl) ⟨Nat.zero_le _, Nat.zero_le _⟩ dX8_about_41 (fun x1 w2 H locs h hW hS => ?_)
    exact rrI hQ hW hS h dX8_about_44
  rw [if_neg c0] at h
  by_cases c1 : p1 = 1
  · rw [if_pos c1] at h
    refine lv_tableIn (off := 44) (tgt := 45) hx hb dX8_about_1 (by rw [c1]; decide) (by rw [c1]; decide) (by rw [c1]; rfl) (by decide) ?_
    refine lv_aload_n hx hb dX8_about_45 rfl (lv_at hl 0 rfl) ?_
    refine rw_get hx hb hts iX8 hown hW (fl 0 rfl) rfl rfl 0 (by decide) e14 rfl (v := .ref (E.2.1 1)) rfl dX8_about_46 ?_
    refine lv_iconst (v := (0 : Int32)) hx hb dX8_about_49 (by decide) ?_
    refine rc_Vi (k := 1) (As := [.int (0 : Int32)]) (rest := []) S hW hS h (kX2_lines l E (0 : Int32) w) (cwV 1 hts gX8_about_X2_lines rfl rfl rfl hdX2_lines ⟨Nat.le_of_ble_eq_true rfl, Nat.le_of_ble_eq_true rfl⟩) (fl 1 rfl) rfl rfl rfl rfl hl.1 rfl (Nat.le_of_ble_eq_true rfl) ⟨Nat.zero_le _, Nat.zero_le _⟩ dX8_about_50 (fun x3 w4 H locs h hW hS => ?_)
    exact rrI hQ hW hS h dX8_about_53
  rw [if_neg c1] at h
  by_cases c2 : p1 = 2
  · rw [if_pos c2] at h
    refine lv_tableIn (off := 53) (tgt := 54) hx hb dX8_about_1 (by rw [c2]; decide) (by rw [c2]; decide) (by rw [c2]; rfl) (by decide) ?_
    refine lv_aload_n hx hb dX8_about_54 rfl (lv_at hl 0 rfl) ?_
    refine rw_get hx hb hts iX8 hown hW (fl 0 rfl) rfl rfl 3 (by decide) e37 rfl (v := .ref (E.2.1 14)) rfl dX8_about_55 ?_
    refine rc_Vi (k := 14) (As := []) (rest := []) S hW hS h (kX5_linesTold l E  w) (cwV 0 hts gX8_about_X5_linesTold rfl rfl rfl hdX5_linesTold ⟨Nat.le_of_ble_eq_true rfl, Nat.le_of_ble_eq_true rfl⟩) (fl 14 rfl) rfl rfl rfl rfl hl.1 rfl (Nat.le_of_ble_eq_true rfl) ⟨Nat.zero_le _, Nat.zero_le _⟩ dX8_about_58 (fun x5 w6 H locs h hW hS => ?_)
    exact rrI hQ hW hS h dX8_about_61
  rw [if_neg c2] at h
  by_cases c3 : p1 = 3
  · rw [if_pos c3] at h
    refine lv_tableIn (off := 61) (tgt := 62) hx hb dX8_about_1 (by rw [c3]; decide) (by rw [c3]; decide) (by rw [c3]; rfl) (by decide) ?_
    refine lv_aload_n hx hb dX8_about_62 rfl (lv_at hl 0 rfl) ?_
    refine rw_get hx hb hts iX8 hown hW (fl 0 rfl) rfl rfl 3 (by decide) e37 rfl (v := .ref (E.2.1 14)) rfl dX8_about_63 ?_
    refine rc_Vi (k := 14) (As := []) (rest := []) S hW hS h (kX5_topsTold l E  w) (cwV 0 hts gX8_about_X5_topsTold rfl rfl rfl hdX5_topsTold ⟨Nat.le_of_ble_eq_true rfl, Nat.le_of_ble_eq_true rfl⟩) (fl 14 rfl) rfl rfl rfl rfl hl.1 rfl (Nat.le_of_ble_eq_true rfl) ⟨Nat.zero_le _, Nat.zero_le _⟩ dX8_about_66 (fun x7 w8 H locs h hW hS => ?_)
    exact rrI hQ hW hS h dX8_about_69
  rw [if_neg c3] at h
  by_cases c4 : p1 = 4
  · rw [if_pos c4] at h
    refine lv_tableIn (off := 69) (tgt := 70) hx hb dX8_about_1 (by rw [c4]; decide) (by rw [c4]; decide) (by rw [c4]; rfl) (by decide) ?_
    refine lv_aload_n hx hb dX8_about_70 rfl (lv_at hl 0 rfl) ?_
    refine rw_get hx hb hts iX8 hown hW (fl 0 rfl) rfl rfl 0 (by decide) e14 rfl (v := .ref (E.2.1 1)) rfl dX8_about_71 ?_
    refine rc_Vi (k := 1) (As := []) (rest := []) S hW hS h (kX2_cells l E  w) (cwV 0 hts gX8_about_X2_cells rfl rfl rfl hdX2_cells ⟨Nat.le_of_ble_eq_true rfl, Nat.le_of_ble_eq_true rfl⟩) (fl 1 rfl) rfl rfl rfl rfl hl.1 rfl (Nat.le_of_ble_eq_true rfl) ⟨Nat.zero_le _, Nat.zero_le _⟩ dX8_about_74 (fun x9 w10 H locs h hW hS => ?_)
    exact rrI hQ hW hS h dX8_about_77
  rw [if_neg c4] at h
  refine lv_tableOut (tgt := 78) hx hb dX8_about_1 (by have z0 := lv_neT c0 (a := 0) (by decide); have z1 := lv_neT c1 (a := 1) (by decide); have z2 := lv_neT c2 (a := 2) (by decide); have z3 := lv_neT c3 (a := 3) (by decide); have z4 := lv_neT c4 (a := 4) (by decide); omega) (by decide) ?_
  refine lv_bipush (v := (-2 : Int32)) hx hb dX8_about_78 (by decide) ?_
  exact rrI hQ hW hS h dX8_about_80
noncomputable def fX9_in (p0 : Int64) (p2 : Int64) (p4 : Int64) (w : Wd) : Option (Int32 × Wd) :=
  if p0 < p2 then zr (0 : Int32) w else if p4 < p0 then zr (0 : Int32) w else zr (1 : Int32) w
abbrev rmX9_in : Room := { frames := 0, cells := 0, slots := 0, locals := 0 }
set_option maxHeartbeats 4000000 in
set_option maxRecDepth 100000 in
theorem kX9_in (l : Launch) (E : Ev) (p0 : Int64) (p2 : Int64) (p4 : Int64) (w : Wd) (q : Int32 × Wd) (h : fX9_in p0 p2 p4 w = some q) : CtI l yX9_in wsX9_in rmX9_in E full [.long p0, .long p2, .long p4] w q := by
  refine mkZ (cc := cX9_in) (maxL := 6) (by decide) rfl (Nat.le_of_ble_eq_true rfl) ?_
  intro p e s m args below meth c Q S hW hQ ls hl
  obtain ⟨hx, hb, hml, hown, hts⟩ := id S
  have hW0 := hW
  have hS : va_S (wA E full) s.heap s.heap [] := va_S.rf
  have hl : lv_has ls 6 [(0, .long p0), (2, .long p2), (4, .long p4)] := hl
  unfold fX9_in at h
  refine lv_lload_n hx hb dX9_in_0 rfl (lv_at hl 0 rfl) ?_
  refine lv_lload_n hx hb dX9_in_1 rfl (lv_at hl 1 rfl) ?_
  refine rb_lcmp_lt (tgt := 17) hx hb h dX9_in_2 dX9_in_3 (by decide) (fun h => ?_) (fun h => ?_)
  · refine lv_iconst (v := (0 : Int32)) hx hb dX9_in_17 (by decide) ?_
    exact rrZ hQ hW hS h dX9_in_18
  · refine lv_lload_n hx hb dX9_in_6 rfl (lv_at hl 0 rfl) ?_
    refine lv_lload hx hb dX9_in_7 (lv_at hl 2 rfl) ?_
    refine rb_lcmp_gt (tgt := 17) hx hb h dX9_in_9 dX9_in_10 (by decide) (fun h => ?_) (fun h => ?_)
    · refine lv_iconst (v := (0 : Int32)) hx hb dX9_in_17 (by decide) ?_
      exact rrZ hQ hW hS h dX9_in_18
    · refine lv_iconst (v := (1 : Int32)) hx hb dX9_in_13 (by decide) ?_
      refine lv_goto (tgt := 18) hx hb dX9_in_14 (by decide) ?_
      exact rrZ hQ hW hS h dX9_in_18
noncomputable def bX9_layGround_76 (p1 : Int32) (p2 : Int32) (k76 : Int32 → Wd → Option (Unit × Wd)) (v3 : Int32)  (w : Wd) : Option (Unit × Wd) :=
  if (25 : Int32) ≤ v3 then some ((), w) else (sI w 103 v3 (-9 : Int32)).bind fun w6 => k76 (v3 + (1 : Int32)) w6
noncomputable def bX9_layGround_33 (p1 : Int32) (p2 : Int32) (k33 : Int32 → Wd → Option (Unit × Wd)) (v3 : Int32)  (w : Wd) : Option (Unit × Wd) :=
  if (5 : Int32) ≤ v3 then lp (fun _ _ => none) (bX9_layGround_76 p1 p2) G (0 : Int32) w else (sI w 101 v3 (-9 : Int32)).bind fun w2 => (sI w2 102 v3 (-9 : Int32)).bind fun w3 => (sI w3 104 v3 (0 : Int32)).bind fun w4 => (sI w4 105 v3 (0 : Int32)).bind fun w5 => k33 (v3 + (1 : Int32)) w5
noncomputable def bX9_layGround_12 (p1 : Int32) (p2 : Int32) (k12 : Int32 → Wd → Option (Unit × Wd)) (v3 : Int32)  (w : Wd) : Option (Unit × Wd) :=
  if (100 : Int32) ≤ v3 then lp (fun _ _ => none) (bX9_layGround_33 p1 p2) G (0 : Int32) w else (sI w 100 v3 (0 : Int32)).bind fun w1 => k12 (v3 + (1 : Int32)) w1
noncomputable def fX9_layGround (p1 : Int32) (p2 : Int32) (w : Wd) : Option (Unit × Wd) :=
  lp (fun _ _ => none) (bX9_layGround_12 p1 p2) G (0 : Int32) (uI (uI w 99 0 p1) 99 1 p2)
abbrev rmX9_layGround : Room := { frames := 0, cells := 0, slots := 0, locals := 0 }
set_option maxHeartbeats 4000000 in
set_option maxRecDepth 100000 in
theorem kX9_layGround (l : Launch) (E : Ev) (rs : Nat → Prop) (hrs : ∀ k ∈ ([99, 100, 101, 102, 103, 104, 105] : List Nat), rs k) (p1 : Int32) (p2 : Int32) (w : Wd) (q : Unit × Wd) (h : fX9_layGround p1 p2 w = some q) : CtV l yX9_layGround wsX9_layGround rmX9_layGround E rs [.ref (E.2.1 99), .int p1, .int p2] w q := by
  refine mkV (cc := cX9_layGround) (maxL := 4) (by decide) rfl (Nat.le_of_ble_eq_true rfl) ?_
  intro p e s m args below meth c Q S hW hQ ls hl
  obtain ⟨hx, hb, hml, hown, hts⟩ := id S
  have hW0 := hW
  have hS : va_S (wA E rs) s.heap s.heap [] := va_S.rf
  have hl : lv_has ls 4 [(0, .ref (E.2.1 99)), (1, .int p1), (2, .int p2)] := hl
  have iX9 : ∀ w ∈ wsX90, w ∈ wsX9_layGround := by decide +kernel
  have e7 := hts (.fieldLink RX9 7 "CubeHeapsModel" "heap" "[I") (by decide +kernel)
  have e13 := hts (.fieldLink RX9 13 "CubeHeapsModel" "fronts" "[I") (by decide +kernel)
  have e16 := hts (.fieldLink RX9 16 "CubeHeapsModel" "sides" "[I") (by decide +kernel)
  have e19 := hts (.fieldLink RX9 19 "CubeHeapsModel" "tops" "[I") (by decide +kernel)
  have e22 := hts (.fieldLink RX9 22 "CubeHeapsModel" "columnSum" "[I") (by decide +kernel)
  have e25 := hts (.fieldLink RX9 25 "CubeHeapsModel" "rowSum" "[I") (by decide +kernel)
  have e85 := hts (.fieldLink RX9 85 "CubeHeapsModel" "wide" "I") (by decide +kernel)
  have e88 := hts (.fieldLink RX9 88 "CubeHeapsModel" "tall" "I") (by decide +kernel)
  have J76 : ∀ (n : Nat) (v3 : Int32) (w : Wd) (H : Heap) (locs : List Loc) (ls : Array Slot), lp (fun _ _ => none) (bX9_layGround_76 p1 p2) n v3 w = some q → World E rs w s H → va_S (wA E rs) s.heap H locs → lv_has ls 4 [(0, .ref (E.2.1 99)), (3, .int v3)] → W p l e rmX9_layGround s m args below meth c H locs 0 0 Q (F0 m 76 ls []) := by
    intro n
    induction n with
    | zero =>
      intro v3 w H locs ls h hW hS hl
      exact absurd (show (none : Option (Unit × Wd)) = some q from h) (fun z => by cases z)
    | succ n ih76 =>
      intro v3 w H locs ls h hW hS hl
      have h : bX9_layGround_76 p1 p2 (lp (fun _ _ => none) (bX9_layGround_76 p1 p2) n) v3 w = some q := h
      generalize lp (fun _ _ => none) (bX9_layGround_76 p1 p2) n = k76 at h ih76
      unfold bX9_layGround_76 at h
      refine lv_iload_n hx hb dX9_layGround_76 rfl (lv_at hl 1 rfl) ?_
      refine lv_bipush (v := (25 : Int32)) hx hb dX9_layGround_77 (by decide) ?_
      refine rb_icmp_ge (tgt := 96) hx hb h dX9_layGround_79 (by decide) (fun h => ?_) (fun h => ?_)
      · exact rrV hQ hW hS h dX9_layGround_96
      · refine lv_aload_n hx hb dX9_layGround_82 rfl (lv_at hl 0 rfl) ?_
        refine rw_get hx hb hts iX9 hown hW (hrs 99 (by decide)) rfl rfl 5 (by decide) e19 rfl (v := .ref (E.2.1 103)) rfl dX9_layGround_83 ?_
        refine lv_iload_n hx hb dX9_layGround_86 rfl (lv_at hl 1 rfl) ?_
        refine lv_bipush (v := (-9 : Int32)) hx hb dX9_layGround_87 (by decide) ?_
        refine rw_iast hx hb hW hS (fun _ => (hrs 103 (by decide))) h dX9_layGround_89 (fun w6 H locs h hW hS => ?_)
        refine lv_iinc (v := (v3 + (1 : Int32))) (lv' := [(3, .int (v3 + (1 : Int32))), (0, .ref (E.2.1 99))]) hx hb dX9_layGround_90 hl (k := 1) rfl rfl (by decide) rfl (fun ls hl => ?_)
        refine lv_goto (tgt := 76) hx hb dX9_layGround_93 (by decide) ?_
        exact ih76 _ _ _ _ _ h hW hS (lv_sub hl [1, 0] rfl)
  have J33 : ∀ (n : Nat) (v3 : Int32) (w : Wd) (H : Heap) (locs : List Loc) (ls : Array Slot), lp (fun _ _ => none) (bX9_layGround_33 p1 p2) n v3 w = some q → World E rs w s H → va_S (wA E rs) s.heap H locs → lv_has ls 4 [(0, .ref (E.2.1 99)), (3, .int v3)] → W p l e rmX9_layGround s m args below meth c H locs 0 0 Q (F0 m 33 ls []) := by
    intro n
    induction n with
    | zero =>
      intro v3 w H locs ls h hW hS hl
      exact absurd (show (none : Option (Unit × Wd)) = some q from h) (fun z => by cases z)
    | succ n ih33 =>
      intro v3 w H locs ls h hW hS hl
      have h : bX9_layGround_33 p1 p2 (lp (fun _ _ => none) (bX9_layGround_33 p1 p2) n) v3 w = some q := h
      generalize lp (fun _ _ => none) (bX9_layGround_33 p1 p2) n = k33 at h ih33
      unfold bX9_layGround_33 at h
      refine lv_iload_n hx hb dX9_layGround_33 rfl (lv_at hl 1 rfl) ?_
      refine lv_iconst (v := (5 : Int32)) hx hb dX9_layGround_34 (by decide) ?_
      refine rb_icmp_ge (tgt := 74) hx hb h dX9_layGround_35 (by decide) (fun h => ?_) (fun h => ?_)
      · refine lv_iconst (v := (0 : Int32)) hx hb dX9_layGround_74 (by decide) ?_
        refine lv_istore_n (lv' := [(3, .int (0 : Int32)), (0, .ref (E.2.1 99))]) hx hb dX9_layGround_75 rfl hl (by decide) rfl (fun ls hl => ?_)
        exact J76 _ _ _ _ _ _ h hW hS (lv_sub hl [1, 0] rfl)
      · refine lv_aload_n hx hb dX9_layGround_38 rfl (lv_at hl 0 rfl) ?_
        refine rw_get hx hb hts iX9 hown hW (hrs 99 (by decide)) rfl rfl 3 (by decide) e13 rfl (v := .ref (E.2.1 101)) rfl dX9_layGround_39 ?_
        refine lv_iload_n hx hb dX9_layGround_42 rfl (lv_at hl 1 rfl) ?_
        refine lv_bipush (v := (-9 : Int32)) hx hb dX9_layGround_43 (by decide) ?_
        refine rw_iast hx hb hW hS (fun _ => (hrs 101 (by decide))) h dX9_layGround_45 (fun w2 H locs h hW hS => ?_)
        refine lv_aload_n hx hb dX9_layGround_46 rfl (lv_at hl 0 rfl) ?_
        refine rw_get hx hb hts iX9 hown hW (hrs 99 (by decide)) rfl rfl 4 (by decide) e16 rfl (v := .ref (E.2.1 102)) rfl dX9_layGround_47 ?_
        refine lv_iload_n hx hb dX9_layGround_50 rfl (lv_at hl 1 rfl) ?_
        refine lv_bipush (v := (-9 : Int32)) hx hb dX9_layGround_51 (by decide) ?_
        refine rw_iast hx hb hW hS (fun _ => (hrs 102 (by decide))) h dX9_layGround_53 (fun w3 H locs h hW hS => ?_)
        refine lv_aload_n hx hb dX9_layGround_54 rfl (lv_at hl 0 rfl) ?_
        refine rw_get hx hb hts iX9 hown hW (hrs 99 (by decide)) rfl rfl 6 (by decide) e22 rfl (v := .ref (E.2.1 104)) rfl dX9_layGround_55 ?_
        refine lv_iload_n hx hb dX9_layGround_58 rfl (lv_at hl 1 rfl) ?_
        refine lv_iconst (v := (0 : Int32)) hx hb dX9_layGround_59 (by decide) ?_
        refine rw_iast hx hb hW hS (fun _ => (hrs 104 (by decide))) h dX9_layGround_60 (fun w4 H locs h hW hS => ?_)
        refine lv_aload_n hx hb dX9_layGround_61 rfl (lv_at hl 0 rfl) ?_
        refine rw_get hx hb hts iX9 hown hW (hrs 99 (by decide)) rfl rfl 7 (by decide) e25 rfl (v := .ref (E.2.1 105)) rfl dX9_layGround_62 ?_
        refine lv_iload_n hx hb dX9_layGround_65 rfl (lv_at hl 1 rfl) ?_
        refine lv_iconst (v := (0 : Int32)) hx hb dX9_layGround_66 (by decide) ?_
        refine rw_iast hx hb hW hS (fun _ => (hrs 105 (by decide))) h dX9_layGround_67 (fun w5 H locs h hW hS => ?_)
        refine lv_iinc (v := (v3 + (1 : Int32))) (lv' := [(3, .int (v3 + (1 : Int32))), (0, .ref (E.2.1 99))]) hx hb dX9_layGround_68 hl (k := 1) rfl rfl (by decide) rfl (fun ls hl => ?_)
        refine lv_goto (tgt := 33) hx hb dX9_layGround_71 (by decide) ?_
        exact ih33 _ _ _ _ _ h hW hS (lv_sub hl [1, 0] rfl)
  have J12 : ∀ (n : Nat) (v3 : Int32) (w : Wd) (H : Heap) (locs : List Loc) (ls : Array Slot), lp (fun _ _ => none) (bX9_layGround_12 p1 p2) n v3 w = some q → World E rs w s H → va_S (wA E rs) s.heap H locs → lv_has ls 4 [(0, .ref (E.2.1 99)), (3, .int v3)] → W p l e rmX9_layGround s m args below meth c H locs 0 0 Q (F0 m 12 ls []) := by
    intro n
    induction n with
    | zero =>
      intro v3 w H locs ls h hW hS hl
      exact absurd (show (none : Option (Unit × Wd)) = some q from h) (fun z => by cases z)
    | succ n ih12 =>
      intro v3 w H locs ls h hW hS hl
      have h : bX9_layGround_12 p1 p2 (lp (fun _ _ => none) (bX9_layGround_12 p1 p2) n) v3 w = some q := h
      generalize lp (fun _ _ => none) (bX9_layGround_12 p1 p2) n = k12 at h ih12
      unfold bX9_layGround_12 at h
      refine lv_iload_n hx hb dX9_layGround_12 rfl (lv_at hl 1 rfl) ?_
      refine lv_bipush (v := (100 : Int32)) hx hb dX9_layGround_13 (by decide) ?_
      refine rb_icmp_ge (tgt := 31) hx hb h dX9_layGround_15 (by decide) (fun h => ?_) (fun h => ?_)
      · refine lv_iconst (v := (0 : Int32)) hx hb dX9_layGround_31 (by decide) ?_
        refine lv_istore_n (lv' := [(3, .int (0 : Int32)), (0, .ref (E.2.1 99))]) hx hb dX9_layGround_32 rfl hl (by decide) rfl (fun ls hl => ?_)
        exact J33 _ _ _ _ _ _ h hW hS (lv_sub hl [1, 0] rfl)
      · refine lv_aload_n hx hb dX9_layGround_18 rfl (lv_at hl 0 rfl) ?_
        refine rw_get hx hb hts iX9 hown hW (hrs 99 (by decide)) rfl rfl 2 (by decide) e7 rfl (v := .ref (E.2.1 100)) rfl dX9_layGround_19 ?_
        refine lv_iload_n hx hb dX9_layGround_22 rfl (lv_at hl 1 rfl) ?_
        refine lv_iconst (v := (0 : Int32)) hx hb dX9_layGround_23 (by decide) ?_
        refine rw_iast hx hb hW hS (fun _ => (hrs 100 (by decide))) h dX9_layGround_24 (fun w1 H locs h hW hS => ?_)
        refine lv_iinc (v := (v3 + (1 : Int32))) (lv' := [(3, .int (v3 + (1 : Int32))), (0, .ref (E.2.1 99))]) hx hb dX9_layGround_25 hl (k := 1) rfl rfl (by decide) rfl (fun ls hl => ?_)
        refine lv_goto (tgt := 12) hx hb dX9_layGround_28 (by decide) ?_
        exact ih12 _ _ _ _ _ h hW hS (lv_sub hl [1, 0] rfl)
  unfold fX9_layGround at h
  refine lv_aload_n hx hb dX9_layGround_0 rfl (lv_at hl 0 rfl) ?_
  refine lv_iload_n hx hb dX9_layGround_1 rfl (lv_at hl 1 rfl) ?_
  refine rw_put hx hb hts iX9 tyX9_ok nmX9 hown hW hS (hrs 99 (by decide)) rfl rfl 0 (by decide) e85 rfl 0 p1 (L := [.int p1, .int (w.1 99 1), .ref (E.2.1 100), .ref (E.2.1 101), .ref (E.2.1 102), .ref (E.2.1 103), .ref (E.2.1 104), .ref (E.2.1 105), .ref (E.2.1 106), .ref (E.2.1 107), .ref (E.2.1 108), .int (w.1 99 11), .int (w.1 99 12), .ref (E.2.1 109), .ref (E.2.1 110), .ref (E.2.1 111), .ref (E.2.1 112), .ref (E.2.1 113), .ref (E.2.1 114), .ref (E.2.1 115), .ref (E.2.1 116), .ref (E.2.1 117), .ref (E.2.1 118), .ref (E.2.1 119), .ref (E.2.1 120), .ref (E.2.1 121)]) rfl rfl rfl rfl (by decide) dX9_layGround_2 (fun H locs hW hS => ?_)
  refine lv_aload_n hx hb dX9_layGround_5 rfl (lv_at hl 0 rfl) ?_
  refine lv_iload_n hx hb dX9_layGround_6 rfl (lv_at hl 2 rfl) ?_
  refine rw_put hx hb hts iX9 tyX9_ok nmX9 hown hW hS (hrs 99 (by decide)) rfl rfl 1 (by decide) e88 rfl 1 p2 (L := [.int ((uI w 99 0 p1).1 99 0), .int p2, .ref (E.2.1 100), .ref (E.2.1 101), .ref (E.2.1 102), .ref (E.2.1 103), .ref (E.2.1 104), .ref (E.2.1 105), .ref (E.2.1 106), .ref (E.2.1 107), .ref (E.2.1 108), .int ((uI w 99 0 p1).1 99 11), .int ((uI w 99 0 p1).1 99 12), .ref (E.2.1 109), .ref (E.2.1 110), .ref (E.2.1 111), .ref (E.2.1 112), .ref (E.2.1 113), .ref (E.2.1 114), .ref (E.2.1 115), .ref (E.2.1 116), .ref (E.2.1 117), .ref (E.2.1 118), .ref (E.2.1 119), .ref (E.2.1 120), .ref (E.2.1 121)]) rfl rfl rfl rfl (by decide) dX9_layGround_7 (fun H locs hW hS => ?_)
  refine lv_iconst (v := (0 : Int32)) hx hb dX9_layGround_10 (by decide) ?_
  refine lv_istore_n (lv' := [(3, .int (0 : Int32)), (0, .ref (E.2.1 99)), (1, .int p1), (2, .int p2)]) hx hb dX9_layGround_11 rfl hl (by decide) rfl (fun ls hl => ?_)
  exact J12 _ _ _ _ _ _ h hW hS (lv_sub hl [1, 0] rfl)
noncomputable def fX9_isSlot (p0 : Int32) (w : Wd) : Option (Int32 × Wd) :=
  bnd (fX9_in (p0.toInt64) (0 : Int64) (3 : Int64) w) fun x1 w2 => zr x1 w2
abbrev rmX9_isSlot : Room := { frames := 1, cells := 0, slots := 0, locals := 25 }
set_option maxHeartbeats 4000000 in
set_option maxRecDepth 100000 in
theorem kX9_isSlot (l : Launch) (E : Ev) (p0 : Int32) (w : Wd) (q : Int32 × Wd) (h : fX9_isSlot p0 w = some q) : CtI l yX9_isSlot wsX9_isSlot rmX9_isSlot E full [.int p0] w q := by
  refine mkZ (cc := cX9_isSlot) (maxL := 1) (by decide) rfl (Nat.le_of_ble_eq_true rfl) ?_
  intro p e s m args below meth c Q S hW hQ ls hl
  obtain ⟨hx, hb, hml, hown, hts⟩ := id S
  have hW0 := hW
  have hS : va_S (wA E full) s.heap s.heap [] := va_S.rf
  have hl : lv_has ls 1 [(0, .int p0)] := hl
  unfold fX9_isSlot at h
  refine lv_iload_n hx hb dX9_isSlot_0 rfl (lv_at hl 0 rfl) ?_
  refine lv_i2l (v := (p0.toInt64)) hx hb dX9_isSlot_1 rfl ?_
  refine lv_lconst (v := (0 : Int64)) hx hb dX9_isSlot_2 (by decide) ?_
  refine lv_ldc2 (own := RX9) (v := (3 : Int64)) hx hb hown (hts _ (by decide +kernel)) dX9_isSlot_3 ?_
  refine rc_Si (As := [.long (p0.toInt64), .long (0 : Int64), .long (3 : Int64)]) (rest := []) S hW hS h (kX9_in l E (p0.toInt64) (0 : Int64) (3 : Int64) w) (va_cwS 3 hts gX9_isSlot_X9_in rfl rfl rfl hdX9_in ⟨Nat.le_of_ble_eq_true rfl, Nat.le_of_ble_eq_true rfl⟩) rfl hl.1 rfl (Nat.le_of_ble_eq_true rfl) ⟨Nat.zero_le _, Nat.zero_le _⟩ dX9_isSlot_6 (fun x1 w2 H locs h hW hS => ?_)
  exact rrZ hQ hW hS h dX9_isSlot_9
noncomputable def fX9_cells  (w : Wd) : Option (Int32 × Wd) :=
  some (((w.1 99 0) * (w.1 99 1)), w)
abbrev rmX9_cells : Room := { frames := 0, cells := 0, slots := 0, locals := 0 }
set_option maxHeartbeats 4000000 in
set_option maxRecDepth 100000 in
theorem kX9_cells (l : Launch) (E : Ev)  (w : Wd) (q : Int32 × Wd) (h : fX9_cells w = some q) : CtI l yX9_cells wsX9_cells rmX9_cells E full [.ref (E.2.1 99)] w q := by
  refine mkI (cc := cX9_cells) (maxL := 1) (by decide) rfl (Nat.le_of_ble_eq_true rfl) ?_
  intro p e s m args below meth c Q S hW hQ ls hl
  obtain ⟨hx, hb, hml, hown, hts⟩ := id S
  have hW0 := hW
  have hS : va_S (wA E full) s.heap s.heap [] := va_S.rf
  have hl : lv_has ls 1 [(0, .ref (E.2.1 99))] := hl
  have iX9 : ∀ w ∈ wsX90, w ∈ wsX9_cells := by decide +kernel
  have e85 := hts (.fieldLink RX9 85 "CubeHeapsModel" "wide" "I") (by decide +kernel)
  have e88 := hts (.fieldLink RX9 88 "CubeHeapsModel" "tall" "I") (by decide +kernel)
  unfold fX9_cells at h
  refine lv_aload_n hx hb dX9_cells_0 rfl (lv_at hl 0 rfl) ?_
  refine rw_get hx hb hts iX9 hown hW (fl 99 rfl) rfl rfl 0 (by decide) e85 rfl (v := .int (w.1 99 0)) rfl dX9_cells_1 ?_
  refine lv_aload_n hx hb dX9_cells_4 rfl (lv_at hl 0 rfl) ?_
  refine rw_get hx hb hts iX9 hown hW (fl 99 rfl) rfl rfl 1 (by decide) e88 rfl (v := .int (w.1 99 1)) rfl dX9_cells_5 ?_
  refine lv_imul hx hb dX9_cells_8 ?_
  exact rrI hQ hW hS h dX9_cells_9
noncomputable def fX9_isCell (p1 : Int32) (w : Wd) : Option (Int32 × Wd) :=
  bnd (fX9_cells w) fun x1 w2 => bnd (fX9_in (p1.toInt64) (0 : Int64) ((x1 - (1 : Int32)).toInt64) w2) fun x3 w4 => zr x3 w4
abbrev rmX9_isCell : Room := { frames := 1, cells := 0, slots := 0, locals := 25 }
set_option maxHeartbeats 4000000 in
set_option maxRecDepth 100000 in
theorem kX9_isCell (l : Launch) (E : Ev) (p1 : Int32) (w : Wd) (q : Int32 × Wd) (h : fX9_isCell p1 w = some q) : CtI l yX9_isCell wsX9_isCell rmX9_isCell E full [.ref (E.2.1 99), .int p1] w q := by
  refine mkZ (cc := cX9_isCell) (maxL := 2) (by decide) rfl (Nat.le_of_ble_eq_true rfl) ?_
  intro p e s m args below meth c Q S hW hQ ls hl
  obtain ⟨hx, hb, hml, hown, hts⟩ := id S
  have hW0 := hW
  have hS : va_S (wA E full) s.heap s.heap [] := va_S.rf
  have hl : lv_has ls 2 [(0, .ref (E.2.1 99)), (1, .int p1)] := hl
  unfold fX9_isCell at h
  refine lv_iload_n hx hb dX9_isCell_0 rfl (lv_at hl 1 rfl) ?_
  refine lv_i2l (v := (p1.toInt64)) hx hb dX9_isCell_1 rfl ?_
  refine lv_lconst (v := (0 : Int64)) hx hb dX9_isCell_2 (by decide) ?_
  refine lv_aload_n hx hb dX9_isCell_3 rfl (lv_at hl 0 rfl) ?_
  refine rc_Vi (k := 99) (As := []) (rest := [.long (0 : Int64), .long (p1.toInt64)]) S hW hS h (kX9_cells l E  w) (cwV 0 hts gX9_isCell_X9_cells rfl rfl rfl hdX9_cells ⟨Nat.le_of_ble_eq_true rfl, Nat.le_of_ble_eq_true rfl⟩) (fl 99 rfl) rfl rfl rfl rfl hl.1 rfl (Nat.le_of_ble_eq_true rfl) ⟨Nat.zero_le _, Nat.zero_le _⟩ dX9_isCell_4 (fun x1 w2 H locs h hW hS => ?_)
  refine lv_iconst (v := (1 : Int32)) hx hb dX9_isCell_7 (by decide) ?_
  refine lv_isub hx hb dX9_isCell_8 ?_
  refine lv_i2l (v := ((x1 - (1 : Int32)).toInt64)) hx hb dX9_isCell_9 rfl ?_
  refine rc_Si (As := [.long (p1.toInt64), .long (0 : Int64), .long ((x1 - (1 : Int32)).toInt64)]) (rest := []) S hW hS h (kX9_in l E (p1.toInt64) (0 : Int64) ((x1 - (1 : Int32)).toInt64) w2) (va_cwS 3 hts gX9_isCell_X9_in rfl rfl rfl hdX9_in ⟨Nat.le_of_ble_eq_true rfl, Nat.le_of_ble_eq_true rfl⟩) rfl hl.1 rfl (Nat.le_of_ble_eq_true rfl) ⟨Nat.zero_le _, Nat.zero_le _⟩ dX9_isCell_10 (fun x3 w4 H locs h hW hS => ?_)
  exact rrZ hQ hW hS h dX9_isCell_13
noncomputable def jX9_isLine_24 (p1 : Int32) (p2 : Int32) (s0 : Int64) (s1 : Int64) (s2 : Int64)  (w : Wd) : Option (Int32 × Wd) :=
  bnd (fX9_in s2 s1 s0 w) fun x1 w2 => zr x1 w2
noncomputable def fX9_isLine (p1 : Int32) (p2 : Int32) (w : Wd) : Option (Int32 × Wd) :=
  if p1 = 0 then jX9_isLine_24 p1 p2 (((w.1 99 1) - (1 : Int32)).toInt64) (0 : Int64) (p2.toInt64) w else jX9_isLine_24 p1 p2 (((w.1 99 0) - (1 : Int32)).toInt64) (0 : Int64) (p2.toInt64) w
abbrev rmX9_isLine : Room := { frames := 1, cells := 0, slots := 0, locals := 25 }
set_option maxHeartbeats 4000000 in
set_option maxRecDepth 100000 in
theorem kX9_isLine (l : Launch) (E : Ev) (p1 : Int32) (p2 : Int32) (w : Wd) (q : Int32 × Wd) (h : fX9_isLine p1 p2 w = some q) : CtI l yX9_isLine wsX9_isLine rmX9_isLine E full [.ref (E.2.1 99), .int p1, .int p2] w q := by
  refine mkZ (cc := cX9_isLine) (maxL := 3) (by decide) rfl (Nat.le_of_ble_eq_true rfl) ?_
  intro p e s m args below meth c Q S hW hQ ls hl
  obtain ⟨hx, hb, hml, hown, hts⟩ := id S
  have hW0 := hW
  have hS : va_S (wA E full) s.heap s.heap [] := va_S.rf
  have hl : lv_has ls 3 [(0, .ref (E.2.1 99)), (1, .int p1), (2, .int p2)] := hl
  have iX9 : ∀ w ∈ wsX90, w ∈ wsX9_isLine := by decide +kernel
  have e85 := hts (.fieldLink RX9 85 "CubeHeapsModel" "wide" "I") (by decide +kernel)
  have e88 := hts (.fieldLink RX9 88 "CubeHeapsModel" "tall" "I") (by decide +kernel)
  have J24 : ∀ (s0 : Int64) (s1 : Int64) (s2 : Int64) (w : Wd) (H : Heap) (locs : List Loc) (ls : Array Slot), jX9_isLine_24 p1 p2 s0 s1 s2 w = some q → World E full w s H → va_S (wA E full) s.heap H locs → lv_has ls 3 [] → W p l e rmX9_isLine s m args below meth c H locs 0 0 Q (F0 m 24 ls [.long s0, .long s1, .long s2]) := by
    intro s0 s1 s2 w H locs ls h hW hS hl
    unfold jX9_isLine_24 at h
    refine rc_Si (As := [.long s2, .long s1, .long s0]) (rest := []) S hW hS h (kX9_in l E s2 s1 s0 w) (va_cwS 3 hts gX9_isLine_X9_in rfl rfl rfl hdX9_in ⟨Nat.le_of_ble_eq_true rfl, Nat.le_of_ble_eq_true rfl⟩) rfl hl.1 rfl (Nat.le_of_ble_eq_true rfl) ⟨Nat.zero_le _, Nat.zero_le _⟩ dX9_isLine_24 (fun x1 w2 H locs h hW hS => ?_)
    exact rrZ hQ hW hS h dX9_isLine_27
  unfold fX9_isLine at h
  refine lv_iload_n hx hb dX9_isLine_0 rfl (lv_at hl 2 rfl) ?_
  refine lv_i2l (v := (p2.toInt64)) hx hb dX9_isLine_1 rfl ?_
  refine lv_lconst (v := (0 : Int64)) hx hb dX9_isLine_2 (by decide) ?_
  refine lv_iload_n hx hb dX9_isLine_3 rfl (lv_at hl 1 rfl) ?_
  refine rb_if_eq (tgt := 17) hx hb h dX9_isLine_4 (by decide) (fun h => ?_) (fun h => ?_)
  · refine lv_aload_n hx hb dX9_isLine_17 rfl (lv_at hl 0 rfl) ?_
    refine rw_get hx hb hts iX9 hown hW (fl 99 rfl) rfl rfl 1 (by decide) e88 rfl (v := .int (w.1 99 1)) rfl dX9_isLine_18 ?_
    refine lv_iconst (v := (1 : Int32)) hx hb dX9_isLine_21 (by decide) ?_
    refine lv_isub hx hb dX9_isLine_22 ?_
    refine lv_i2l (v := (((w.1 99 1) - (1 : Int32)).toInt64)) hx hb dX9_isLine_23 rfl ?_
    exact J24 _ _ _ _ _ _ _ h hW hS (lv_sub hl [] rfl)
  · refine lv_aload_n hx hb dX9_isLine_7 rfl (lv_at hl 0 rfl) ?_
    refine rw_get hx hb hts iX9 hown hW (fl 99 rfl) rfl rfl 0 (by decide) e85 rfl (v := .int (w.1 99 0)) rfl dX9_isLine_8 ?_
    refine lv_iconst (v := (1 : Int32)) hx hb dX9_isLine_11 (by decide) ?_
    refine lv_isub hx hb dX9_isLine_12 ?_
    refine lv_i2l (v := (((w.1 99 0) - (1 : Int32)).toInt64)) hx hb dX9_isLine_13 rfl ?_
    refine lv_goto (tgt := 24) hx hb dX9_isLine_14 (by decide) ?_
    exact J24 _ _ _ _ _ _ _ h hW hS (lv_sub hl [] rfl)
noncomputable def fX9_ground (p1 : Int32) (p2 : Int32) (w : Wd) : Option (Int32 × Wd) :=
  bnd (fX9_in (p1.toInt64) (1 : Int64) (5 : Int64) w) fun x1 w2 => if x1 = 0 then some ((-2 : Int32), w2) else bnd (fX9_in (p2.toInt64) (1 : Int64) (5 : Int64) w2) fun x3 w4 => if x3 = 0 then some ((-2 : Int32), w4) else bnd (fX9_layGround p1 p2 w4) fun _ w5 => some ((p1 * p2), w5)
abbrev rmX9_ground : Room := { frames := 1, cells := 0, slots := 0, locals := 25 }
set_option maxHeartbeats 4000000 in
set_option maxRecDepth 100000 in
theorem kX9_ground (l : Launch) (E : Ev) (p1 : Int32) (p2 : Int32) (w : Wd) (q : Int32 × Wd) (h : fX9_ground p1 p2 w = some q) : CtI l yX9_ground wsX9_ground rmX9_ground E full [.ref (E.2.1 99), .int p1, .int p2] w q := by
  refine mkI (cc := cX9_ground) (maxL := 3) (by decide) rfl (Nat.le_of_ble_eq_true rfl) ?_
  intro p e s m args below meth c Q S hW hQ ls hl
  obtain ⟨hx, hb, hml, hown, hts⟩ := id S
  have hW0 := hW
  have hS : va_S (wA E full) s.heap s.heap [] := va_S.rf
  have hl : lv_has ls 3 [(0, .ref (E.2.1 99)), (1, .int p1), (2, .int p2)] := hl
  unfold fX9_ground at h
  refine lv_iload_n hx hb dX9_ground_0 rfl (lv_at hl 1 rfl) ?_
  refine lv_i2l (v := (p1.toInt64)) hx hb dX9_ground_1 rfl ?_
  refine lv_lconst (v := (1 : Int64)) hx hb dX9_ground_2 (by decide) ?_
  refine lv_ldc2 (own := RX9) (v := (5 : Int64)) hx hb hown (hts _ (by decide +kernel)) dX9_ground_3 ?_
  refine rc_Si (As := [.long (p1.toInt64), .long (1 : Int64), .long (5 : Int64)]) (rest := []) S hW hS h (kX9_in l E (p1.toInt64) (1 : Int64) (5 : Int64) w) (va_cwS 3 hts gX9_ground_X9_in rfl rfl rfl hdX9_in ⟨Nat.le_of_ble_eq_true rfl, Nat.le_of_ble_eq_true rfl⟩) rfl hl.1 rfl (Nat.le_of_ble_eq_true rfl) ⟨Nat.zero_le _, Nat.zero_le _⟩ dX9_ground_6 (fun x1 w2 H locs h hW hS => ?_)
  refine rb_if_eq (tgt := 24) hx hb h dX9_ground_9 (by decide) (fun h => ?_) (fun h => ?_)
  · refine lv_bipush (v := (-2 : Int32)) hx hb dX9_ground_24 (by decide) ?_
    exact rrI hQ hW hS h dX9_ground_26
  · refine lv_iload_n hx hb dX9_ground_12 rfl (lv_at hl 2 rfl) ?_
    refine lv_i2l (v := (p2.toInt64)) hx hb dX9_ground_13 rfl ?_
    refine lv_lconst (v := (1 : Int64)) hx hb dX9_ground_14 (by decide) ?_
    refine lv_ldc2 (own := RX9) (v := (5 : Int64)) hx hb hown (hts _ (by decide +kernel)) dX9_ground_15 ?_
    refine rc_Si (As := [.long (p2.toInt64), .long (1 : Int64), .long (5 : Int64)]) (rest := []) S hW hS h (kX9_in l E (p2.toInt64) (1 : Int64) (5 : Int64) w2) (va_cwS 3 hts gX9_ground_X9_in rfl rfl rfl hdX9_in ⟨Nat.le_of_ble_eq_true rfl, Nat.le_of_ble_eq_true rfl⟩) rfl hl.1 rfl (Nat.le_of_ble_eq_true rfl) ⟨Nat.zero_le _, Nat.zero_le _⟩ dX9_ground_18 (fun x3 w4 H locs h hW hS => ?_)
    refine rb_if_ne (tgt := 27) hx hb h dX9_ground_21 (by decide) (fun h => ?_) (fun h => ?_)
    · refine lv_aload_n hx hb dX9_ground_27 rfl (lv_at hl 0 rfl) ?_
      refine lv_iload_n hx hb dX9_ground_28 rfl (lv_at hl 1 rfl) ?_
      refine lv_iload_n hx hb dX9_ground_29 rfl (lv_at hl 2 rfl) ?_
      refine rc_Vv (k := 99) (As := [.int p1, .int p2]) (rest := []) S hW hS h (kX9_layGround l E full (by decide) p1 p2 w4) (cwV 2 hts gX9_ground_X9_layGround rfl rfl rfl hdX9_layGround ⟨Nat.le_of_ble_eq_true rfl, Nat.le_of_ble_eq_true rfl⟩) (fl 99 rfl) rfl rfl rfl rfl hl.1 rfl (Nat.le_of_ble_eq_true rfl) ⟨Nat.zero_le _, Nat.zero_le _⟩ dX9_ground_30 (fun _ w5 H locs h hW hS => ?_)
      refine lv_iload_n hx hb dX9_ground_33 rfl (lv_at hl 1 rfl) ?_
      refine lv_iload_n hx hb dX9_ground_34 rfl (lv_at hl 2 rfl) ?_
      refine lv_imul hx hb dX9_ground_35 ?_
      exact rrI hQ hW hS h dX9_ground_36
    · refine lv_bipush (v := (-2 : Int32)) hx hb dX9_ground_24 (by decide) ?_
      exact rrI hQ hW hS h dX9_ground_26
noncomputable def fX9_set (p1 : Int32) (p2 : Int32) (p3 : Int32) (w : Wd) : Option (Int32 × Wd) :=
  bnd (fX9_isSlot p1 w) fun x1 w2 => if x1 = 0 then some ((-1 : Int32), w2) else bnd (fX9_isCell p2 w2) fun x3 w4 => if x3 = 0 then some ((-1 : Int32), w4) else bnd (fX9_in (p3.toInt64) (0 : Int64) (4 : Int64) w4) fun x5 w6 => if x5 = 0 then some ((-2 : Int32), w6) else (gI w6 100 (((25 : Int32) * p1) + p2)).bind fun x7 => (sI w6 100 (((25 : Int32) * p1) + p2) p3).bind fun w8 => some (x7, w8)
abbrev rmX9_set : Room := { frames := 2, cells := 0, slots := 0, locals := 46 }
set_option maxHeartbeats 4000000 in
set_option maxRecDepth 100000 in
theorem kX9_set (l : Launch) (E : Ev) (p1 : Int32) (p2 : Int32) (p3 : Int32) (w : Wd) (q : Int32 × Wd) (h : fX9_set p1 p2 p3 w = some q) : CtI l yX9_set wsX9_set rmX9_set E full [.ref (E.2.1 99), .int p1, .int p2, .int p3] w q := by
  refine mkI (cc := cX9_set) (maxL := 5) (by decide) rfl (Nat.le_of_ble_eq_true rfl) ?_
  intro p e s m args below meth c Q S hW hQ ls hl
  obtain ⟨hx, hb, hml, hown, hts⟩ := id S
  have hW0 := hW
  have hS : va_S (wA E full) s.heap s.heap [] := va_S.rf
  have hl : lv_has ls 5 [(0, .ref (E.2.1 99)), (1, .int p1), (2, .int p2), (3, .int p3)] := hl
  have iX9 : ∀ w ∈ wsX90, w ∈ wsX9_set := by decide +kernel
  have e7 := hts (.fieldLink RX9 7 "CubeHeapsModel" "heap" "[I") (by decide +kernel)
  unfold fX9_set at h
  refine lv_iload_n hx hb dX9_set_0 rfl (lv_at hl 1 rfl) ?_
  refine rc_Si (As := [.int p1]) (rest := []) S hW hS h (kX9_isSlot l E p1 w) (va_cwS 1 hts gX9_set_X9_isSlot rfl rfl rfl hdX9_isSlot ⟨Nat.le_of_ble_eq_true rfl, Nat.le_of_ble_eq_true rfl⟩) rfl hl.1 rfl (Nat.le_of_ble_eq_true rfl) ⟨Nat.zero_le _, Nat.zero_le _⟩ dX9_set_1 (fun x1 w2 H locs h hW hS => ?_)
  refine rb_if_eq (tgt := 15) hx hb h dX9_set_4 (by decide) (fun h => ?_) (fun h => ?_)
  · refine lv_iconst (v := (-1 : Int32)) hx hb dX9_set_15 (by decide) ?_
    exact rrI hQ hW hS h dX9_set_16
  · refine lv_aload_n hx hb dX9_set_7 rfl (lv_at hl 0 rfl) ?_
    refine lv_iload_n hx hb dX9_set_8 rfl (lv_at hl 2 rfl) ?_
    refine rc_Vi (k := 99) (As := [.int p2]) (rest := []) S hW hS h (kX9_isCell l E p2 w2) (cwV 1 hts gX9_set_X9_isCell rfl rfl rfl hdX9_isCell ⟨Nat.le_of_ble_eq_true rfl, Nat.le_of_ble_eq_true rfl⟩) (fl 99 rfl) rfl rfl rfl rfl hl.1 rfl (Nat.le_of_ble_eq_true rfl) ⟨Nat.zero_le _, Nat.zero_le _⟩ dX9_set_9 (fun x3 w4 H locs h hW hS => ?_)
    refine rb_if_ne (tgt := 17) hx hb h dX9_set_12 (by decide) (fun h => ?_) (fun h => ?_)
    · refine lv_iload_n hx hb dX9_set_17 rfl (lv_at hl 3 rfl) ?_
      refine lv_i2l (v := (p3.toInt64)) hx hb dX9_set_18 rfl ?_
      refine lv_lconst (v := (0 : Int64)) hx hb dX9_set_19 (by decide) ?_
      refine lv_ldc2 (own := RX9) (v := (4 : Int64)) hx hb hown (hts _ (by decide +kernel)) dX9_set_20 ?_
      refine rc_Si (As := [.long (p3.toInt64), .long (0 : Int64), .long (4 : Int64)]) (rest := []) S hW hS h (kX9_in l E (p3.toInt64) (0 : Int64) (4 : Int64) w4) (va_cwS 3 hts gX9_set_X9_in rfl rfl rfl hdX9_in ⟨Nat.le_of_ble_eq_true rfl, Nat.le_of_ble_eq_true rfl⟩) rfl hl.1 rfl (Nat.le_of_ble_eq_true rfl) ⟨Nat.zero_le _, Nat.zero_le _⟩ dX9_set_23 (fun x5 w6 H locs h hW hS => ?_)
      refine rb_if_ne (tgt := 32) hx hb h dX9_set_26 (by decide) (fun h => ?_) (fun h => ?_)
      · refine lv_aload_n hx hb dX9_set_32 rfl (lv_at hl 0 rfl) ?_
        refine rw_get hx hb hts iX9 hown hW (fl 99 rfl) rfl rfl 2 (by decide) e7 rfl (v := .ref (E.2.1 100)) rfl dX9_set_33 ?_
        refine lv_bipush (v := (25 : Int32)) hx hb dX9_set_36 (by decide) ?_
        refine lv_iload_n hx hb dX9_set_38 rfl (lv_at hl 1 rfl) ?_
        refine lv_imul hx hb dX9_set_39 ?_
        refine lv_iload_n hx hb dX9_set_40 rfl (lv_at hl 2 rfl) ?_
        refine lv_iadd hx hb dX9_set_41 ?_
        refine rw_iald hx hb hW (fun _ => (fl 100 rfl)) h dX9_set_42 (fun x7 h => ?_)
        refine lv_istore (lv' := [(4, .int x7), (0, .ref (E.2.1 99)), (1, .int p1), (2, .int p2), (3, .int p3)]) hx hb dX9_set_43 hl (by decide) rfl (fun ls hl => ?_)
        refine lv_aload_n hx hb dX9_set_45 rfl (lv_at hl 1 rfl) ?_
        refine rw_get hx hb hts iX9 hown hW (fl 99 rfl) rfl rfl 2 (by decide) e7 rfl (v := .ref (E.2.1 100)) rfl dX9_set_46 ?_
        refine lv_bipush (v := (25 : Int32)) hx hb dX9_set_49 (by decide) ?_
        refine lv_iload_n hx hb dX9_set_51 rfl (lv_at hl 2 rfl) ?_
        refine lv_imul hx hb dX9_set_52 ?_
        refine lv_iload_n hx hb dX9_set_53 rfl (lv_at hl 3 rfl) ?_
        refine lv_iadd hx hb dX9_set_54 ?_
        refine lv_iload_n hx hb dX9_set_55 rfl (lv_at hl 4 rfl) ?_
        refine rw_iast hx hb hW hS (fun _ => (fl 100 rfl)) h dX9_set_56 (fun w8 H locs h hW hS => ?_)
        refine lv_iload hx hb dX9_set_57 (lv_at hl 0 rfl) ?_
        exact rrI hQ hW hS h dX9_set_59
      · refine lv_bipush (v := (-2 : Int32)) hx hb dX9_set_29 (by decide) ?_
        exact rrI hQ hW hS h dX9_set_31
    · refine lv_iconst (v := (-1 : Int32)) hx hb dX9_set_15 (by decide) ?_
      exact rrI hQ hW hS h dX9_set_16
noncomputable def fX9_height (p1 : Int32) (p2 : Int32) (w : Wd) : Option (Int32 × Wd) :=
  bnd (fX9_isSlot p1 w) fun x1 w2 => if x1 = 0 then some ((-1 : Int32), w2) else bnd (fX9_isCell p2 w2) fun x3 w4 => if x3 = 0 then some ((-1 : Int32), w4) else (gI w4 100 (((25 : Int32) * p1) + p2)).bind fun x5 => some (x5, w4)
abbrev rmX9_height : Room := { frames := 2, cells := 0, slots := 0, locals := 46 }
set_option maxHeartbeats 4000000 in
set_option maxRecDepth 100000 in
theorem kX9_height (l : Launch) (E : Ev) (p1 : Int32) (p2 : Int32) (w : Wd) (q : Int32 × Wd) (h : fX9_height p1 p2 w = some q) : CtI l yX9_height wsX9_height rmX9_height E full [.ref (E.2.1 99), .int p1, .int p2] w q := by
  refine mkI (cc := cX9_height) (maxL := 3) (by decide) rfl (Nat.le_of_ble_eq_true rfl) ?_
  intro p e s m args below meth c Q S hW hQ ls hl
  obtain ⟨hx, hb, hml, hown, hts⟩ := id S
  have hW0 := hW
  have hS : va_S (wA E full) s.heap s.heap [] := va_S.rf
  have hl : lv_has ls 3 [(0, .ref (E.2.1 99)), (1, .int p1), (2, .int p2)] := hl
  have iX9 : ∀ w ∈ wsX90, w ∈ wsX9_height := by decide +kernel
  have e7 := hts (.fieldLink RX9 7 "CubeHeapsModel" "heap" "[I") (by decide +kernel)
  unfold fX9_height at h
  refine lv_iload_n hx hb dX9_height_0 rfl (lv_at hl 1 rfl) ?_
  refine rc_Si (As := [.int p1]) (rest := []) S hW hS h (kX9_isSlot l E p1 w) (va_cwS 1 hts gX9_height_X9_isSlot rfl rfl rfl hdX9_isSlot ⟨Nat.le_of_ble_eq_true rfl, Nat.le_of_ble_eq_true rfl⟩) rfl hl.1 rfl (Nat.le_of_ble_eq_true rfl) ⟨Nat.zero_le _, Nat.zero_le _⟩ dX9_height_1 (fun x1 w2 H locs h hW hS => ?_)
  refine rb_if_eq (tgt := 29) hx hb h dX9_height_4 (by decide) (fun h => ?_) (fun h => ?_)
  · refine lv_iconst (v := (-1 : Int32)) hx hb dX9_height_29 (by decide) ?_
    exact rrI hQ hW hS h dX9_height_30
  · refine lv_aload_n hx hb dX9_height_7 rfl (lv_at hl 0 rfl) ?_
    refine lv_iload_n hx hb dX9_height_8 rfl (lv_at hl 2 rfl) ?_
    refine rc_Vi (k := 99) (As := [.int p2]) (rest := []) S hW hS h (kX9_isCell l E p2 w2) (cwV 1 hts gX9_height_X9_isCell rfl rfl rfl hdX9_isCell ⟨Nat.le_of_ble_eq_true rfl, Nat.le_of_ble_eq_true rfl⟩) (fl 99 rfl) rfl rfl rfl rfl hl.1 rfl (Nat.le_of_ble_eq_true rfl) ⟨Nat.zero_le _, Nat.zero_le _⟩ dX9_height_9 (fun x3 w4 H locs h hW hS => ?_)
    refine rb_if_eq (tgt := 29) hx hb h dX9_height_12 (by decide) (fun h => ?_) (fun h => ?_)
    · refine lv_iconst (v := (-1 : Int32)) hx hb dX9_height_29 (by decide) ?_
      exact rrI hQ hW hS h dX9_height_30
    · refine lv_aload_n hx hb dX9_height_15 rfl (lv_at hl 0 rfl) ?_
      refine rw_get hx hb hts iX9 hown hW (fl 99 rfl) rfl rfl 2 (by decide) e7 rfl (v := .ref (E.2.1 100)) rfl dX9_height_16 ?_
      refine lv_bipush (v := (25 : Int32)) hx hb dX9_height_19 (by decide) ?_
      refine lv_iload_n hx hb dX9_height_21 rfl (lv_at hl 1 rfl) ?_
      refine lv_imul hx hb dX9_height_22 ?_
      refine lv_iload_n hx hb dX9_height_23 rfl (lv_at hl 2 rfl) ?_
      refine lv_iadd hx hb dX9_height_24 ?_
      refine rw_iald hx hb hW (fun _ => (fl 100 rfl)) h dX9_height_25 (fun x5 h => ?_)
      refine lv_goto (tgt := 30) hx hb dX9_height_26 (by decide) ?_
      exact rrI hQ hW hS h dX9_height_30
noncomputable def jX9_copy_63 (p1 : Int32) (p2 : Int32) (k21 : Int32 → Int32 → Wd → Option (Int32 × Wd)) (v4 : Int32) (s0 : Int32) (s1 : Int32)  (w : Wd) : Option (Int32 × Wd) :=
  (gI w 100 (((25 : Int32) * p1) + v4)).bind fun x9 => (sI w 100 (((25 : Int32) * p2) + v4) x9).bind fun w10 => k21 (s1 + s0) (v4 + (1 : Int32)) w10
noncomputable def bX9_copy_21 (p1 : Int32) (p2 : Int32) (k21 : Int32 → Int32 → Wd → Option (Int32 × Wd)) (v3 : Int32) (v4 : Int32)  (w : Wd) : Option (Int32 × Wd) :=
  bnd (fX9_cells w) fun x5 w6 => if x5 ≤ v4 then some (v3, w6) else (gI w6 100 (((25 : Int32) * p1) + v4)).bind fun x7 => (gI w6 100 (((25 : Int32) * p2) + v4)).bind fun x8 => if x7 = x8 then jX9_copy_63 p1 p2 k21 v4 (0 : Int32) v3 w6 else jX9_copy_63 p1 p2 k21 v4 (1 : Int32) v3 w6
noncomputable def fX9_copy (p1 : Int32) (p2 : Int32) (w : Wd) : Option (Int32 × Wd) :=
  bnd (fX9_isSlot p1 w) fun x1 w2 => if x1 = 0 then some ((-1 : Int32), w2) else bnd (fX9_isSlot p2 w2) fun x3 w4 => if x3 = 0 then some ((-1 : Int32), w4) else lp (fun _ _ _ => none) (bX9_copy_21 p1 p2) G (0 : Int32) (0 : Int32) w4
abbrev rmX9_copy : Room := { frames := 2, cells := 0, slots := 0, locals := 45 }
set_option maxHeartbeats 4000000 in
set_option maxRecDepth 100000 in
theorem kX9_copy (l : Launch) (E : Ev) (p1 : Int32) (p2 : Int32) (w : Wd) (q : Int32 × Wd) (h : fX9_copy p1 p2 w = some q) : CtI l yX9_copy wsX9_copy rmX9_copy E full [.ref (E.2.1 99), .int p1, .int p2] w q := by
  refine mkI (cc := cX9_copy) (maxL := 5) (by decide) rfl (Nat.le_of_ble_eq_true rfl) ?_
  intro p e s m args below meth c Q S hW hQ ls hl
  obtain ⟨hx, hb, hml, hown, hts⟩ := id S
  have hW0 := hW
  have hS : va_S (wA E full) s.heap s.heap [] := va_S.rf
  have hl : lv_has ls 5 [(0, .ref (E.2.1 99)), (1, .int p1), (2, .int p2)] := hl
  have iX9 : ∀ w ∈ wsX90, w ∈ wsX9_copy := by decide +kernel
  have e7 := hts (.fieldLink RX9 7 "CubeHeapsModel" "heap" "[I") (by decide +kernel)
  have J21 : ∀ (n : Nat) (v3 : Int32) (v4 : Int32) (w : Wd) (H : Heap) (locs : List Loc) (ls : Array Slot), lp (fun _ _ _ => none) (bX9_copy_21 p1 p2) n v3 v4 w = some q → World E full w s H → va_S (wA E full) s.heap H locs → lv_has ls 5 [(0, .ref (E.2.1 99)), (1, .int p1), (2, .int p2), (3, .int v3), (4, .int v4)] → W p l e rmX9_copy s m args below meth c H locs 0 0 Q (F0 m 21 ls []) := by
    intro n
    induction n with
    | zero =>
      intro v3 v4 w H locs ls h hW hS hl
      exact absurd (show (none : Option (Int32 × Wd)) = some q from h) (fun z => by cases z)
    | succ n ih21 =>
      intro v3 v4 w H locs ls h hW hS hl
      have h : bX9_copy_21 p1 p2 (lp (fun _ _ _ => none) (bX9_copy_21 p1 p2) n) v3 v4 w = some q := h
      generalize lp (fun _ _ _ => none) (bX9_copy_21 p1 p2) n = k21 at h ih21
      have J63 : ∀ (v4 : Int32) (s0 : Int32) (s1 : Int32) (w : Wd) (H : Heap) (locs : List Loc) (ls : Array Slot), jX9_copy_63 p1 p2 k21 v4 s0 s1 w = some q → World E full w s H → va_S (wA E full) s.heap H locs → lv_has ls 5 [(0, .ref (E.2.1 99)), (1, .int p1), (2, .int p2), (4, .int v4)] → W p l e rmX9_copy s m args below meth c H locs 0 0 Q (F0 m 63 ls [.int s0, .int s1]) := by
        intro v4 s0 s1 w H locs ls h hW hS hl
        unfold jX9_copy_63 at h
        refine lv_iadd hx hb dX9_copy_63 ?_
        refine lv_istore_n (lv' := [(3, .int (s1 + s0)), (0, .ref (E.2.1 99)), (1, .int p1), (2, .int p2), (4, .int v4)]) hx hb dX9_copy_64 rfl hl (by decide) rfl (fun ls hl => ?_)
        refine lv_aload_n hx hb dX9_copy_65 rfl (lv_at hl 1 rfl) ?_
        refine rw_get hx hb hts iX9 hown hW (fl 99 rfl) rfl rfl 2 (by decide) e7 rfl (v := .ref (E.2.1 100)) rfl dX9_copy_66 ?_
        refine lv_bipush (v := (25 : Int32)) hx hb dX9_copy_69 (by decide) ?_
        refine lv_iload_n hx hb dX9_copy_71 rfl (lv_at hl 3 rfl) ?_
        refine lv_imul hx hb dX9_copy_72 ?_
        refine lv_iload hx hb dX9_copy_73 (lv_at hl 4 rfl) ?_
        refine lv_iadd hx hb dX9_copy_75 ?_
        refine lv_aload_n hx hb dX9_copy_76 rfl (lv_at hl 1 rfl) ?_
        refine rw_get hx hb hts iX9 hown hW (fl 99 rfl) rfl rfl 2 (by decide) e7 rfl (v := .ref (E.2.1 100)) rfl dX9_copy_77 ?_
        refine lv_bipush (v := (25 : Int32)) hx hb dX9_copy_80 (by decide) ?_
        refine lv_iload_n hx hb dX9_copy_82 rfl (lv_at hl 2 rfl) ?_
        refine lv_imul hx hb dX9_copy_83 ?_
        refine lv_iload hx hb dX9_copy_84 (lv_at hl 4 rfl) ?_
        refine lv_iadd hx hb dX9_copy_86 ?_
        refine rw_iald hx hb hW (fun _ => (fl 100 rfl)) h dX9_copy_87 (fun x9 h => ?_)
        refine rw_iast hx hb hW hS (fun _ => (fl 100 rfl)) h dX9_copy_88 (fun w10 H locs h hW hS => ?_)
        refine lv_iinc (v := (v4 + (1 : Int32))) (lv' := [(4, .int (v4 + (1 : Int32))), (3, .int (s1 + s0)), (0, .ref (E.2.1 99)), (1, .int p1), (2, .int p2)]) hx hb dX9_copy_89 hl (k := 4) rfl rfl (by decide) rfl (fun ls hl => ?_)
        refine lv_goto (tgt := 21) hx hb dX9_copy_92 (by decide) ?_
        exact ih21 _ _ _ _ _ _ h hW hS (lv_sub hl [2, 3, 4, 1, 0] rfl)
      unfold bX9_copy_21 at h
      refine lv_iload hx hb dX9_copy_21 (lv_at hl 4 rfl) ?_
      refine lv_aload_n hx hb dX9_copy_23 rfl (lv_at hl 0 rfl) ?_
      refine rc_Vi (k := 99) (As := []) (rest := [.int v4]) S hW hS h (kX9_cells l E  w) (cwV 0 hts gX9_copy_X9_cells rfl rfl rfl hdX9_cells ⟨Nat.le_of_ble_eq_true rfl, Nat.le_of_ble_eq_true rfl⟩) (fl 99 rfl) rfl rfl rfl rfl hl.1 rfl (Nat.le_of_ble_eq_true rfl) ⟨Nat.zero_le _, Nat.zero_le _⟩ dX9_copy_24 (fun x5 w6 H locs h hW hS => ?_)
      refine rb_icmp_ge (tgt := 95) hx hb h dX9_copy_27 (by decide) (fun h => ?_) (fun h => ?_)
      · refine lv_iload_n hx hb dX9_copy_95 rfl (lv_at hl 3 rfl) ?_
        exact rrI hQ hW hS h dX9_copy_96
      · refine lv_iload_n hx hb dX9_copy_30 rfl (lv_at hl 3 rfl) ?_
        refine lv_aload_n hx hb dX9_copy_31 rfl (lv_at hl 0 rfl) ?_
        refine rw_get hx hb hts iX9 hown hW (fl 99 rfl) rfl rfl 2 (by decide) e7 rfl (v := .ref (E.2.1 100)) rfl dX9_copy_32 ?_
        refine lv_bipush (v := (25 : Int32)) hx hb dX9_copy_35 (by decide) ?_
        refine lv_iload_n hx hb dX9_copy_37 rfl (lv_at hl 1 rfl) ?_
        refine lv_imul hx hb dX9_copy_38 ?_
        refine lv_iload hx hb dX9_copy_39 (lv_at hl 4 rfl) ?_
        refine lv_iadd hx hb dX9_copy_41 ?_
        refine rw_iald hx hb hW (fun _ => (fl 100 rfl)) h dX9_copy_42 (fun x7 h => ?_)
        refine lv_aload_n hx hb dX9_copy_43 rfl (lv_at hl 0 rfl) ?_
        refine rw_get hx hb hts iX9 hown hW (fl 99 rfl) rfl rfl 2 (by decide) e7 rfl (v := .ref (E.2.1 100)) rfl dX9_copy_44 ?_
        refine lv_bipush (v := (25 : Int32)) hx hb dX9_copy_47 (by decide) ?_
        refine lv_iload_n hx hb dX9_copy_49 rfl (lv_at hl 2 rfl) ?_
        refine lv_imul hx hb dX9_copy_50 ?_
        refine lv_iload hx hb dX9_copy_51 (lv_at hl 4 rfl) ?_
        refine lv_iadd hx hb dX9_copy_53 ?_
        refine rw_iald hx hb hW (fun _ => (fl 100 rfl)) h dX9_copy_54 (fun x8 h => ?_)
        refine rb_icmp_eq (tgt := 62) hx hb h dX9_copy_55 (by decide) (fun h => ?_) (fun h => ?_)
        · refine lv_iconst (v := (0 : Int32)) hx hb dX9_copy_62 (by decide) ?_
          exact J63 _ _ _ _ _ _ _ h hW hS (lv_sub hl [0, 1, 2, 4] rfl)
        · refine lv_iconst (v := (1 : Int32)) hx hb dX9_copy_58 (by decide) ?_
          refine lv_goto (tgt := 63) hx hb dX9_copy_59 (by decide) ?_
          exact J63 _ _ _ _ _ _ _ h hW hS (lv_sub hl [0, 1, 2, 4] rfl)
  unfold fX9_copy at h
  refine lv_iload_n hx hb dX9_copy_0 rfl (lv_at hl 1 rfl) ?_
  refine rc_Si (As := [.int p1]) (rest := []) S hW hS h (kX9_isSlot l E p1 w) (va_cwS 1 hts gX9_copy_X9_isSlot rfl rfl rfl hdX9_isSlot ⟨Nat.le_of_ble_eq_true rfl, Nat.le_of_ble_eq_true rfl⟩) rfl hl.1 rfl (Nat.le_of_ble_eq_true rfl) ⟨Nat.zero_le _, Nat.zero_le _⟩ dX9_copy_1 (fun x1 w2 H locs h hW hS => ?_)
  refine rb_if_eq (tgt := 14) hx hb h dX9_copy_4 (by decide) (fun h => ?_) (fun h => ?_)
  · refine lv_iconst (v := (-1 : Int32)) hx hb dX9_copy_14 (by decide) ?_
    exact rrI hQ hW hS h dX9_copy_15
  · refine lv_iload_n hx hb dX9_copy_7 rfl (lv_at hl 2 rfl) ?_
    refine rc_Si (As := [.int p2]) (rest := []) S hW hS h (kX9_isSlot l E p2 w2) (va_cwS 1 hts gX9_copy_X9_isSlot rfl rfl rfl hdX9_isSlot ⟨Nat.le_of_ble_eq_true rfl, Nat.le_of_ble_eq_true rfl⟩) rfl hl.1 rfl (Nat.le_of_ble_eq_true rfl) ⟨Nat.zero_le _, Nat.zero_le _⟩ dX9_copy_8 (fun x3 w4 H locs h hW hS => ?_)
    refine rb_if_ne (tgt := 16) hx hb h dX9_copy_11 (by decide) (fun h => ?_) (fun h => ?_)
    · refine lv_iconst (v := (0 : Int32)) hx hb dX9_copy_16 (by decide) ?_
      refine lv_istore_n (lv' := [(3, .int (0 : Int32)), (0, .ref (E.2.1 99)), (1, .int p1), (2, .int p2)]) hx hb dX9_copy_17 rfl hl (by decide) rfl (fun ls hl => ?_)
      refine lv_iconst (v := (0 : Int32)) hx hb dX9_copy_18 (by decide) ?_
      refine lv_istore (lv' := [(4, .int (0 : Int32)), (3, .int (0 : Int32)), (0, .ref (E.2.1 99)), (1, .int p1), (2, .int p2)]) hx hb dX9_copy_19 hl (by decide) rfl (fun ls hl => ?_)
      exact J21 _ _ _ _ _ _ _ h hW hS (lv_sub hl [2, 3, 4, 1, 0] rfl)
    · refine lv_iconst (v := (-1 : Int32)) hx hb dX9_copy_14 (by decide) ?_
      exact rrI hQ hW hS h dX9_copy_15
noncomputable def bX9_cubesOf_4 (p1 : Int32) (k4 : Int32 → Int32 → Wd → Option (Int32 × Wd)) (v2 : Int32) (v3 : Int32)  (w : Wd) : Option (Int32 × Wd) :=
  bnd (fX9_cells w) fun x1 w2 => if x1 ≤ v3 then some (v2, w2) else (gI w2 100 (((25 : Int32) * p1) + v3)).bind fun x3 => k4 (v2 + x3) (v3 + (1 : Int32)) w2
noncomputable def fX9_cubesOf (p1 : Int32) (w : Wd) : Option (Int32 × Wd) :=
  lp (fun _ _ _ => none) (bX9_cubesOf_4 p1) G (0 : Int32) (0 : Int32) w
abbrev rmX9_cubesOf : Room := { frames := 1, cells := 0, slots := 0, locals := 20 }
set_option maxHeartbeats 4000000 in
set_option maxRecDepth 100000 in
theorem kX9_cubesOf (l : Launch) (E : Ev) (p1 : Int32) (w : Wd) (q : Int32 × Wd) (h : fX9_cubesOf p1 w = some q) : CtI l yX9_cubesOf wsX9_cubesOf rmX9_cubesOf E full [.ref (E.2.1 99), .int p1] w q := by
  refine mkI (cc := cX9_cubesOf) (maxL := 4) (by decide) rfl (Nat.le_of_ble_eq_true rfl) ?_
  intro p e s m args below meth c Q S hW hQ ls hl
  obtain ⟨hx, hb, hml, hown, hts⟩ := id S
  have hW0 := hW
  have hS : va_S (wA E full) s.heap s.heap [] := va_S.rf
  have hl : lv_has ls 4 [(0, .ref (E.2.1 99)), (1, .int p1)] := hl
  have iX9 : ∀ w ∈ wsX90, w ∈ wsX9_cubesOf := by decide +kernel
  have e7 := hts (.fieldLink RX9 7 "CubeHeapsModel" "heap" "[I") (by decide +kernel)
  have J4 : ∀ (n : Nat) (v2 : Int32) (v3 : Int32) (w : Wd) (H : Heap) (locs : List Loc) (ls : Array Slot), lp (fun _ _ _ => none) (bX9_cubesOf_4 p1) n v2 v3 w = some q → World E full w s H → va_S (wA E full) s.heap H locs → lv_has ls 4 [(0, .ref (E.2.1 99)), (1, .int p1), (2, .int v2), (3, .int v3)] → W p l e rmX9_cubesOf s m args below meth c H locs 0 0 Q (F0 m 4 ls []) := by
    intro n
    induction n with
    | zero =>
      intro v2 v3 w H locs ls h hW hS hl
      exact absurd (show (none : Option (Int32 × Wd)) = some q from h) (fun z => by cases z)
    | succ n ih4 =>
      intro v2 v3 w H locs ls h hW hS hl
      have h : bX9_cubesOf_4 p1 (lp (fun _ _ _ => none) (bX9_cubesOf_4 p1) n) v2 v3 w = some q := h
      generalize lp (fun _ _ _ => none) (bX9_cubesOf_4 p1) n = k4 at h ih4
      unfold bX9_cubesOf_4 at h
      refine lv_iload_n hx hb dX9_cubesOf_4 rfl (lv_at hl 3 rfl) ?_
      refine lv_aload_n hx hb dX9_cubesOf_5 rfl (lv_at hl 0 rfl) ?_
      refine rc_Vi (k := 99) (As := []) (rest := [.int v3]) S hW hS h (kX9_cells l E  w) (cwV 0 hts gX9_cubesOf_X9_cells rfl rfl rfl hdX9_cells ⟨Nat.le_of_ble_eq_true rfl, Nat.le_of_ble_eq_true rfl⟩) (fl 99 rfl) rfl rfl rfl rfl hl.1 rfl (Nat.le_of_ble_eq_true rfl) ⟨Nat.zero_le _, Nat.zero_le _⟩ dX9_cubesOf_6 (fun x1 w2 H locs h hW hS => ?_)
      refine rb_icmp_ge (tgt := 32) hx hb h dX9_cubesOf_9 (by decide) (fun h => ?_) (fun h => ?_)
      · refine lv_iload_n hx hb dX9_cubesOf_32 rfl (lv_at hl 2 rfl) ?_
        exact rrI hQ hW hS h dX9_cubesOf_33
      · refine lv_iload_n hx hb dX9_cubesOf_12 rfl (lv_at hl 2 rfl) ?_
        refine lv_aload_n hx hb dX9_cubesOf_13 rfl (lv_at hl 0 rfl) ?_
        refine rw_get hx hb hts iX9 hown hW (fl 99 rfl) rfl rfl 2 (by decide) e7 rfl (v := .ref (E.2.1 100)) rfl dX9_cubesOf_14 ?_
        refine lv_bipush (v := (25 : Int32)) hx hb dX9_cubesOf_17 (by decide) ?_
        refine lv_iload_n hx hb dX9_cubesOf_19 rfl (lv_at hl 1 rfl) ?_
        refine lv_imul hx hb dX9_cubesOf_20 ?_
        refine lv_iload_n hx hb dX9_cubesOf_21 rfl (lv_at hl 3 rfl) ?_
        refine lv_iadd hx hb dX9_cubesOf_22 ?_
        refine rw_iald hx hb hW (fun _ => (fl 100 rfl)) h dX9_cubesOf_23 (fun x3 h => ?_)
        refine lv_iadd hx hb dX9_cubesOf_24 ?_
        refine lv_istore_n (lv' := [(2, .int (v2 + x3)), (0, .ref (E.2.1 99)), (1, .int p1), (3, .int v3)]) hx hb dX9_cubesOf_25 rfl hl (by decide) rfl (fun ls hl => ?_)
        refine lv_iinc (v := (v3 + (1 : Int32))) (lv' := [(3, .int (v3 + (1 : Int32))), (2, .int (v2 + x3)), (0, .ref (E.2.1 99)), (1, .int p1)]) hx hb dX9_cubesOf_26 hl (k := 3) rfl rfl (by decide) rfl (fun ls hl => ?_)
        refine lv_goto (tgt := 4) hx hb dX9_cubesOf_29 (by decide) ?_
        exact ih4 _ _ _ _ _ _ h hW hS (lv_sub hl [2, 3, 1, 0] rfl)
  unfold fX9_cubesOf at h
  refine lv_iconst (v := (0 : Int32)) hx hb dX9_cubesOf_0 (by decide) ?_
  refine lv_istore_n (lv' := [(2, .int (0 : Int32)), (0, .ref (E.2.1 99)), (1, .int p1)]) hx hb dX9_cubesOf_1 rfl hl (by decide) rfl (fun ls hl => ?_)
  refine lv_iconst (v := (0 : Int32)) hx hb dX9_cubesOf_2 (by decide) ?_
  refine lv_istore_n (lv' := [(3, .int (0 : Int32)), (2, .int (0 : Int32)), (0, .ref (E.2.1 99)), (1, .int p1)]) hx hb dX9_cubesOf_3 rfl hl (by decide) rfl (fun ls hl => ?_)
  exact J4 _ _ _ _ _ _ _ h hW hS (lv_sub hl [2, 3, 1, 0] rfl)
noncomputable def fX9_cubes (p1 : Int32) (w : Wd) : Option (Int32 × Wd) :=
  bnd (fX9_isSlot p1 w) fun x1 w2 => if x1 = 0 then some ((-1 : Int32), w2) else bnd (fX9_cubesOf p1 w2) fun x3 w4 => some (x3, w4)
abbrev rmX9_cubes : Room := { frames := 2, cells := 0, slots := 0, locals := 45 }
set_option maxHeartbeats 4000000 in
set_option maxRecDepth 100000 in
theorem kX9_cubes (l : Launch) (E : Ev) (p1 : Int32) (w : Wd) (q : Int32 × Wd) (h : fX9_cubes p1 w = some q) : CtI l yX9_cubes wsX9_cubes rmX9_cubes E full [.ref (E.2.1 99), .int p1] w q := by
  refine mkI (cc := cX9_cubes) (maxL := 2) (by decide) rfl (Nat.le_of_ble_eq_true rfl) ?_
  intro p e s m args below meth c Q S hW hQ ls hl
  obtain ⟨hx, hb, hml, hown, hts⟩ := id S
  have hW0 := hW
  have hS : va_S (wA E full) s.heap s.heap [] := va_S.rf
  have hl : lv_has ls 2 [(0, .ref (E.2.1 99)), (1, .int p1)] := hl
  unfold fX9_cubes at h
  refine lv_iload_n hx hb dX9_cubes_0 rfl (lv_at hl 1 rfl) ?_
  refine rc_Si (As := [.int p1]) (rest := []) S hW hS h (kX9_isSlot l E p1 w) (va_cwS 1 hts gX9_cubes_X9_isSlot rfl rfl rfl hdX9_isSlot ⟨Nat.le_of_ble_eq_true rfl, Nat.le_of_ble_eq_true rfl⟩) rfl hl.1 rfl (Nat.le_of_ble_eq_true rfl) ⟨Nat.zero_le _, Nat.zero_le _⟩ dX9_cubes_1 (fun x1 w2 H locs h hW hS => ?_)
  refine rb_if_eq (tgt := 15) hx hb h dX9_cubes_4 (by decide) (fun h => ?_) (fun h => ?_)
  · refine lv_iconst (v := (-1 : Int32)) hx hb dX9_cubes_15 (by decide) ?_
    exact rrI hQ hW hS h dX9_cubes_16
  · refine lv_aload_n hx hb dX9_cubes_7 rfl (lv_at hl 0 rfl) ?_
    refine lv_iload_n hx hb dX9_cubes_8 rfl (lv_at hl 1 rfl) ?_
    refine rc_Vi (k := 99) (As := [.int p1]) (rest := []) S hW hS h (kX9_cubesOf l E p1 w2) (cwV 1 hts gX9_cubes_X9_cubesOf rfl rfl rfl hdX9_cubesOf ⟨Nat.le_of_ble_eq_true rfl, Nat.le_of_ble_eq_true rfl⟩) (fl 99 rfl) rfl rfl rfl rfl hl.1 rfl (Nat.le_of_ble_eq_true rfl) ⟨Nat.zero_le _, Nat.zero_le _⟩ dX9_cubes_9 (fun x3 w4 H locs h hW hS => ?_)
    refine lv_goto (tgt := 16) hx hb dX9_cubes_12 (by decide) ?_
    exact rrI hQ hW hS h dX9_cubes_16
noncomputable def fX9_cellOf (p1 : Int32) (p2 : Int32) (p3 : Int32) (w : Wd) : Option (Int32 × Wd) :=
  if p1 = 0 then some (((p2 * (w.1 99 0)) + p3), w) else some (((p3 * (w.1 99 0)) + p2), w)
abbrev rmX9_cellOf : Room := { frames := 0, cells := 0, slots := 0, locals := 0 }
set_option maxHeartbeats 4000000 in
set_option maxRecDepth 100000 in
theorem kX9_cellOf (l : Launch) (E : Ev) (p1 : Int32) (p2 : Int32) (p3 : Int32) (w : Wd) (q : Int32 × Wd) (h : fX9_cellOf p1 p2 p3 w = some q) : CtI l yX9_cellOf wsX9_cellOf rmX9_cellOf E full [.ref (E.2.1 99), .int p1, .int p2, .int p3] w q := by
  refine mkI (cc := cX9_cellOf) (maxL := 4) (by decide) rfl (Nat.le_of_ble_eq_true rfl) ?_
  intro p e s m args below meth c Q S hW hQ ls hl
  obtain ⟨hx, hb, hml, hown, hts⟩ := id S
  have hW0 := hW
  have hS : va_S (wA E full) s.heap s.heap [] := va_S.rf
  have hl : lv_has ls 4 [(0, .ref (E.2.1 99)), (1, .int p1), (2, .int p2), (3, .int p3)] := hl
  have iX9 : ∀ w ∈ wsX90, w ∈ wsX9_cellOf := by decide +kernel
  have e85 := hts (.fieldLink RX9 85 "CubeHeapsModel" "wide" "I") (by decide +kernel)
  unfold fX9_cellOf at h
  refine lv_iload_n hx hb dX9_cellOf_0 rfl (lv_at hl 1 rfl) ?_
  refine rb_if_eq (tgt := 15) hx hb h dX9_cellOf_1 (by decide) (fun h => ?_) (fun h => ?_)
  · refine lv_iload_n hx hb dX9_cellOf_15 rfl (lv_at hl 2 rfl) ?_
    refine lv_aload_n hx hb dX9_cellOf_16 rfl (lv_at hl 0 rfl) ?_
    refine rw_get hx hb hts iX9 hown hW (fl 99 rfl) rfl rfl 0 (by decide) e85 rfl (v := .int (w.1 99 0)) rfl dX9_cellOf_17 ?_
    refine lv_imul hx hb dX9_cellOf_20 ?_
    refine lv_iload_n hx hb dX9_cellOf_21 rfl (lv_at hl 3 rfl) ?_
    refine lv_iadd hx hb dX9_cellOf_22 ?_
    exact rrI hQ hW hS h dX9_cellOf_23
  · refine lv_iload_n hx hb dX9_cellOf_4 rfl (lv_at hl 3 rfl) ?_
    refine lv_aload_n hx hb dX9_cellOf_5 rfl (lv_at hl 0 rfl) ?_
    refine rw_get hx hb hts iX9 hown hW (fl 99 rfl) rfl rfl 0 (by decide) e85 rfl (v := .int (w.1 99 0)) rfl dX9_cellOf_6 ?_
    refine lv_imul hx hb dX9_cellOf_9 ?_
    refine lv_iload_n hx hb dX9_cellOf_10 rfl (lv_at hl 2 rfl) ?_
    refine lv_iadd hx hb dX9_cellOf_11 ?_
    refine lv_goto (tgt := 23) hx hb dX9_cellOf_12 (by decide) ?_
    exact rrI hQ hW hS h dX9_cellOf_23
noncomputable def fX9_lengthOf (p1 : Int32) (w : Wd) : Option (Int32 × Wd) :=
  if p1 = 0 then some ((w.1 99 0), w) else some ((w.1 99 1), w)
abbrev rmX9_lengthOf : Room := { frames := 0, cells := 0, slots := 0, locals := 0 }
set_option maxHeartbeats 4000000 in
set_option maxRecDepth 100000 in
theorem kX9_lengthOf (l : Launch) (E : Ev) (p1 : Int32) (w : Wd) (q : Int32 × Wd) (h : fX9_lengthOf p1 w = some q) : CtI l yX9_lengthOf wsX9_lengthOf rmX9_lengthOf E full [.ref (E.2.1 99), .int p1] w q := by
  refine mkI (cc := cX9_lengthOf) (maxL := 2) (by decide) rfl (Nat.le_of_ble_eq_true rfl) ?_
  intro p e s m args below meth c Q S hW hQ ls hl
  obtain ⟨hx, hb, hml, hown, hts⟩ := id S
  have hW0 := hW
  have hS : va_S (wA E full) s.heap s.heap [] := va_S.rf
  have hl : lv_has ls 2 [(0, .ref (E.2.1 99)), (1, .int p1)] := hl
  have iX9 : ∀ w ∈ wsX90, w ∈ wsX9_lengthOf := by decide +kernel
  have e85 := hts (.fieldLink RX9 85 "CubeHeapsModel" "wide" "I") (by decide +kernel)
  have e88 := hts (.fieldLink RX9 88 "CubeHeapsModel" "tall" "I") (by decide +kernel)
  unfold fX9_lengthOf at h
  refine lv_iload_n hx hb dX9_lengthOf_0 rfl (lv_at hl 1 rfl) ?_
  refine rb_if_eq (tgt := 11) hx hb h dX9_lengthOf_1 (by decide) (fun h => ?_) (fun h => ?_)
  · refine lv_aload_n hx hb dX9_lengthOf_11 rfl (lv_at hl 0 rfl) ?_
    refine rw_get hx hb hts iX9 hown hW (fl 99 rfl) rfl rfl 0 (by decide) e85 rfl (v := .int (w.1 99 0)) rfl dX9_lengthOf_12 ?_
    exact rrI hQ hW hS h dX9_lengthOf_15
  · refine lv_aload_n hx hb dX9_lengthOf_4 rfl (lv_at hl 0 rfl) ?_
    refine rw_get hx hb hts iX9 hown hW (fl 99 rfl) rfl rfl 1 (by decide) e88 rfl (v := .int (w.1 99 1)) rfl dX9_lengthOf_5 ?_
    refine lv_goto (tgt := 15) hx hb dX9_lengthOf_8 (by decide) ?_
    exact rrI hQ hW hS h dX9_lengthOf_15
noncomputable def jX9_greatestOf_50 (p1 : Int32) (p2 : Int32) (p3 : Int32) (k6 : Int32 → Int32 → Wd → Option (Int32 × Wd)) (v5 : Int32) (s0 : Int32)  (w : Wd) : Option (Int32 × Wd) :=
  k6 s0 (v5 + (1 : Int32)) w
noncomputable def bX9_greatestOf_6 (p1 : Int32) (p2 : Int32) (p3 : Int32) (k6 : Int32 → Int32 → Wd → Option (Int32 × Wd)) (v4 : Int32) (v5 : Int32)  (w : Wd) : Option (Int32 × Wd) :=
  bnd (fX9_lengthOf p2 w) fun x1 w2 => if x1 ≤ v5 then some (v4, w2) else bnd (fX9_cellOf p2 p3 v5 w2) fun x3 w4 => (gI w4 100 (((25 : Int32) * p1) + x3)).bind fun x5 => if x5 ≤ v4 then jX9_greatestOf_50 p1 p2 p3 k6 v5 v4 w4 else jX9_greatestOf_50 p1 p2 p3 k6 v5 x5 w4
noncomputable def fX9_greatestOf (p1 : Int32) (p2 : Int32) (p3 : Int32) (w : Wd) : Option (Int32 × Wd) :=
  lp (fun _ _ _ => none) (bX9_greatestOf_6 p1 p2 p3) G (0 : Int32) (0 : Int32) w
abbrev rmX9_greatestOf : Room := { frames := 1, cells := 0, slots := 0, locals := 23 }
set_option maxHeartbeats 4000000 in
set_option maxRecDepth 100000 in
theorem kX9_greatestOf (l : Launch) (E : Ev) (p1 : Int32) (p2 : Int32) (p3 : Int32) (w : Wd) (q : Int32 × Wd) (h : fX9_greatestOf p1 p2 p3 w = some q) : CtI l yX9_greatestOf wsX9_greatestOf rmX9_greatestOf E full [.ref (E.2.1 99), .int p1, .int p2, .int p3] w q := by
  refine mkI (cc := cX9_greatestOf) (maxL := 7) (by decide) rfl (Nat.le_of_ble_eq_true rfl) ?_
  intro p e s m args below meth c Q S hW hQ ls hl
  obtain ⟨hx, hb, hml, hown, hts⟩ := id S
  have hW0 := hW
  have hS : va_S (wA E full) s.heap s.heap [] := va_S.rf
  have hl : lv_has ls 7 [(0, .ref (E.2.1 99)), (1, .int p1), (2, .int p2), (3, .int p3)] := hl
  have iX9 : ∀ w ∈ wsX90, w ∈ wsX9_greatestOf := by decide +kernel
  have e7 := hts (.fieldLink RX9 7 "CubeHeapsModel" "heap" "[I") (by decide +kernel)
  have J6 : ∀ (n : Nat) (v4 : Int32) (v5 : Int32) (w : Wd) (H : Heap) (locs : List Loc) (ls : Array Slot), lp (fun _ _ _ => none) (bX9_greatestOf_6 p1 p2 p3) n v4 v5 w = some q → World E full w s H → va_S (wA E full) s.heap H locs → lv_has ls 7 [(0, .ref (E.2.1 99)), (1, .int p1), (2, .int p2), (3, .int p3), (4, .int v4), (5, .int v5)] → W p l e rmX9_greatestOf s m args below meth c H locs 0 0 Q (F0 m 6 ls []) := by
    intro n
    induction n with
    | zero =>
      intro v4 v5 w H locs ls h hW hS hl
      exact absurd (show (none : Option (Int32 × Wd)) = some q from h) (fun z => by cases z)
    | succ n ih6 =>
      intro v4 v5 w H locs ls h hW hS hl
      have h : bX9_greatestOf_6 p1 p2 p3 (lp (fun _ _ _ => none) (bX9_greatestOf_6 p1 p2 p3) n) v4 v5 w = some q := h
      generalize lp (fun _ _ _ => none) (bX9_greatestOf_6 p1 p2 p3) n = k6 at h ih6
      have J50 : ∀ (v5 : Int32) (s0 : Int32) (w : Wd) (H : Heap) (locs : List Loc) (ls : Array Slot), jX9_greatestOf_50 p1 p2 p3 k6 v5 s0 w = some q → World E full w s H → va_S (wA E full) s.heap H locs → lv_has ls 7 [(0, .ref (E.2.1 99)), (1, .int p1), (2, .int p2), (3, .int p3), (5, .int v5)] → W p l e rmX9_greatestOf s m args below meth c H locs 0 0 Q (F0 m 50 ls [.int s0]) := by
        intro v5 s0 w H locs ls h hW hS hl
        unfold jX9_greatestOf_50 at h
        refine lv_istore (lv' := [(4, .int s0), (0, .ref (E.2.1 99)), (1, .int p1), (2, .int p2), (3, .int p3), (5, .int v5)]) hx hb dX9_greatestOf_50 hl (by decide) rfl (fun ls hl => ?_)
        refine lv_iinc (v := (v5 + (1 : Int32))) (lv' := [(5, .int (v5 + (1 : Int32))), (4, .int s0), (0, .ref (E.2.1 99)), (1, .int p1), (2, .int p2), (3, .int p3)]) hx hb dX9_greatestOf_52 hl (k := 5) rfl rfl (by decide) rfl (fun ls hl => ?_)
        refine lv_goto (tgt := 6) hx hb dX9_greatestOf_55 (by decide) ?_
        exact ih6 _ _ _ _ _ _ h hW hS (lv_sub hl [2, 3, 4, 5, 1, 0] rfl)
      unfold bX9_greatestOf_6 at h
      refine lv_iload hx hb dX9_greatestOf_6 (lv_at hl 5 rfl) ?_
      refine lv_aload_n hx hb dX9_greatestOf_8 rfl (lv_at hl 0 rfl) ?_
      refine lv_iload_n hx hb dX9_greatestOf_9 rfl (lv_at hl 2 rfl) ?_
      refine rc_Vi (k := 99) (As := [.int p2]) (rest := [.int v5]) S hW hS h (kX9_lengthOf l E p2 w) (cwV 1 hts gX9_greatestOf_X9_lengthOf rfl rfl rfl hdX9_lengthOf ⟨Nat.le_of_ble_eq_true rfl, Nat.le_of_ble_eq_true rfl⟩) (fl 99 rfl) rfl rfl rfl rfl hl.1 rfl (Nat.le_of_ble_eq_true rfl) ⟨Nat.zero_le _, Nat.zero_le _⟩ dX9_greatestOf_10 (fun x1 w2 H locs h hW hS => ?_)
      refine rb_icmp_ge (tgt := 58) hx hb h dX9_greatestOf_13 (by decide) (fun h => ?_) (fun h => ?_)
      · refine lv_iload hx hb dX9_greatestOf_58 (lv_at hl 4 rfl) ?_
        exact rrI hQ hW hS h dX9_greatestOf_60
      · refine lv_aload_n hx hb dX9_greatestOf_16 rfl (lv_at hl 0 rfl) ?_
        refine rw_get hx hb hts iX9 hown hW (fl 99 rfl) rfl rfl 2 (by decide) e7 rfl (v := .ref (E.2.1 100)) rfl dX9_greatestOf_17 ?_
        refine lv_bipush (v := (25 : Int32)) hx hb dX9_greatestOf_20 (by decide) ?_
        refine lv_iload_n hx hb dX9_greatestOf_22 rfl (lv_at hl 1 rfl) ?_
        refine lv_imul hx hb dX9_greatestOf_23 ?_
        refine lv_aload_n hx hb dX9_greatestOf_24 rfl (lv_at hl 0 rfl) ?_
        refine lv_iload_n hx hb dX9_greatestOf_25 rfl (lv_at hl 2 rfl) ?_
        refine lv_iload_n hx hb dX9_greatestOf_26 rfl (lv_at hl 3 rfl) ?_
        refine lv_iload hx hb dX9_greatestOf_27 (lv_at hl 5 rfl) ?_
        refine rc_Vi (k := 99) (As := [.int p2, .int p3, .int v5]) (rest := [.int ((25 : Int32) * p1), .ref (E.2.1 100)]) S hW hS h (kX9_cellOf l E p2 p3 v5 w2) (cwV 3 hts gX9_greatestOf_X9_cellOf rfl rfl rfl hdX9_cellOf ⟨Nat.le_of_ble_eq_true rfl, Nat.le_of_ble_eq_true rfl⟩) (fl 99 rfl) rfl rfl rfl rfl hl.1 rfl (Nat.le_of_ble_eq_true rfl) ⟨Nat.zero_le _, Nat.zero_le _⟩ dX9_greatestOf_29 (fun x3 w4 H locs h hW hS => ?_)
        refine lv_iadd hx hb dX9_greatestOf_32 ?_
        refine rw_iald hx hb hW (fun _ => (fl 100 rfl)) h dX9_greatestOf_33 (fun x5 h => ?_)
        refine lv_istore (lv' := [(6, .int x5), (0, .ref (E.2.1 99)), (1, .int p1), (2, .int p2), (3, .int p3), (4, .int v4), (5, .int v5)]) hx hb dX9_greatestOf_34 hl (by decide) rfl (fun ls hl => ?_)
        refine lv_iload hx hb dX9_greatestOf_36 (lv_at hl 0 rfl) ?_
        refine lv_iload hx hb dX9_greatestOf_38 (lv_at hl 5 rfl) ?_
        refine rb_icmp_le (tgt := 48) hx hb h dX9_greatestOf_40 (by decide) (fun h => ?_) (fun h => ?_)
        · refine lv_iload hx hb dX9_greatestOf_48 (lv_at hl 5 rfl) ?_
          exact J50 _ _ _ _ _ _ h hW hS (lv_sub hl [1, 2, 3, 4, 6] rfl)
        · refine lv_iload hx hb dX9_greatestOf_43 (lv_at hl 0 rfl) ?_
          refine lv_goto (tgt := 50) hx hb dX9_greatestOf_45 (by decide) ?_
          exact J50 _ _ _ _ _ _ h hW hS (lv_sub hl [1, 2, 3, 4, 6] rfl)
  unfold fX9_greatestOf at h
  refine lv_iconst (v := (0 : Int32)) hx hb dX9_greatestOf_0 (by decide) ?_
  refine lv_istore (lv' := [(4, .int (0 : Int32)), (0, .ref (E.2.1 99)), (1, .int p1), (2, .int p2), (3, .int p3)]) hx hb dX9_greatestOf_1 hl (by decide) rfl (fun ls hl => ?_)
  refine lv_iconst (v := (0 : Int32)) hx hb dX9_greatestOf_3 (by decide) ?_
  refine lv_istore (lv' := [(5, .int (0 : Int32)), (4, .int (0 : Int32)), (0, .ref (E.2.1 99)), (1, .int p1), (2, .int p2), (3, .int p3)]) hx hb dX9_greatestOf_4 hl (by decide) rfl (fun ls hl => ?_)
  exact J6 _ _ _ _ _ _ _ h hW hS (lv_sub hl [2, 3, 4, 5, 1, 0] rfl)
noncomputable def bX9_sumOf_6 (p1 : Int32) (p2 : Int32) (p3 : Int32) (k6 : Int32 → Int32 → Wd → Option (Int32 × Wd)) (v4 : Int32) (v5 : Int32)  (w : Wd) : Option (Int32 × Wd) :=
  bnd (fX9_lengthOf p2 w) fun x1 w2 => if x1 ≤ v5 then some (v4, w2) else bnd (fX9_cellOf p2 p3 v5 w2) fun x3 w4 => (gI w4 100 (((25 : Int32) * p1) + x3)).bind fun x5 => k6 (v4 + x5) (v5 + (1 : Int32)) w4
noncomputable def fX9_sumOf (p1 : Int32) (p2 : Int32) (p3 : Int32) (w : Wd) : Option (Int32 × Wd) :=
  lp (fun _ _ _ => none) (bX9_sumOf_6 p1 p2 p3) G (0 : Int32) (0 : Int32) w
abbrev rmX9_sumOf : Room := { frames := 1, cells := 0, slots := 0, locals := 23 }
set_option maxHeartbeats 4000000 in
set_option maxRecDepth 100000 in
theorem kX9_sumOf (l : Launch) (E : Ev) (p1 : Int32) (p2 : Int32) (p3 : Int32) (w : Wd) (q : Int32 × Wd) (h : fX9_sumOf p1 p2 p3 w = some q) : CtI l yX9_sumOf wsX9_sumOf rmX9_sumOf E full [.ref (E.2.1 99), .int p1, .int p2, .int p3] w q := by
  refine mkI (cc := cX9_sumOf) (maxL := 6) (by decide) rfl (Nat.le_of_ble_eq_true rfl) ?_
  intro p e s m args below meth c Q S hW hQ ls hl
  obtain ⟨hx, hb, hml, hown, hts⟩ := id S
  have hW0 := hW
  have hS : va_S (wA E full) s.heap s.heap [] := va_S.rf
  have hl : lv_has ls 6 [(0, .ref (E.2.1 99)), (1, .int p1), (2, .int p2), (3, .int p3)] := hl
  have iX9 : ∀ w ∈ wsX90, w ∈ wsX9_sumOf := by decide +kernel
  have e7 := hts (.fieldLink RX9 7 "CubeHeapsModel" "heap" "[I") (by decide +kernel)
  have J6 : ∀ (n : Nat) (v4 : Int32) (v5 : Int32) (w : Wd) (H : Heap) (locs : List Loc) (ls : Array Slot), lp (fun _ _ _ => none) (bX9_sumOf_6 p1 p2 p3) n v4 v5 w = some q → World E full w s H → va_S (wA E full) s.heap H locs → lv_has ls 6 [(0, .ref (E.2.1 99)), (1, .int p1), (2, .int p2), (3, .int p3), (4, .int v4), (5, .int v5)] → W p l e rmX9_sumOf s m args below meth c H locs 0 0 Q (F0 m 6 ls []) := by
    intro n
    induction n with
    | zero =>
      intro v4 v5 w H locs ls h hW hS hl
      exact absurd (show (none : Option (Int32 × Wd)) = some q from h) (fun z => by cases z)
    | succ n ih6 =>
      intro v4 v5 w H locs ls h hW hS hl
      have h : bX9_sumOf_6 p1 p2 p3 (lp (fun _ _ _ => none) (bX9_sumOf_6 p1 p2 p3) n) v4 v5 w = some q := h
      generalize lp (fun _ _ _ => none) (bX9_sumOf_6 p1 p2 p3) n = k6 at h ih6
      unfold bX9_sumOf_6 at h
      refine lv_iload hx hb dX9_sumOf_6 (lv_at hl 5 rfl) ?_
      refine lv_aload_n hx hb dX9_sumOf_8 rfl (lv_at hl 0 rfl) ?_
      refine lv_iload_n hx hb dX9_sumOf_9 rfl (lv_at hl 2 rfl) ?_
      refine rc_Vi (k := 99) (As := [.int p2]) (rest := [.int v5]) S hW hS h (kX9_lengthOf l E p2 w) (cwV 1 hts gX9_sumOf_X9_lengthOf rfl rfl rfl hdX9_lengthOf ⟨Nat.le_of_ble_eq_true rfl, Nat.le_of_ble_eq_true rfl⟩) (fl 99 rfl) rfl rfl rfl rfl hl.1 rfl (Nat.le_of_ble_eq_true rfl) ⟨Nat.zero_le _, Nat.zero_le _⟩ dX9_sumOf_10 (fun x1 w2 H locs h hW hS => ?_)
      refine rb_icmp_ge (tgt := 45) hx hb h dX9_sumOf_13 (by decide) (fun h => ?_) (fun h => ?_)
      · refine lv_iload hx hb dX9_sumOf_45 (lv_at hl 4 rfl) ?_
        exact rrI hQ hW hS h dX9_sumOf_47
      · refine lv_iload hx hb dX9_sumOf_16 (lv_at hl 4 rfl) ?_
        refine lv_aload_n hx hb dX9_sumOf_18 rfl (lv_at hl 0 rfl) ?_
        refine rw_get hx hb hts iX9 hown hW (fl 99 rfl) rfl rfl 2 (by decide) e7 rfl (v := .ref (E.2.1 100)) rfl dX9_sumOf_19 ?_
        refine lv_bipush (v := (25 : Int32)) hx hb dX9_sumOf_22 (by decide) ?_
        refine lv_iload_n hx hb dX9_sumOf_24 rfl (lv_at hl 1 rfl) ?_
        refine lv_imul hx hb dX9_sumOf_25 ?_
        refine lv_aload_n hx hb dX9_sumOf_26 rfl (lv_at hl 0 rfl) ?_
        refine lv_iload_n hx hb dX9_sumOf_27 rfl (lv_at hl 2 rfl) ?_
        refine lv_iload_n hx hb dX9_sumOf_28 rfl (lv_at hl 3 rfl) ?_
        refine lv_iload hx hb dX9_sumOf_29 (lv_at hl 5 rfl) ?_
        refine rc_Vi (k := 99) (As := [.int p2, .int p3, .int v5]) (rest := [.int ((25 : Int32) * p1), .ref (E.2.1 100), .int v4]) S hW hS h (kX9_cellOf l E p2 p3 v5 w2) (cwV 3 hts gX9_sumOf_X9_cellOf rfl rfl rfl hdX9_cellOf ⟨Nat.le_of_ble_eq_true rfl, Nat.le_of_ble_eq_true rfl⟩) (fl 99 rfl) rfl rfl rfl rfl hl.1 rfl (Nat.le_of_ble_eq_true rfl) ⟨Nat.zero_le _, Nat.zero_le _⟩ dX9_sumOf_31 (fun x3 w4 H locs h hW hS => ?_)
        refine lv_iadd hx hb dX9_sumOf_34 ?_
        refine rw_iald hx hb hW (fun _ => (fl 100 rfl)) h dX9_sumOf_35 (fun x5 h => ?_)
        refine lv_iadd hx hb dX9_sumOf_36 ?_
        refine lv_istore (lv' := [(4, .int (v4 + x5)), (0, .ref (E.2.1 99)), (1, .int p1), (2, .int p2), (3, .int p3), (5, .int v5)]) hx hb dX9_sumOf_37 hl (by decide) rfl (fun ls hl => ?_)
        refine lv_iinc (v := (v5 + (1 : Int32))) (lv' := [(5, .int (v5 + (1 : Int32))), (4, .int (v4 + x5)), (0, .ref (E.2.1 99)), (1, .int p1), (2, .int p2), (3, .int p3)]) hx hb dX9_sumOf_39 hl (k := 5) rfl rfl (by decide) rfl (fun ls hl => ?_)
        refine lv_goto (tgt := 6) hx hb dX9_sumOf_42 (by decide) ?_
        exact ih6 _ _ _ _ _ _ h hW hS (lv_sub hl [2, 3, 4, 5, 1, 0] rfl)
  unfold fX9_sumOf at h
  refine lv_iconst (v := (0 : Int32)) hx hb dX9_sumOf_0 (by decide) ?_
  refine lv_istore (lv' := [(4, .int (0 : Int32)), (0, .ref (E.2.1 99)), (1, .int p1), (2, .int p2), (3, .int p3)]) hx hb dX9_sumOf_1 hl (by decide) rfl (fun ls hl => ?_)
  refine lv_iconst (v := (0 : Int32)) hx hb dX9_sumOf_3 (by decide) ?_
  refine lv_istore (lv' := [(5, .int (0 : Int32)), (4, .int (0 : Int32)), (0, .ref (E.2.1 99)), (1, .int p1), (2, .int p2), (3, .int p3)]) hx hb dX9_sumOf_4 hl (by decide) rfl (fun ls hl => ?_)
  exact J6 _ _ _ _ _ _ _ h hW hS (lv_sub hl [2, 3, 4, 5, 1, 0] rfl)
noncomputable def fX9_front (p1 : Int32) (p2 : Int32) (w : Wd) : Option (Int32 × Wd) :=
  bnd (fX9_isSlot p1 w) fun x1 w2 => if x1 = 0 then some ((-1 : Int32), w2) else bnd (fX9_isLine (1 : Int32) p2 w2) fun x3 w4 => if x3 = 0 then some ((-1 : Int32), w4) else bnd (fX9_greatestOf p1 (1 : Int32) p2 w4) fun x5 w6 => some (x5, w6)
abbrev rmX9_front : Room := { frames := 2, cells := 0, slots := 0, locals := 49 }
set_option maxHeartbeats 4000000 in
set_option maxRecDepth 100000 in
theorem kX9_front (l : Launch) (E : Ev) (p1 : Int32) (p2 : Int32) (w : Wd) (q : Int32 × Wd) (h : fX9_front p1 p2 w = some q) : CtI l yX9_front wsX9_front rmX9_front E full [.ref (E.2.1 99), .int p1, .int p2] w q := by
  refine mkI (cc := cX9_front) (maxL := 3) (by decide) rfl (Nat.le_of_ble_eq_true rfl) ?_
  intro p e s m args below meth c Q S hW hQ ls hl
  obtain ⟨hx, hb, hml, hown, hts⟩ := id S
  have hW0 := hW
  have hS : va_S (wA E full) s.heap s.heap [] := va_S.rf
  have hl : lv_has ls 3 [(0, .ref (E.2.1 99)), (1, .int p1), (2, .int p2)] := hl
  unfold fX9_front at h
  refine lv_iload_n hx hb dX9_front_0 rfl (lv_at hl 1 rfl) ?_
  refine rc_Si (As := [.int p1]) (rest := []) S hW hS h (kX9_isSlot l E p1 w) (va_cwS 1 hts gX9_front_X9_isSlot rfl rfl rfl hdX9_isSlot ⟨Nat.le_of_ble_eq_true rfl, Nat.le_of_ble_eq_true rfl⟩) rfl hl.1 rfl (Nat.le_of_ble_eq_true rfl) ⟨Nat.zero_le _, Nat.zero_le _⟩ dX9_front_1 (fun x1 w2 H locs h hW hS => ?_)
  refine rb_if_eq (tgt := 26) hx hb h dX9_front_4 (by decide) (fun h => ?_) (fun h => ?_)
  · refine lv_iconst (v := (-1 : Int32)) hx hb dX9_front_26 (by decide) ?_
    exact rrI hQ hW hS h dX9_front_27
  · refine lv_aload_n hx hb dX9_front_7 rfl (lv_at hl 0 rfl) ?_
    refine lv_iconst (v := (1 : Int32)) hx hb dX9_front_8 (by decide) ?_
    refine lv_iload_n hx hb dX9_front_9 rfl (lv_at hl 2 rfl) ?_
    refine rc_Vi (k := 99) (As := [.int (1 : Int32), .int p2]) (rest := []) S hW hS h (kX9_isLine l E (1 : Int32) p2 w2) (cwV 2 hts gX9_front_X9_isLine rfl rfl rfl hdX9_isLine ⟨Nat.le_of_ble_eq_true rfl, Nat.le_of_ble_eq_true rfl⟩) (fl 99 rfl) rfl rfl rfl rfl hl.1 rfl (Nat.le_of_ble_eq_true rfl) ⟨Nat.zero_le _, Nat.zero_le _⟩ dX9_front_10 (fun x3 w4 H locs h hW hS => ?_)
    refine rb_if_eq (tgt := 26) hx hb h dX9_front_13 (by decide) (fun h => ?_) (fun h => ?_)
    · refine lv_iconst (v := (-1 : Int32)) hx hb dX9_front_26 (by decide) ?_
      exact rrI hQ hW hS h dX9_front_27
    · refine lv_aload_n hx hb dX9_front_16 rfl (lv_at hl 0 rfl) ?_
      refine lv_iload_n hx hb dX9_front_17 rfl (lv_at hl 1 rfl) ?_
      refine lv_iconst (v := (1 : Int32)) hx hb dX9_front_18 (by decide) ?_
      refine lv_iload_n hx hb dX9_front_19 rfl (lv_at hl 2 rfl) ?_
      refine rc_Vi (k := 99) (As := [.int p1, .int (1 : Int32), .int p2]) (rest := []) S hW hS h (kX9_greatestOf l E p1 (1 : Int32) p2 w4) (cwV 3 hts gX9_front_X9_greatestOf rfl rfl rfl hdX9_greatestOf ⟨Nat.le_of_ble_eq_true rfl, Nat.le_of_ble_eq_true rfl⟩) (fl 99 rfl) rfl rfl rfl rfl hl.1 rfl (Nat.le_of_ble_eq_true rfl) ⟨Nat.zero_le _, Nat.zero_le _⟩ dX9_front_20 (fun x5 w6 H locs h hW hS => ?_)
      refine lv_goto (tgt := 27) hx hb dX9_front_23 (by decide) ?_
      exact rrI hQ hW hS h dX9_front_27
noncomputable def fX9_side (p1 : Int32) (p2 : Int32) (w : Wd) : Option (Int32 × Wd) :=
  bnd (fX9_isSlot p1 w) fun x1 w2 => if x1 = 0 then some ((-1 : Int32), w2) else bnd (fX9_isLine (0 : Int32) p2 w2) fun x3 w4 => if x3 = 0 then some ((-1 : Int32), w4) else bnd (fX9_greatestOf p1 (0 : Int32) p2 w4) fun x5 w6 => some (x5, w6)
abbrev rmX9_side : Room := { frames := 2, cells := 0, slots := 0, locals := 49 }
set_option maxHeartbeats 4000000 in
set_option maxRecDepth 100000 in
theorem kX9_side (l : Launch) (E : Ev) (p1 : Int32) (p2 : Int32) (w : Wd) (q : Int32 × Wd) (h : fX9_side p1 p2 w = some q) : CtI l yX9_side wsX9_side rmX9_side E full [.ref (E.2.1 99), .int p1, .int p2] w q := by
  refine mkI (cc := cX9_side) (maxL := 3) (by decide) rfl (Nat.le_of_ble_eq_true rfl) ?_
  intro p e s m args below meth c Q S hW hQ ls hl
  obtain ⟨hx, hb, hml, hown, hts⟩ := id S
  have hW0 := hW
  have hS : va_S (wA E full) s.heap s.heap [] := va_S.rf
  have hl : lv_has ls 3 [(0, .ref (E.2.1 99)), (1, .int p1), (2, .int p2)] := hl
  unfold fX9_side at h
  refine lv_iload_n hx hb dX9_side_0 rfl (lv_at hl 1 rfl) ?_
  refine rc_Si (As := [.int p1]) (rest := []) S hW hS h (kX9_isSlot l E p1 w) (va_cwS 1 hts gX9_side_X9_isSlot rfl rfl rfl hdX9_isSlot ⟨Nat.le_of_ble_eq_true rfl, Nat.le_of_ble_eq_true rfl⟩) rfl hl.1 rfl (Nat.le_of_ble_eq_true rfl) ⟨Nat.zero_le _, Nat.zero_le _⟩ dX9_side_1 (fun x1 w2 H locs h hW hS => ?_)
  refine rb_if_eq (tgt := 26) hx hb h dX9_side_4 (by decide) (fun h => ?_) (fun h => ?_)
  · refine lv_iconst (v := (-1 : Int32)) hx hb dX9_side_26 (by decide) ?_
    exact rrI hQ hW hS h dX9_side_27
  · refine lv_aload_n hx hb dX9_side_7 rfl (lv_at hl 0 rfl) ?_
    refine lv_iconst (v := (0 : Int32)) hx hb dX9_side_8 (by decide) ?_
    refine lv_iload_n hx hb dX9_side_9 rfl (lv_at hl 2 rfl) ?_
    refine rc_Vi (k := 99) (As := [.int (0 : Int32), .int p2]) (rest := []) S hW hS h (kX9_isLine l E (0 : Int32) p2 w2) (cwV 2 hts gX9_side_X9_isLine rfl rfl rfl hdX9_isLine ⟨Nat.le_of_ble_eq_true rfl, Nat.le_of_ble_eq_true rfl⟩) (fl 99 rfl) rfl rfl rfl rfl hl.1 rfl (Nat.le_of_ble_eq_true rfl) ⟨Nat.zero_le _, Nat.zero_le _⟩ dX9_side_10 (fun x3 w4 H locs h hW hS => ?_)
    refine rb_if_eq (tgt := 26) hx hb h dX9_side_13 (by decide) (fun h => ?_) (fun h => ?_)
    · refine lv_iconst (v := (-1 : Int32)) hx hb dX9_side_26 (by decide) ?_
      exact rrI hQ hW hS h dX9_side_27
    · refine lv_aload_n hx hb dX9_side_16 rfl (lv_at hl 0 rfl) ?_
      refine lv_iload_n hx hb dX9_side_17 rfl (lv_at hl 1 rfl) ?_
      refine lv_iconst (v := (0 : Int32)) hx hb dX9_side_18 (by decide) ?_
      refine lv_iload_n hx hb dX9_side_19 rfl (lv_at hl 2 rfl) ?_
      refine rc_Vi (k := 99) (As := [.int p1, .int (0 : Int32), .int p2]) (rest := []) S hW hS h (kX9_greatestOf l E p1 (0 : Int32) p2 w4) (cwV 3 hts gX9_side_X9_greatestOf rfl rfl rfl hdX9_greatestOf ⟨Nat.le_of_ble_eq_true rfl, Nat.le_of_ble_eq_true rfl⟩) (fl 99 rfl) rfl rfl rfl rfl hl.1 rfl (Nat.le_of_ble_eq_true rfl) ⟨Nat.zero_le _, Nat.zero_le _⟩ dX9_side_20 (fun x5 w6 H locs h hW hS => ?_)
      refine lv_goto (tgt := 27) hx hb dX9_side_23 (by decide) ?_
      exact rrI hQ hW hS h dX9_side_27
noncomputable def fX9_sum (p1 : Int32) (p2 : Int32) (p3 : Int32) (w : Wd) : Option (Int32 × Wd) :=
  bnd (fX9_isSlot p1 w) fun x1 w2 => if x1 = 0 then some ((-1 : Int32), w2) else bnd (fX9_isLine p2 p3 w2) fun x3 w4 => if x3 = 0 then some ((-1 : Int32), w4) else bnd (fX9_sumOf p1 p2 p3 w4) fun x5 w6 => some (x5, w6)
abbrev rmX9_sum : Room := { frames := 2, cells := 0, slots := 0, locals := 48 }
set_option maxHeartbeats 4000000 in
set_option maxRecDepth 100000 in
theorem kX9_sum (l : Launch) (E : Ev) (p1 : Int32) (p2 : Int32) (p3 : Int32) (w : Wd) (q : Int32 × Wd) (h : fX9_sum p1 p2 p3 w = some q) : CtI l yX9_sum wsX9_sum rmX9_sum E full [.ref (E.2.1 99), .int p1, .int p2, .int p3] w q := by
  refine mkI (cc := cX9_sum) (maxL := 4) (by decide) rfl (Nat.le_of_ble_eq_true rfl) ?_
  intro p e s m args below meth c Q S hW hQ ls hl
  obtain ⟨hx, hb, hml, hown, hts⟩ := id S
  have hW0 := hW
  have hS : va_S (wA E full) s.heap s.heap [] := va_S.rf
  have hl : lv_has ls 4 [(0, .ref (E.2.1 99)), (1, .int p1), (2, .int p2), (3, .int p3)] := hl
  unfold fX9_sum at h
  refine lv_iload_n hx hb dX9_sum_0 rfl (lv_at hl 1 rfl) ?_
  refine rc_Si (As := [.int p1]) (rest := []) S hW hS h (kX9_isSlot l E p1 w) (va_cwS 1 hts gX9_sum_X9_isSlot rfl rfl rfl hdX9_isSlot ⟨Nat.le_of_ble_eq_true rfl, Nat.le_of_ble_eq_true rfl⟩) rfl hl.1 rfl (Nat.le_of_ble_eq_true rfl) ⟨Nat.zero_le _, Nat.zero_le _⟩ dX9_sum_1 (fun x1 w2 H locs h hW hS => ?_)
  refine rb_if_eq (tgt := 26) hx hb h dX9_sum_4 (by decide) (fun h => ?_) (fun h => ?_)
  · refine lv_iconst (v := (-1 : Int32)) hx hb dX9_sum_26 (by decide) ?_
    exact rrI hQ hW hS h dX9_sum_27
  · refine lv_aload_n hx hb dX9_sum_7 rfl (lv_at hl 0 rfl) ?_
    refine lv_iload_n hx hb dX9_sum_8 rfl (lv_at hl 2 rfl) ?_
    refine lv_iload_n hx hb dX9_sum_9 rfl (lv_at hl 3 rfl) ?_
    refine rc_Vi (k := 99) (As := [.int p2, .int p3]) (rest := []) S hW hS h (kX9_isLine l E p2 p3 w2) (cwV 2 hts gX9_sum_X9_isLine rfl rfl rfl hdX9_isLine ⟨Nat.le_of_ble_eq_true rfl, Nat.le_of_ble_eq_true rfl⟩) (fl 99 rfl) rfl rfl rfl rfl hl.1 rfl (Nat.le_of_ble_eq_true rfl) ⟨Nat.zero_le _, Nat.zero_le _⟩ dX9_sum_10 (fun x3 w4 H locs h hW hS => ?_)
    refine rb_if_eq (tgt := 26) hx hb h dX9_sum_13 (by decide) (fun h => ?_) (fun h => ?_)
    · refine lv_iconst (v := (-1 : Int32)) hx hb dX9_sum_26 (by decide) ?_
      exact rrI hQ hW hS h dX9_sum_27
    · refine lv_aload_n hx hb dX9_sum_16 rfl (lv_at hl 0 rfl) ?_
      refine lv_iload_n hx hb dX9_sum_17 rfl (lv_at hl 1 rfl) ?_
      refine lv_iload_n hx hb dX9_sum_18 rfl (lv_at hl 2 rfl) ?_
      refine lv_iload_n hx hb dX9_sum_19 rfl (lv_at hl 3 rfl) ?_
      refine rc_Vi (k := 99) (As := [.int p1, .int p2, .int p3]) (rest := []) S hW hS h (kX9_sumOf l E p1 p2 p3 w4) (cwV 3 hts gX9_sum_X9_sumOf rfl rfl rfl hdX9_sumOf ⟨Nat.le_of_ble_eq_true rfl, Nat.le_of_ble_eq_true rfl⟩) (fl 99 rfl) rfl rfl rfl rfl hl.1 rfl (Nat.le_of_ble_eq_true rfl) ⟨Nat.zero_le _, Nat.zero_le _⟩ dX9_sum_20 (fun x5 w6 H locs h hW hS => ?_)
      refine lv_goto (tgt := 27) hx hb dX9_sum_23 (by decide) ?_
      exact rrI hQ hW hS h dX9_sum_27
noncomputable def jX9_seen_141 (p1 : Int32) (p2 : Int32) (p3 : Int32) (k67 : Int32 → Int32 → Int32 → Int32 → Int32 → Wd → Option (Int32 × Wd)) (v4 : Int32) (v5 : Int32) (v7 : Int32) (v8 : Int32) (s0 : Int32)  (w : Wd) : Option (Int32 × Wd) :=
  k67 v4 v5 s0 v7 (v8 + (1 : Int32)) w
noncomputable def jX9_seen_124 (p1 : Int32) (p2 : Int32) (p3 : Int32) (k67 : Int32 → Int32 → Int32 → Int32 → Int32 → Wd → Option (Int32 × Wd)) (v4 : Int32) (v6 : Int32) (v7 : Int32) (v8 : Int32) (v9 : Int32) (s0 : Int32) (s1 : Int32)  (w : Wd) : Option (Int32 × Wd) :=
  if v9 ≤ v6 then jX9_seen_141 p1 p2 p3 k67 v4 (s1 + s0) v7 v8 v6 w else jX9_seen_141 p1 p2 p3 k67 v4 (s1 + s0) v7 v8 v9 w
noncomputable def jX9_seen_103 (p1 : Int32) (p2 : Int32) (p3 : Int32) (k67 : Int32 → Int32 → Int32 → Int32 → Int32 → Wd → Option (Int32 × Wd)) (v4 : Int32) (v5 : Int32) (v6 : Int32) (v7 : Int32) (v8 : Int32) (s0 : Int32) (s1 : Int32) (s2 : Int32) (s4 : Int32)  (w : Wd) : Option (Int32 × Wd) :=
  bnd (fX9_cellOf s2 s1 s0 w) fun x10 w11 => (gI w11 100 (s4 + x10)).bind fun x12 => if x12 ≤ v6 then jX9_seen_124 p1 p2 p3 k67 v4 v6 v7 v8 x12 (0 : Int32) v5 w11 else jX9_seen_124 p1 p2 p3 k67 v4 v6 v7 v8 x12 (1 : Int32) v5 w11
noncomputable def bX9_seen_67 (p1 : Int32) (p2 : Int32) (p3 : Int32) (k67 : Int32 → Int32 → Int32 → Int32 → Int32 → Wd → Option (Int32 × Wd)) (v4 : Int32) (v5 : Int32) (v6 : Int32) (v7 : Int32) (v8 : Int32)  (w : Wd) : Option (Int32 × Wd) :=
  if v7 ≤ v8 then some (v5, w) else if (2 : Int32) ≤ p2 then jX9_seen_103 p1 p2 p3 k67 v4 v5 v6 v7 v8 ((v7 - (1 : Int32)) - v8) p3 v4 ((25 : Int32) * p1) w else jX9_seen_103 p1 p2 p3 k67 v4 v5 v6 v7 v8 v8 p3 v4 ((25 : Int32) * p1) w
noncomputable def jX9_seen_36 (p1 : Int32) (p2 : Int32) (p3 : Int32) (s0 : Int32)  (w : Wd) : Option (Int32 × Wd) :=
  bnd (fX9_isLine s0 p3 w) fun x6 w7 => if x6 = 0 then some ((-1 : Int32), w7) else bnd (fX9_lengthOf s0 w7) fun x8 w9 => lp (fun _ _ _ _ _ _ => none) (bX9_seen_67 p1 p2 p3) G s0 (0 : Int32) (0 : Int32) x8 (0 : Int32) w9
noncomputable def fX9_seen (p1 : Int32) (p2 : Int32) (p3 : Int32) (w : Wd) : Option (Int32 × Wd) :=
  bnd (fX9_isSlot p1 w) fun x1 w2 => if x1 = 0 then some ((-1 : Int32), w2) else bnd (fX9_in (p2.toInt64) (0 : Int64) (3 : Int64) w2) fun x3 w4 => if x3 = 0 then some ((-2 : Int32), w4) else (rmI p2 (2 : Int32)).bind fun x5 => if x5 = (1 : Int32) then jX9_seen_36 p1 p2 p3 (1 : Int32) w4 else jX9_seen_36 p1 p2 p3 (0 : Int32) w4
abbrev rmX9_seen : Room := { frames := 2, cells := 0, slots := 0, locals := 47 }
set_option maxHeartbeats 4000000 in
set_option maxRecDepth 100000 in
theorem kX9_seen (l : Launch) (E : Ev) (p1 : Int32) (p2 : Int32) (p3 : Int32) (w : Wd) (q : Int32 × Wd) (h : fX9_seen p1 p2 p3 w = some q) : CtI l yX9_seen wsX9_seen rmX9_seen E full [.ref (E.2.1 99), .int p1, .int p2, .int p3] w q := by
  refine mkI (cc := cX9_seen) (maxL := 10) (by decide) rfl (Nat.le_of_ble_eq_true rfl) ?_
  intro p e s m args below meth c Q S hW hQ ls hl
  obtain ⟨hx, hb, hml, hown, hts⟩ := id S
  have hW0 := hW
  have hS : va_S (wA E full) s.heap s.heap [] := va_S.rf
  have hl : lv_has ls 10 [(0, .ref (E.2.1 99)), (1, .int p1), (2, .int p2), (3, .int p3)] := hl
  have iX9 : ∀ w ∈ wsX90, w ∈ wsX9_seen := by decide +kernel
  have e7 := hts (.fieldLink RX9 7 "CubeHeapsModel" "heap" "[I") (by decide +kernel)
  have J67 : ∀ (n : Nat) (v4 : Int32) (v5 : Int32) (v6 : Int32) (v7 : Int32) (v8 : Int32) (w : Wd) (H : Heap) (locs : List Loc) (ls : Array Slot), lp (fun _ _ _ _ _ _ => none) (bX9_seen_67 p1 p2 p3) n v4 v5 v6 v7 v8 w = some q → World E full w s H → va_S (wA E full) s.heap H locs → lv_has ls 10 [(0, .ref (E.2.1 99)), (1, .int p1), (2, .int p2), (3, .int p3), (4, .int v4), (5, .int v5), (6, .int v6), (7, .int v7), (8, .int v8)] → W p l e rmX9_seen s m args below meth c H locs 0 0 Q (F0 m 67 ls []) := by
    intro n
    induction n with
    | zero =>
      intro v4 v5 v6 v7 v8 w H locs ls h hW hS hl
      exact absurd (show (none : Option (Int32 × Wd)) = some q from h) (fun z => by cases z)
    | succ n ih67 =>
      intro v4 v5 v6 v7 v8 w H locs ls h hW hS hl
      have h : bX9_seen_67 p1 p2 p3 (lp (fun _ _ _ _ _ _ => none) (bX9_seen_67 p1 p2 p3) n) v4 v5 v6 v7 v8 w = some q := h
      generalize lp (fun _ _ _ _ _ _ => none) (bX9_seen_67 p1 p2 p3) n = k67 at h ih67
      have J141 : ∀ (v4 : Int32) (v5 : Int32) (v7 : Int32) (v8 : Int32) (s0 : Int32) (w : Wd) (H : Heap) (locs : List Loc) (ls : Array Slot), jX9_seen_141 p1 p2 p3 k67 v4 v5 v7 v8 s0 w = some q → World E full w s H → va_S (wA E full) s.heap H locs → lv_has ls 10 [(0, .ref (E.2.1 99)), (1, .int p1), (2, .int p2), (3, .int p3), (4, .int v4), (5, .int v5), (7, .int v7), (8, .int v8)] → W p l e rmX9_seen s m args below meth c H locs 0 0 Q (F0 m 141 ls [.int s0]) := by
        intro v4 v5 v7 v8 s0 w H locs ls h hW hS hl
        unfold jX9_seen_141 at h
        refine lv_istore (lv' := [(6, .int s0), (0, .ref (E.2.1 99)), (1, .int p1), (2, .int p2), (3, .int p3), (4, .int v4), (5, .int v5), (7, .int v7), (8, .int v8)]) hx hb dX9_seen_141 hl (by decide) rfl (fun ls hl => ?_)
        refine lv_iinc (v := (v8 + (1 : Int32))) (lv' := [(8, .int (v8 + (1 : Int32))), (6, .int s0), (0, .ref (E.2.1 99)), (1, .int p1), (2, .int p2), (3, .int p3), (4, .int v4), (5, .int v5), (7, .int v7)]) hx hb dX9_seen_143 hl (k := 8) rfl rfl (by decide) rfl (fun ls hl => ?_)
        refine lv_goto (tgt := 67) hx hb dX9_seen_146 (by decide) ?_
        exact ih67 _ _ _ _ _ _ _ _ _ h hW hS (lv_sub hl [2, 3, 4, 5, 6, 7, 1, 8, 0] rfl)
      have J124 : ∀ (v4 : Int32) (v6 : Int32) (v7 : Int32) (v8 : Int32) (v9 : Int32) (s0 : Int32) (s1 : Int32) (w : Wd) (H : Heap) (locs : List Loc) (ls : Array Slot), jX9_seen_124 p1 p2 p3 k67 v4 v6 v7 v8 v9 s0 s1 w = some q → World E full w s H → va_S (wA E full) s.heap H locs → lv_has ls 10 [(0, .ref (E.2.1 99)), (1, .int p1), (2, .int p2), (3, .int p3), (4, .int v4), (6, .int v6), (7, .int v7), (8, .int v8), (9, .int v9)] → W p l e rmX9_seen s m args below meth c H locs 0 0 Q (F0 m 124 ls [.int s0, .int s1]) := by
        intro v4 v6 v7 v8 v9 s0 s1 w H locs ls h hW hS hl
        unfold jX9_seen_124 at h
        refine lv_iadd hx hb dX9_seen_124 ?_
        refine lv_istore (lv' := [(5, .int (s1 + s0)), (0, .ref (E.2.1 99)), (1, .int p1), (2, .int p2), (3, .int p3), (4, .int v4), (6, .int v6), (7, .int v7), (8, .int v8), (9, .int v9)]) hx hb dX9_seen_125 hl (by decide) rfl (fun ls hl => ?_)
        refine lv_iload hx hb dX9_seen_127 (lv_at hl 9 rfl) ?_
        refine lv_iload hx hb dX9_seen_129 (lv_at hl 6 rfl) ?_
        refine rb_icmp_le (tgt := 139) hx hb h dX9_seen_131 (by decide) (fun h => ?_) (fun h => ?_)
        · refine lv_iload hx hb dX9_seen_139 (lv_at hl 6 rfl) ?_
          exact J141 _ _ _ _ _ _ _ _ _ h hW hS (lv_sub hl [1, 2, 3, 4, 5, 0, 7, 8] rfl)
        · refine lv_iload hx hb dX9_seen_134 (lv_at hl 9 rfl) ?_
          refine lv_goto (tgt := 141) hx hb dX9_seen_136 (by decide) ?_
          exact J141 _ _ _ _ _ _ _ _ _ h hW hS (lv_sub hl [1, 2, 3, 4, 5, 0, 7, 8] rfl)
      have J103 : ∀ (v4 : Int32) (v5 : Int32) (v6 : Int32) (v7 : Int32) (v8 : Int32) (s0 : Int32) (s1 : Int32) (s2 : Int32) (s4 : Int32) (w : Wd) (H : Heap) (locs : List Loc) (ls : Array Slot), jX9_seen_103 p1 p2 p3 k67 v4 v5 v6 v7 v8 s0 s1 s2 s4 w = some q → World E full w s H → va_S (wA E full) s.heap H locs → lv_has ls 10 [(0, .ref (E.2.1 99)), (1, .int p1), (2, .int p2), (3, .int p3), (4, .int v4), (5, .int v5), (6, .int v6), (7, .int v7), (8, .int v8)] → W p l e rmX9_seen s m args below meth c H locs 0 0 Q (F0 m 103 ls [.int s0, .int s1, .int s2, .ref (E.2.1 99), .int s4, .ref (E.2.1 100)]) := by
        intro v4 v5 v6 v7 v8 s0 s1 s2 s4 w H locs ls h hW hS hl
        unfold jX9_seen_103 at h
        refine rc_Vi (k := 99) (As := [.int s2, .int s1, .int s0]) (rest := [.int s4, .ref (E.2.1 100)]) S hW hS h (kX9_cellOf l E s2 s1 s0 w) (cwV 3 hts gX9_seen_X9_cellOf rfl rfl rfl hdX9_cellOf ⟨Nat.le_of_ble_eq_true rfl, Nat.le_of_ble_eq_true rfl⟩) (fl 99 rfl) rfl rfl rfl rfl hl.1 rfl (Nat.le_of_ble_eq_true rfl) ⟨Nat.zero_le _, Nat.zero_le _⟩ dX9_seen_103 (fun x10 w11 H locs h hW hS => ?_)
        refine lv_iadd hx hb dX9_seen_106 ?_
        refine rw_iald hx hb hW (fun _ => (fl 100 rfl)) h dX9_seen_107 (fun x12 h => ?_)
        refine lv_istore (lv' := [(9, .int x12), (0, .ref (E.2.1 99)), (1, .int p1), (2, .int p2), (3, .int p3), (4, .int v4), (5, .int v5), (6, .int v6), (7, .int v7), (8, .int v8)]) hx hb dX9_seen_108 hl (by decide) rfl (fun ls hl => ?_)
        refine lv_iload hx hb dX9_seen_110 (lv_at hl 6 rfl) ?_
        refine lv_iload hx hb dX9_seen_112 (lv_at hl 0 rfl) ?_
        refine lv_iload hx hb dX9_seen_114 (lv_at hl 7 rfl) ?_
        refine rb_icmp_le (tgt := 123) hx hb h dX9_seen_116 (by decide) (fun h => ?_) (fun h => ?_)
        · refine lv_iconst (v := (0 : Int32)) hx hb dX9_seen_123 (by decide) ?_
          exact J124 _ _ _ _ _ _ _ _ _ _ _ h hW hS (lv_sub hl [1, 2, 3, 4, 5, 7, 8, 9, 0] rfl)
        · refine lv_iconst (v := (1 : Int32)) hx hb dX9_seen_119 (by decide) ?_
          refine lv_goto (tgt := 124) hx hb dX9_seen_120 (by decide) ?_
          exact J124 _ _ _ _ _ _ _ _ _ _ _ h hW hS (lv_sub hl [1, 2, 3, 4, 5, 7, 8, 9, 0] rfl)
      unfold bX9_seen_67 at h
      refine lv_iload hx hb dX9_seen_67 (lv_at hl 8 rfl) ?_
      refine lv_iload hx hb dX9_seen_69 (lv_at hl 7 rfl) ?_
      refine rb_icmp_ge (tgt := 149) hx hb h dX9_seen_71 (by decide) (fun h => ?_) (fun h => ?_)
      · refine lv_iload hx hb dX9_seen_149 (lv_at hl 5 rfl) ?_
        exact rrI hQ hW hS h dX9_seen_151
      · refine lv_aload_n hx hb dX9_seen_74 rfl (lv_at hl 0 rfl) ?_
        refine rw_get hx hb hts iX9 hown hW (fl 99 rfl) rfl rfl 2 (by decide) e7 rfl (v := .ref (E.2.1 100)) rfl dX9_seen_75 ?_
        refine lv_bipush (v := (25 : Int32)) hx hb dX9_seen_78 (by decide) ?_
        refine lv_iload_n hx hb dX9_seen_80 rfl (lv_at hl 1 rfl) ?_
        refine lv_imul hx hb dX9_seen_81 ?_
        refine lv_aload_n hx hb dX9_seen_82 rfl (lv_at hl 0 rfl) ?_
        refine lv_iload hx hb dX9_seen_83 (lv_at hl 4 rfl) ?_
        refine lv_iload_n hx hb dX9_seen_85 rfl (lv_at hl 3 rfl) ?_
        refine lv_iload_n hx hb dX9_seen_86 rfl (lv_at hl 2 rfl) ?_
        refine lv_iconst (v := (2 : Int32)) hx hb dX9_seen_87 (by decide) ?_
        refine rb_icmp_ge (tgt := 96) hx hb h dX9_seen_88 (by decide) (fun h => ?_) (fun h => ?_)
        · refine lv_iload hx hb dX9_seen_96 (lv_at hl 7 rfl) ?_
          refine lv_iconst (v := (1 : Int32)) hx hb dX9_seen_98 (by decide) ?_
          refine lv_isub hx hb dX9_seen_99 ?_
          refine lv_iload hx hb dX9_seen_100 (lv_at hl 8 rfl) ?_
          refine lv_isub hx hb dX9_seen_102 ?_
          exact J103 _ _ _ _ _ _ _ _ _ _ _ _ _ h hW hS (hl)
        · refine lv_iload hx hb dX9_seen_91 (lv_at hl 8 rfl) ?_
          refine lv_goto (tgt := 103) hx hb dX9_seen_93 (by decide) ?_
          exact J103 _ _ _ _ _ _ _ _ _ _ _ _ _ h hW hS (hl)
  have J36 : ∀ (s0 : Int32) (w : Wd) (H : Heap) (locs : List Loc) (ls : Array Slot), jX9_seen_36 p1 p2 p3 s0 w = some q → World E full w s H → va_S (wA E full) s.heap H locs → lv_has ls 10 [(0, .ref (E.2.1 99)), (1, .int p1), (2, .int p2), (3, .int p3)] → W p l e rmX9_seen s m args below meth c H locs 0 0 Q (F0 m 36 ls [.int s0]) := by
    intro s0 w H locs ls h hW hS hl
    unfold jX9_seen_36 at h
    refine lv_istore (lv' := [(4, .int s0), (0, .ref (E.2.1 99)), (1, .int p1), (2, .int p2), (3, .int p3)]) hx hb dX9_seen_36 hl (by decide) rfl (fun ls hl => ?_)
    refine lv_aload_n hx hb dX9_seen_38 rfl (lv_at hl 1 rfl) ?_
    refine lv_iload hx hb dX9_seen_39 (lv_at hl 0 rfl) ?_
    refine lv_iload_n hx hb dX9_seen_41 rfl (lv_at hl 4 rfl) ?_
    refine rc_Vi (k := 99) (As := [.int s0, .int p3]) (rest := []) S hW hS h (kX9_isLine l E s0 p3 w) (cwV 2 hts gX9_seen_X9_isLine rfl rfl rfl hdX9_isLine ⟨Nat.le_of_ble_eq_true rfl, Nat.le_of_ble_eq_true rfl⟩) (fl 99 rfl) rfl rfl rfl rfl hl.1 rfl (Nat.le_of_ble_eq_true rfl) ⟨Nat.zero_le _, Nat.zero_le _⟩ dX9_seen_42 (fun x6 w7 H locs h hW hS => ?_)
    refine rb_if_ne (tgt := 50) hx hb h dX9_seen_45 (by decide) (fun h => ?_) (fun h => ?_)
    · refine lv_iconst (v := (0 : Int32)) hx hb dX9_seen_50 (by decide) ?_
      refine lv_istore (lv' := [(5, .int (0 : Int32)), (4, .int s0), (0, .ref (E.2.1 99)), (1, .int p1), (2, .int p2), (3, .int p3)]) hx hb dX9_seen_51 hl (by decide) rfl (fun ls hl => ?_)
      refine lv_iconst (v := (0 : Int32)) hx hb dX9_seen_53 (by decide) ?_
      refine lv_istore (lv' := [(6, .int (0 : Int32)), (5, .int (0 : Int32)), (4, .int s0), (0, .ref (E.2.1 99)), (1, .int p1), (2, .int p2), (3, .int p3)]) hx hb dX9_seen_54 hl (by decide) rfl (fun ls hl => ?_)
      refine lv_aload_n hx hb dX9_seen_56 rfl (lv_at hl 3 rfl) ?_
      refine lv_iload hx hb dX9_seen_57 (lv_at hl 2 rfl) ?_
      refine rc_Vi (k := 99) (As := [.int s0]) (rest := []) S hW hS h (kX9_lengthOf l E s0 w7) (cwV 1 hts gX9_seen_X9_lengthOf rfl rfl rfl hdX9_lengthOf ⟨Nat.le_of_ble_eq_true rfl, Nat.le_of_ble_eq_true rfl⟩) (fl 99 rfl) rfl rfl rfl rfl hl.1 rfl (Nat.le_of_ble_eq_true rfl) ⟨Nat.zero_le _, Nat.zero_le _⟩ dX9_seen_59 (fun x8 w9 H locs h hW hS => ?_)
      refine lv_istore (lv' := [(7, .int x8), (6, .int (0 : Int32)), (5, .int (0 : Int32)), (4, .int s0), (0, .ref (E.2.1 99)), (1, .int p1), (2, .int p2), (3, .int p3)]) hx hb dX9_seen_62 hl (by decide) rfl (fun ls hl => ?_)
      refine lv_iconst (v := (0 : Int32)) hx hb dX9_seen_64 (by decide) ?_
      refine lv_istore (lv' := [(8, .int (0 : Int32)), (7, .int x8), (6, .int (0 : Int32)), (5, .int (0 : Int32)), (4, .int s0), (0, .ref (E.2.1 99)), (1, .int p1), (2, .int p2), (3, .int p3)]) hx hb dX9_seen_65 hl (by decide) rfl (fun ls hl => ?_)
      exact J67 _ _ _ _ _ _ _ _ _ _ h hW hS (lv_sub hl [5, 6, 7, 8, 4, 3, 2, 1, 0] rfl)
    · refine lv_iconst (v := (-1 : Int32)) hx hb dX9_seen_48 (by decide) ?_
      exact rrI hQ hW hS h dX9_seen_49
  unfold fX9_seen at h
  refine lv_iload_n hx hb dX9_seen_0 rfl (lv_at hl 1 rfl) ?_
  refine rc_Si (As := [.int p1]) (rest := []) S hW hS h (kX9_isSlot l E p1 w) (va_cwS 1 hts gX9_seen_X9_isSlot rfl rfl rfl hdX9_isSlot ⟨Nat.le_of_ble_eq_true rfl, Nat.le_of_ble_eq_true rfl⟩) rfl hl.1 rfl (Nat.le_of_ble_eq_true rfl) ⟨Nat.zero_le _, Nat.zero_le _⟩ dX9_seen_1 (fun x1 w2 H locs h hW hS => ?_)
  refine rb_if_ne (tgt := 9) hx hb h dX9_seen_4 (by decide) (fun h => ?_) (fun h => ?_)
  · refine lv_iload_n hx hb dX9_seen_9 rfl (lv_at hl 2 rfl) ?_
    refine lv_i2l (v := (p2.toInt64)) hx hb dX9_seen_10 rfl ?_
    refine lv_lconst (v := (0 : Int64)) hx hb dX9_seen_11 (by decide) ?_
    refine lv_ldc2 (own := RX9) (v := (3 : Int64)) hx hb hown (hts _ (by decide +kernel)) dX9_seen_12 ?_
    refine rc_Si (As := [.long (p2.toInt64), .long (0 : Int64), .long (3 : Int64)]) (rest := []) S hW hS h (kX9_in l E (p2.toInt64) (0 : Int64) (3 : Int64) w2) (va_cwS 3 hts gX9_seen_X9_in rfl rfl rfl hdX9_in ⟨Nat.le_of_ble_eq_true rfl, Nat.le_of_ble_eq_true rfl⟩) rfl hl.1 rfl (Nat.le_of_ble_eq_true rfl) ⟨Nat.zero_le _, Nat.zero_le _⟩ dX9_seen_15 (fun x3 w4 H locs h hW hS => ?_)
    refine rb_if_ne (tgt := 24) hx hb h dX9_seen_18 (by decide) (fun h => ?_) (fun h => ?_)
    · refine lv_iload_n hx hb dX9_seen_24 rfl (lv_at hl 2 rfl) ?_
      refine lv_iconst (v := (2 : Int32)) hx hb dX9_seen_25 (by decide) ?_
      refine rb_rem hx hb h dX9_seen_26 (fun x5 h => ?_)
      refine lv_iconst (v := (1 : Int32)) hx hb dX9_seen_27 (by decide) ?_
      refine rb_icmp_ne (tgt := 35) hx hb h dX9_seen_28 (by decide) (fun h => ?_) (fun h => ?_)
      · refine lv_iconst (v := (0 : Int32)) hx hb dX9_seen_35 (by decide) ?_
        exact J36 _ _ _ _ _ h hW hS (hl)
      · refine lv_iconst (v := (1 : Int32)) hx hb dX9_seen_31 (by decide) ?_
        refine lv_goto (tgt := 36) hx hb dX9_seen_32 (by decide) ?_
        exact J36 _ _ _ _ _ h hW hS (hl)
    · refine lv_bipush (v := (-2 : Int32)) hx hb dX9_seen_21 (by decide) ?_
      exact rrI hQ hW hS h dX9_seen_23
  · refine lv_iconst (v := (-1 : Int32)) hx hb dX9_seen_7 (by decide) ?_
    exact rrI hQ hW hS h dX9_seen_8
