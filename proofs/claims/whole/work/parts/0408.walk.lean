noncomputable def jX9_beside_51 (p1 : Int32) (p2 : Int32) (v3 : Int32) (s0 : Int32) (s1 : Int32)  (w : Wd) : Option (Int32 × Wd) :=
  bnd (fX9_in (v3.toInt64) (0 : Int64) (((w.1 99 0) - (1 : Int32)).toInt64) w) fun x3 w4 => if x3 = 0 then some ((-9 : Int32), w4) else bnd (fX9_in ((s1 + s0).toInt64) (0 : Int64) (((w4.1 99 1) - (1 : Int32)).toInt64) w4) fun x5 w6 => if x5 = 0 then some ((-9 : Int32), w6) else some ((((s1 + s0) * (w6.1 99 0)) + v3), w6)
noncomputable def jX9_beside_24 (p1 : Int32) (p2 : Int32) (s0 : Int32) (s1 : Int32)  (w : Wd) : Option (Int32 × Wd) :=
  (dvI p1 (w.1 99 0)).bind fun x2 => if p2 = (1 : Int32) then jX9_beside_51 p1 p2 (s1 + s0) (1 : Int32) x2 w else if p2 = (3 : Int32) then jX9_beside_51 p1 p2 (s1 + s0) (-1 : Int32) x2 w else jX9_beside_51 p1 p2 (s1 + s0) (0 : Int32) x2 w
noncomputable def fX9_beside (p1 : Int32) (p2 : Int32) (w : Wd) : Option (Int32 × Wd) :=
  (rmI p1 (w.1 99 0)).bind fun x1 => if p2 = 0 then jX9_beside_24 p1 p2 (1 : Int32) x1 w else if p2 = (2 : Int32) then jX9_beside_24 p1 p2 (-1 : Int32) x1 w else jX9_beside_24 p1 p2 (0 : Int32) x1 w
abbrev rmX9_beside : Room := { frames := 1, cells := 0, slots := 0, locals := 25 }
set_option maxHeartbeats 4000000 in
set_option maxRecDepth 100000 in
theorem kX9_beside (l : Launch) (E : Ev) (p1 : Int32) (p2 : Int32) (w : Wd) (q : Int32 × Wd) (h : fX9_beside p1 p2 w = some q) : CtI l yX9_beside wsX9_beside rmX9_beside E full [.ref (E.2.1 99), .int p1, .int p2] w q := by
  refine mkI (cc := cX9_beside) (maxL := 5) (by decide) rfl (Nat.le_of_ble_eq_true rfl) ?_
  intro p e s m args below meth c Q S hW hQ ls hl
  obtain ⟨hx, hb, hml, hown, hts⟩ := id S
  have hW0 := hW
  have hS : va_S (wA E full) s.heap s.heap [] := va_S.rf
  have hl : lv_has ls 5 [(0, .ref (E.2.1 99)), (1, .int p1), (2, .int p2)] := hl
  have iX9 : ∀ w ∈ wsX90, w ∈ wsX9_beside := by decide +kernel
  have e85 := hts (.fieldLink RX9 85 "CubeHeapsModel" "wide" "I") (by decide +kernel)
  have e88 := hts (.fieldLink RX9 88 "CubeHeapsModel" "tall" "I") (by decide +kernel)
  have J51 : ∀ (v3 : Int32) (s0 : Int32) (s1 : Int32) (w : Wd) (H : Heap) (locs : List Loc) (ls : Array Slot), jX9_beside_51 p1 p2 v3 s0 s1 w = some q → World E full w s H → va_S (wA E full) s.heap H locs → lv_has ls 5 [(0, .ref (E.2.1 99)), (3, .int v3)] → W p l e rmX9_beside s m args below meth c H locs 0 0 Q (F0 m 51 ls [.int s0, .int s1]) := by
    intro v3 s0 s1 w H locs ls h hW hS hl
    unfold jX9_beside_51 at h
    refine lv_iadd hx hb dX9_beside_51 ?_
    refine lv_istore (lv' := [(4, .int (s1 + s0)), (0, .ref (E.2.1 99)), (3, .int v3)]) hx hb dX9_beside_52 hl (by decide) rfl (fun ls hl => ?_)
    refine lv_iload_n hx hb dX9_beside_54 rfl (lv_at hl 2 rfl) ?_
    refine lv_i2l (v := (v3.toInt64)) hx hb dX9_beside_55 rfl ?_
    refine lv_lconst (v := (0 : Int64)) hx hb dX9_beside_56 (by decide) ?_
    refine lv_aload_n hx hb dX9_beside_57 rfl (lv_at hl 1 rfl) ?_
    refine rw_get hx hb hts iX9 hown hW (fl 99 rfl) rfl rfl 0 (by decide) e85 rfl (v := .int (w.1 99 0)) rfl dX9_beside_58 ?_
    refine lv_iconst (v := (1 : Int32)) hx hb dX9_beside_61 (by decide) ?_
    refine lv_isub hx hb dX9_beside_62 ?_
    refine lv_i2l (v := (((w.1 99 0) - (1 : Int32)).toInt64)) hx hb dX9_beside_63 rfl ?_
    refine rc_Si (As := [.long (v3.toInt64), .long (0 : Int64), .long (((w.1 99 0) - (1 : Int32)).toInt64)]) (rest := []) S hW hS h (kX9_in l E (v3.toInt64) (0 : Int64) (((w.1 99 0) - (1 : Int32)).toInt64) w) (va_cwS 3 hts gX9_beside_X9_in rfl rfl rfl hdX9_in ⟨Nat.le_of_ble_eq_true rfl, Nat.le_of_ble_eq_true rfl⟩) rfl hl.1 rfl (Nat.le_of_ble_eq_true rfl) ⟨Nat.zero_le _, Nat.zero_le _⟩ dX9_beside_64 (fun x3 w4 H locs h hW hS => ?_)
    refine rb_if_eq (tgt := 99) hx hb h dX9_beside_67 (by decide) (fun h => ?_) (fun h => ?_)
    · refine lv_bipush (v := (-9 : Int32)) hx hb dX9_beside_99 (by decide) ?_
      exact rrI hQ hW hS h dX9_beside_101
    · refine lv_iload hx hb dX9_beside_70 (lv_at hl 0 rfl) ?_
      refine lv_i2l (v := ((s1 + s0).toInt64)) hx hb dX9_beside_72 rfl ?_
      refine lv_lconst (v := (0 : Int64)) hx hb dX9_beside_73 (by decide) ?_
      refine lv_aload_n hx hb dX9_beside_74 rfl (lv_at hl 1 rfl) ?_
      refine rw_get hx hb hts iX9 hown hW (fl 99 rfl) rfl rfl 1 (by decide) e88 rfl (v := .int (w4.1 99 1)) rfl dX9_beside_75 ?_
      refine lv_iconst (v := (1 : Int32)) hx hb dX9_beside_78 (by decide) ?_
      refine lv_isub hx hb dX9_beside_79 ?_
      refine lv_i2l (v := (((w4.1 99 1) - (1 : Int32)).toInt64)) hx hb dX9_beside_80 rfl ?_
      refine rc_Si (As := [.long ((s1 + s0).toInt64), .long (0 : Int64), .long (((w4.1 99 1) - (1 : Int32)).toInt64)]) (rest := []) S hW hS h (kX9_in l E ((s1 + s0).toInt64) (0 : Int64) (((w4.1 99 1) - (1 : Int32)).toInt64) w4) (va_cwS 3 hts gX9_beside_X9_in rfl rfl rfl hdX9_in ⟨Nat.le_of_ble_eq_true rfl, Nat.le_of_ble_eq_true rfl⟩) rfl hl.1 rfl (Nat.le_of_ble_eq_true rfl) ⟨Nat.zero_le _, Nat.zero_le _⟩ dX9_beside_81 (fun x5 w6 H locs h hW hS => ?_)
      refine rb_if_eq (tgt := 99) hx hb h dX9_beside_84 (by decide) (fun h => ?_) (fun h => ?_)
      · refine lv_bipush (v := (-9 : Int32)) hx hb dX9_beside_99 (by decide) ?_
        exact rrI hQ hW hS h dX9_beside_101
      · refine lv_iload hx hb dX9_beside_87 (lv_at hl 0 rfl) ?_
        refine lv_aload_n hx hb dX9_beside_89 rfl (lv_at hl 1 rfl) ?_
        refine rw_get hx hb hts iX9 hown hW (fl 99 rfl) rfl rfl 0 (by decide) e85 rfl (v := .int (w6.1 99 0)) rfl dX9_beside_90 ?_
        refine lv_imul hx hb dX9_beside_93 ?_
        refine lv_iload_n hx hb dX9_beside_94 rfl (lv_at hl 2 rfl) ?_
        refine lv_iadd hx hb dX9_beside_95 ?_
        refine lv_goto (tgt := 101) hx hb dX9_beside_96 (by decide) ?_
        exact rrI hQ hW hS h dX9_beside_101
  have J24 : ∀ (s0 : Int32) (s1 : Int32) (w : Wd) (H : Heap) (locs : List Loc) (ls : Array Slot), jX9_beside_24 p1 p2 s0 s1 w = some q → World E full w s H → va_S (wA E full) s.heap H locs → lv_has ls 5 [(0, .ref (E.2.1 99)), (1, .int p1), (2, .int p2)] → W p l e rmX9_beside s m args below meth c H locs 0 0 Q (F0 m 24 ls [.int s0, .int s1]) := by
    intro s0 s1 w H locs ls h hW hS hl
    unfold jX9_beside_24 at h
    refine lv_iadd hx hb dX9_beside_24 ?_
    refine lv_istore_n (lv' := [(3, .int (s1 + s0)), (0, .ref (E.2.1 99)), (1, .int p1), (2, .int p2)]) hx hb dX9_beside_25 rfl hl (by decide) rfl (fun ls hl => ?_)
    refine lv_iload_n hx hb dX9_beside_26 rfl (lv_at hl 2 rfl) ?_
    refine lv_aload_n hx hb dX9_beside_27 rfl (lv_at hl 1 rfl) ?_
    refine rw_get hx hb hts iX9 hown hW (fl 99 rfl) rfl rfl 0 (by decide) e85 rfl (v := .int (w.1 99 0)) rfl dX9_beside_28 ?_
    refine rb_div hx hb h dX9_beside_31 (fun x2 h => ?_)
    refine lv_iload_n hx hb dX9_beside_32 rfl (lv_at hl 3 rfl) ?_
    refine lv_iconst (v := (1 : Int32)) hx hb dX9_beside_33 (by decide) ?_
    refine rb_icmp_ne (tgt := 41) hx hb h dX9_beside_34 (by decide) (fun h => ?_) (fun h => ?_)
    · refine lv_iload_n hx hb dX9_beside_41 rfl (lv_at hl 3 rfl) ?_
      refine lv_iconst (v := (3 : Int32)) hx hb dX9_beside_42 (by decide) ?_
      refine rb_icmp_ne (tgt := 50) hx hb h dX9_beside_43 (by decide) (fun h => ?_) (fun h => ?_)
      · refine lv_iconst (v := (0 : Int32)) hx hb dX9_beside_50 (by decide) ?_
        exact J51 _ _ _ _ _ _ _ h hW hS (lv_sub hl [1, 0] rfl)
      · refine lv_iconst (v := (-1 : Int32)) hx hb dX9_beside_46 (by decide) ?_
        refine lv_goto (tgt := 51) hx hb dX9_beside_47 (by decide) ?_
        exact J51 _ _ _ _ _ _ _ h hW hS (lv_sub hl [1, 0] rfl)
    · refine lv_iconst (v := (1 : Int32)) hx hb dX9_beside_37 (by decide) ?_
      refine lv_goto (tgt := 51) hx hb dX9_beside_38 (by decide) ?_
      exact J51 _ _ _ _ _ _ _ h hW hS (lv_sub hl [1, 0] rfl)
  unfold fX9_beside at h
  refine lv_iload_n hx hb dX9_beside_0 rfl (lv_at hl 1 rfl) ?_
  refine lv_aload_n hx hb dX9_beside_1 rfl (lv_at hl 0 rfl) ?_
  refine rw_get hx hb hts iX9 hown hW (fl 99 rfl) rfl rfl 0 (by decide) e85 rfl (v := .int (w.1 99 0)) rfl dX9_beside_2 ?_
  refine rb_rem hx hb h dX9_beside_5 (fun x1 h => ?_)
  refine lv_iload_n hx hb dX9_beside_6 rfl (lv_at hl 2 rfl) ?_
  refine rb_if_ne (tgt := 14) hx hb h dX9_beside_7 (by decide) (fun h => ?_) (fun h => ?_)
  · refine lv_iload_n hx hb dX9_beside_14 rfl (lv_at hl 2 rfl) ?_
    refine lv_iconst (v := (2 : Int32)) hx hb dX9_beside_15 (by decide) ?_
    refine rb_icmp_ne (tgt := 23) hx hb h dX9_beside_16 (by decide) (fun h => ?_) (fun h => ?_)
    · refine lv_iconst (v := (0 : Int32)) hx hb dX9_beside_23 (by decide) ?_
      exact J24 _ _ _ _ _ _ h hW hS (hl)
    · refine lv_iconst (v := (-1 : Int32)) hx hb dX9_beside_19 (by decide) ?_
      refine lv_goto (tgt := 24) hx hb dX9_beside_20 (by decide) ?_
      exact J24 _ _ _ _ _ _ h hW hS (hl)
  · refine lv_iconst (v := (1 : Int32)) hx hb dX9_beside_10 (by decide) ?_
    refine lv_goto (tgt := 24) hx hb dX9_beside_11 (by decide) ?_
    exact J24 _ _ _ _ _ _ h hW hS (hl)
noncomputable def jX9_skin_107 (p1 : Int32) (k13 : Int32 → Int32 → Wd → Option (Int32 × Wd)) (k50 : Int32 → Int32 → Int32 → Int32 → Wd → Option (Int32 × Wd)) (v3 : Int32) (v4 : Int32) (v5 : Int32) (s0 : Int32) (s1 : Int32)  (w : Wd) : Option (Int32 × Wd) :=
  k50 (s1 + s0) v3 v4 (v5 + (1 : Int32)) w
noncomputable def jX9_skin_88 (p1 : Int32) (k13 : Int32 → Int32 → Wd → Option (Int32 × Wd)) (k50 : Int32 → Int32 → Int32 → Int32 → Wd → Option (Int32 × Wd)) (v2 : Int32) (v3 : Int32) (v4 : Int32) (v5 : Int32) (s0 : Int32)  (w : Wd) : Option (Int32 × Wd) :=
  if v4 ≤ s0 then jX9_skin_107 p1 k13 k50 v3 v4 v5 (0 : Int32) v2 w else jX9_skin_107 p1 k13 k50 v3 v4 v5 (v4 - s0) v2 w
noncomputable def bX9_skin_50 (p1 : Int32) (k13 : Int32 → Int32 → Wd → Option (Int32 × Wd)) (k50 : Int32 → Int32 → Int32 → Int32 → Wd → Option (Int32 × Wd)) (v2 : Int32) (v3 : Int32) (v4 : Int32) (v5 : Int32)  (w : Wd) : Option (Int32 × Wd) :=
  if (4 : Int32) ≤ v5 then k13 v2 (v3 + (1 : Int32)) w else bnd (fX9_beside v3 v5 w) fun x6 w7 => if x6 = (-9 : Int32) then jX9_skin_88 p1 k13 k50 v2 v3 v4 v5 (0 : Int32) w7 else (gI w7 100 (((25 : Int32) * p1) + x6)).bind fun x8 => jX9_skin_88 p1 k13 k50 v2 v3 v4 v5 x8 w7
noncomputable def jX9_skin_45 (p1 : Int32) (k13 : Int32 → Int32 → Wd → Option (Int32 × Wd)) (v3 : Int32) (v4 : Int32) (s0 : Int32) (s1 : Int32)  (w : Wd) : Option (Int32 × Wd) :=
  lp (fun _ _ _ _ _ => none) (bX9_skin_50 p1 k13) G (s1 + s0) v3 v4 (0 : Int32) w
noncomputable def bX9_skin_13 (p1 : Int32) (k13 : Int32 → Int32 → Wd → Option (Int32 × Wd)) (v2 : Int32) (v3 : Int32)  (w : Wd) : Option (Int32 × Wd) :=
  bnd (fX9_cells w) fun x3 w4 => if x3 ≤ v3 then some (v2, w4) else (gI w4 100 (((25 : Int32) * p1) + v3)).bind fun x5 => if x5 ≤ 0 then jX9_skin_45 p1 k13 v3 x5 (0 : Int32) v2 w4 else jX9_skin_45 p1 k13 v3 x5 (1 : Int32) v2 w4
noncomputable def fX9_skin (p1 : Int32) (w : Wd) : Option (Int32 × Wd) :=
  bnd (fX9_isSlot p1 w) fun x1 w2 => if x1 = 0 then some ((-1 : Int32), w2) else lp (fun _ _ _ => none) (bX9_skin_13 p1) G (0 : Int32) (0 : Int32) w2
abbrev rmX9_skin : Room := { frames := 2, cells := 0, slots := 0, locals := 49 }
set_option maxHeartbeats 4000000 in
set_option maxRecDepth 100000 in
theorem kX9_skin (l : Launch) (E : Ev) (p1 : Int32) (w : Wd) (q : Int32 × Wd) (h : fX9_skin p1 w = some q) : CtI l yX9_skin wsX9_skin rmX9_skin E full [.ref (E.2.1 99), .int p1] w q := by
  refine mkI (cc := cX9_skin) (maxL := 8) (by decide) rfl (Nat.le_of_ble_eq_true rfl) ?_
  intro p e s m args below meth c Q S hW hQ ls hl
  obtain ⟨hx, hb, hml, hown, hts⟩ := id S
  have hW0 := hW
  have hS : va_S (wA E full) s.heap s.heap [] := va_S.rf
  have hl : lv_has ls 8 [(0, .ref (E.2.1 99)), (1, .int p1)] := hl
  have iX9 : ∀ w ∈ wsX90, w ∈ wsX9_skin := by decide +kernel
  have e7 := hts (.fieldLink RX9 7 "CubeHeapsModel" "heap" "[I") (by decide +kernel)
  have J13 : ∀ (n : Nat) (v2 : Int32) (v3 : Int32) (w : Wd) (H : Heap) (locs : List Loc) (ls : Array Slot), lp (fun _ _ _ => none) (bX9_skin_13 p1) n v2 v3 w = some q → World E full w s H → va_S (wA E full) s.heap H locs → lv_has ls 8 [(0, .ref (E.2.1 99)), (1, .int p1), (2, .int v2), (3, .int v3)] → W p l e rmX9_skin s m args below meth c H locs 0 0 Q (F0 m 13 ls []) := by
    intro n
    induction n with
    | zero =>
      intro v2 v3 w H locs ls h hW hS hl
      exact absurd (show (none : Option (Int32 × Wd)) = some q from h) (fun z => by cases z)
    | succ n ih13 =>
      intro v2 v3 w H locs ls h hW hS hl
      have h : bX9_skin_13 p1 (lp (fun _ _ _ => none) (bX9_skin_13 p1) n) v2 v3 w = some q := h
      generalize lp (fun _ _ _ => none) (bX9_skin_13 p1) n = k13 at h ih13
      have J50 : ∀ (n : Nat) (v2 : Int32) (v3 : Int32) (v4 : Int32) (v5 : Int32) (w : Wd) (H : Heap) (locs : List Loc) (ls : Array Slot), lp (fun _ _ _ _ _ => none) (bX9_skin_50 p1 k13) n v2 v3 v4 v5 w = some q → World E full w s H → va_S (wA E full) s.heap H locs → lv_has ls 8 [(0, .ref (E.2.1 99)), (1, .int p1), (2, .int v2), (3, .int v3), (4, .int v4), (5, .int v5)] → W p l e rmX9_skin s m args below meth c H locs 0 0 Q (F0 m 50 ls []) := by
        intro n
        induction n with
        | zero =>
          intro v2 v3 v4 v5 w H locs ls h hW hS hl
          exact absurd (show (none : Option (Int32 × Wd)) = some q from h) (fun z => by cases z)
        | succ n ih50 =>
          intro v2 v3 v4 v5 w H locs ls h hW hS hl
          have h : bX9_skin_50 p1 k13 (lp (fun _ _ _ _ _ => none) (bX9_skin_50 p1 k13) n) v2 v3 v4 v5 w = some q := h
          generalize lp (fun _ _ _ _ _ => none) (bX9_skin_50 p1 k13) n = k50 at h ih50
          have J107 : ∀ (v3 : Int32) (v4 : Int32) (v5 : Int32) (s0 : Int32) (s1 : Int32) (w : Wd) (H : Heap) (locs : List Loc) (ls : Array Slot), jX9_skin_107 p1 k13 k50 v3 v4 v5 s0 s1 w = some q → World E full w s H → va_S (wA E full) s.heap H locs → lv_has ls 8 [(0, .ref (E.2.1 99)), (1, .int p1), (3, .int v3), (4, .int v4), (5, .int v5)] → W p l e rmX9_skin s m args below meth c H locs 0 0 Q (F0 m 107 ls [.int s0, .int s1]) := by
            intro v3 v4 v5 s0 s1 w H locs ls h hW hS hl
            unfold jX9_skin_107 at h
            refine lv_iadd hx hb dX9_skin_107 ?_
            refine lv_istore_n (lv' := [(2, .int (s1 + s0)), (0, .ref (E.2.1 99)), (1, .int p1), (3, .int v3), (4, .int v4), (5, .int v5)]) hx hb dX9_skin_108 rfl hl (by decide) rfl (fun ls hl => ?_)
            refine lv_iinc (v := (v5 + (1 : Int32))) (lv' := [(5, .int (v5 + (1 : Int32))), (2, .int (s1 + s0)), (0, .ref (E.2.1 99)), (1, .int p1), (3, .int v3), (4, .int v4)]) hx hb dX9_skin_109 hl (k := 5) rfl rfl (by decide) rfl (fun ls hl => ?_)
            refine lv_goto (tgt := 50) hx hb dX9_skin_112 (by decide) ?_
            exact ih50 _ _ _ _ _ _ _ _ h hW hS (lv_sub hl [2, 3, 1, 4, 5, 0] rfl)
          have J88 : ∀ (v2 : Int32) (v3 : Int32) (v4 : Int32) (v5 : Int32) (s0 : Int32) (w : Wd) (H : Heap) (locs : List Loc) (ls : Array Slot), jX9_skin_88 p1 k13 k50 v2 v3 v4 v5 s0 w = some q → World E full w s H → va_S (wA E full) s.heap H locs → lv_has ls 8 [(0, .ref (E.2.1 99)), (1, .int p1), (2, .int v2), (3, .int v3), (4, .int v4), (5, .int v5)] → W p l e rmX9_skin s m args below meth c H locs 0 0 Q (F0 m 88 ls [.int s0]) := by
            intro v2 v3 v4 v5 s0 w H locs ls h hW hS hl
            unfold jX9_skin_88 at h
            refine lv_istore (lv' := [(7, .int s0), (0, .ref (E.2.1 99)), (1, .int p1), (2, .int v2), (3, .int v3), (4, .int v4), (5, .int v5)]) hx hb dX9_skin_88 hl (by decide) rfl (fun ls hl => ?_)
            refine lv_iload_n hx hb dX9_skin_90 rfl (lv_at hl 3 rfl) ?_
            refine lv_iload hx hb dX9_skin_91 (lv_at hl 5 rfl) ?_
            refine lv_iload hx hb dX9_skin_93 (lv_at hl 0 rfl) ?_
            refine rb_icmp_le (tgt := 106) hx hb h dX9_skin_95 (by decide) (fun h => ?_) (fun h => ?_)
            · refine lv_iconst (v := (0 : Int32)) hx hb dX9_skin_106 (by decide) ?_
              exact J107 _ _ _ _ _ _ _ _ _ h hW hS (lv_sub hl [1, 2, 4, 5, 6] rfl)
            · refine lv_iload hx hb dX9_skin_98 (lv_at hl 5 rfl) ?_
              refine lv_iload hx hb dX9_skin_100 (lv_at hl 0 rfl) ?_
              refine lv_isub hx hb dX9_skin_102 ?_
              refine lv_goto (tgt := 107) hx hb dX9_skin_103 (by decide) ?_
              exact J107 _ _ _ _ _ _ _ _ _ h hW hS (lv_sub hl [1, 2, 4, 5, 6] rfl)
          unfold bX9_skin_50 at h
          refine lv_iload hx hb dX9_skin_50 (lv_at hl 5 rfl) ?_
          refine lv_iconst (v := (4 : Int32)) hx hb dX9_skin_52 (by decide) ?_
          refine rb_icmp_ge (tgt := 115) hx hb h dX9_skin_53 (by decide) (fun h => ?_) (fun h => ?_)
          · refine lv_iinc (v := (v3 + (1 : Int32))) (lv' := [(3, .int (v3 + (1 : Int32))), (0, .ref (E.2.1 99)), (1, .int p1), (2, .int v2), (4, .int v4), (5, .int v5)]) hx hb dX9_skin_115 hl (k := 3) rfl rfl (by decide) rfl (fun ls hl => ?_)
            refine lv_goto (tgt := 13) hx hb dX9_skin_118 (by decide) ?_
            exact ih13 _ _ _ _ _ _ h hW hS (lv_sub hl [1, 2, 3, 0] rfl)
          · refine lv_aload_n hx hb dX9_skin_56 rfl (lv_at hl 0 rfl) ?_
            refine lv_iload_n hx hb dX9_skin_57 rfl (lv_at hl 3 rfl) ?_
            refine lv_iload hx hb dX9_skin_58 (lv_at hl 5 rfl) ?_
            refine rc_Vi (k := 99) (As := [.int v3, .int v5]) (rest := []) S hW hS h (kX9_beside l E v3 v5 w) (cwV 2 hts gX9_skin_X9_beside rfl rfl rfl hdX9_beside ⟨Nat.le_of_ble_eq_true rfl, Nat.le_of_ble_eq_true rfl⟩) (fl 99 rfl) rfl rfl rfl rfl hl.1 rfl (Nat.le_of_ble_eq_true rfl) ⟨Nat.zero_le _, Nat.zero_le _⟩ dX9_skin_60 (fun x6 w7 H locs h hW hS => ?_)
            refine lv_istore (lv' := [(6, .int x6), (0, .ref (E.2.1 99)), (1, .int p1), (2, .int v2), (3, .int v3), (4, .int v4), (5, .int v5)]) hx hb dX9_skin_63 hl (by decide) rfl (fun ls hl => ?_)
            refine lv_iload hx hb dX9_skin_65 (lv_at hl 0 rfl) ?_
            refine lv_bipush (v := (-9 : Int32)) hx hb dX9_skin_67 (by decide) ?_
            refine rb_icmp_ne (tgt := 76) hx hb h dX9_skin_69 (by decide) (fun h => ?_) (fun h => ?_)
            · refine lv_aload_n hx hb dX9_skin_76 rfl (lv_at hl 1 rfl) ?_
              refine rw_get hx hb hts iX9 hown hW (fl 99 rfl) rfl rfl 2 (by decide) e7 rfl (v := .ref (E.2.1 100)) rfl dX9_skin_77 ?_
              refine lv_bipush (v := (25 : Int32)) hx hb dX9_skin_80 (by decide) ?_
              refine lv_iload_n hx hb dX9_skin_82 rfl (lv_at hl 2 rfl) ?_
              refine lv_imul hx hb dX9_skin_83 ?_
              refine lv_iload hx hb dX9_skin_84 (lv_at hl 0 rfl) ?_
              refine lv_iadd hx hb dX9_skin_86 ?_
              refine rw_iald hx hb hW (fun _ => (fl 100 rfl)) h dX9_skin_87 (fun x8 h => ?_)
              exact J88 _ _ _ _ _ _ _ _ _ h hW hS (lv_sub hl [1, 2, 3, 4, 5, 6] rfl)
            · refine lv_iconst (v := (0 : Int32)) hx hb dX9_skin_72 (by decide) ?_
              refine lv_goto (tgt := 88) hx hb dX9_skin_73 (by decide) ?_
              exact J88 _ _ _ _ _ _ _ _ _ h hW hS (lv_sub hl [1, 2, 3, 4, 5, 6] rfl)
      have J45 : ∀ (v3 : Int32) (v4 : Int32) (s0 : Int32) (s1 : Int32) (w : Wd) (H : Heap) (locs : List Loc) (ls : Array Slot), jX9_skin_45 p1 k13 v3 v4 s0 s1 w = some q → World E full w s H → va_S (wA E full) s.heap H locs → lv_has ls 8 [(0, .ref (E.2.1 99)), (1, .int p1), (3, .int v3), (4, .int v4)] → W p l e rmX9_skin s m args below meth c H locs 0 0 Q (F0 m 45 ls [.int s0, .int s1]) := by
        intro v3 v4 s0 s1 w H locs ls h hW hS hl
        unfold jX9_skin_45 at h
        refine lv_iadd hx hb dX9_skin_45 ?_
        refine lv_istore_n (lv' := [(2, .int (s1 + s0)), (0, .ref (E.2.1 99)), (1, .int p1), (3, .int v3), (4, .int v4)]) hx hb dX9_skin_46 rfl hl (by decide) rfl (fun ls hl => ?_)
        refine lv_iconst (v := (0 : Int32)) hx hb dX9_skin_47 (by decide) ?_
        refine lv_istore (lv' := [(5, .int (0 : Int32)), (2, .int (s1 + s0)), (0, .ref (E.2.1 99)), (1, .int p1), (3, .int v3), (4, .int v4)]) hx hb dX9_skin_48 hl (by decide) rfl (fun ls hl => ?_)
        exact J50 _ _ _ _ _ _ _ _ _ h hW hS (lv_sub hl [2, 3, 1, 4, 5, 0] rfl)
      unfold bX9_skin_13 at h
      refine lv_iload_n hx hb dX9_skin_13 rfl (lv_at hl 3 rfl) ?_
      refine lv_aload_n hx hb dX9_skin_14 rfl (lv_at hl 0 rfl) ?_
      refine rc_Vi (k := 99) (As := []) (rest := [.int v3]) S hW hS h (kX9_cells l E  w) (cwV 0 hts gX9_skin_X9_cells rfl rfl rfl hdX9_cells ⟨Nat.le_of_ble_eq_true rfl, Nat.le_of_ble_eq_true rfl⟩) (fl 99 rfl) rfl rfl rfl rfl hl.1 rfl (Nat.le_of_ble_eq_true rfl) ⟨Nat.zero_le _, Nat.zero_le _⟩ dX9_skin_15 (fun x3 w4 H locs h hW hS => ?_)
      refine rb_icmp_ge (tgt := 121) hx hb h dX9_skin_18 (by decide) (fun h => ?_) (fun h => ?_)
      · refine lv_iload_n hx hb dX9_skin_121 rfl (lv_at hl 2 rfl) ?_
        exact rrI hQ hW hS h dX9_skin_122
      · refine lv_aload_n hx hb dX9_skin_21 rfl (lv_at hl 0 rfl) ?_
        refine rw_get hx hb hts iX9 hown hW (fl 99 rfl) rfl rfl 2 (by decide) e7 rfl (v := .ref (E.2.1 100)) rfl dX9_skin_22 ?_
        refine lv_bipush (v := (25 : Int32)) hx hb dX9_skin_25 (by decide) ?_
        refine lv_iload_n hx hb dX9_skin_27 rfl (lv_at hl 1 rfl) ?_
        refine lv_imul hx hb dX9_skin_28 ?_
        refine lv_iload_n hx hb dX9_skin_29 rfl (lv_at hl 3 rfl) ?_
        refine lv_iadd hx hb dX9_skin_30 ?_
        refine rw_iald hx hb hW (fun _ => (fl 100 rfl)) h dX9_skin_31 (fun x5 h => ?_)
        refine lv_istore (lv' := [(4, .int x5), (0, .ref (E.2.1 99)), (1, .int p1), (2, .int v2), (3, .int v3)]) hx hb dX9_skin_32 hl (by decide) rfl (fun ls hl => ?_)
        refine lv_iload_n hx hb dX9_skin_34 rfl (lv_at hl 3 rfl) ?_
        refine lv_iload hx hb dX9_skin_35 (lv_at hl 0 rfl) ?_
        refine rb_if_le (tgt := 44) hx hb h dX9_skin_37 (by decide) (fun h => ?_) (fun h => ?_)
        · refine lv_iconst (v := (0 : Int32)) hx hb dX9_skin_44 (by decide) ?_
          exact J45 _ _ _ _ _ _ _ _ h hW hS (lv_sub hl [1, 2, 4, 0] rfl)
        · refine lv_iconst (v := (1 : Int32)) hx hb dX9_skin_40 (by decide) ?_
          refine lv_goto (tgt := 45) hx hb dX9_skin_41 (by decide) ?_
          exact J45 _ _ _ _ _ _ _ _ h hW hS (lv_sub hl [1, 2, 4, 0] rfl)
  unfold fX9_skin at h
  refine lv_iload_n hx hb dX9_skin_0 rfl (lv_at hl 1 rfl) ?_
  refine rc_Si (As := [.int p1]) (rest := []) S hW hS h (kX9_isSlot l E p1 w) (va_cwS 1 hts gX9_skin_X9_isSlot rfl rfl rfl hdX9_isSlot ⟨Nat.le_of_ble_eq_true rfl, Nat.le_of_ble_eq_true rfl⟩) rfl hl.1 rfl (Nat.le_of_ble_eq_true rfl) ⟨Nat.zero_le _, Nat.zero_le _⟩ dX9_skin_1 (fun x1 w2 H locs h hW hS => ?_)
  refine rb_if_ne (tgt := 9) hx hb h dX9_skin_4 (by decide) (fun h => ?_) (fun h => ?_)
  · refine lv_iconst (v := (0 : Int32)) hx hb dX9_skin_9 (by decide) ?_
    refine lv_istore_n (lv' := [(2, .int (0 : Int32)), (0, .ref (E.2.1 99)), (1, .int p1)]) hx hb dX9_skin_10 rfl hl (by decide) rfl (fun ls hl => ?_)
    refine lv_iconst (v := (0 : Int32)) hx hb dX9_skin_11 (by decide) ?_
    refine lv_istore_n (lv' := [(3, .int (0 : Int32)), (2, .int (0 : Int32)), (0, .ref (E.2.1 99)), (1, .int p1)]) hx hb dX9_skin_12 rfl hl (by decide) rfl (fun ls hl => ?_)
    exact J13 _ _ _ _ _ _ _ h hW hS (lv_sub hl [2, 3, 1, 0] rfl)
  · refine lv_iconst (v := (-1 : Int32)) hx hb dX9_skin_7 (by decide) ?_
    exact rrI hQ hW hS h dX9_skin_8
noncomputable def jX9_layParts_36 (p1 : Int32) (p2 : Int32) (k2 : Int32 → Wd → Option (Unit × Wd)) (v3 : Int32) (s0 : Int32) (s1 : Int32)  (w : Wd) : Option (Unit × Wd) :=
  (sI w 106 s1 s0).bind fun w4 => k2 (v3 + (1 : Int32)) w4
noncomputable def jX9_layParts_149 (p1 : Int32) (p2 : Int32) (k45 : Int32 → Wd → Option (Unit × Wd)) (k54 : Int32 → Int32 → Wd → Option (Unit × Wd)) (v3 : Int32) (v4 : Int32)  (w : Wd) : Option (Unit × Wd) :=
  k54 v3 (v4 + (1 : Int32)) w
noncomputable def bX9_layParts_54 (p1 : Int32) (p2 : Int32) (k45 : Int32 → Wd → Option (Unit × Wd)) (k54 : Int32 → Int32 → Wd → Option (Unit × Wd)) (v3 : Int32) (v4 : Int32)  (w : Wd) : Option (Unit × Wd) :=
  bnd (fX9_cells w) fun x5 w6 => if ((4 : Int32) * x5) ≤ v4 then k45 v3 w6 else (dvI v4 (4 : Int32)).bind fun x7 => (rmI v4 (4 : Int32)).bind fun x8 => bnd (fX9_beside x7 x8 w6) fun x9 w10 => if x9 = (-9 : Int32) then jX9_layParts_149 p1 p2 k45 k54 v3 v4 w10 else (dvI v4 (4 : Int32)).bind fun x11 => (gI w10 106 x11).bind fun x12 => if x12 = (-9 : Int32) then jX9_layParts_149 p1 p2 k45 k54 v3 v4 w10 else (gI w10 106 x9).bind fun x13 => if x13 = (-9 : Int32) then jX9_layParts_149 p1 p2 k45 k54 v3 v4 w10 else (gI w10 106 x9).bind fun x14 => (dvI v4 (4 : Int32)).bind fun x15 => (gI w10 106 x15).bind fun x16 => if x16 ≤ x14 then jX9_layParts_149 p1 p2 k45 k54 v3 v4 w10 else (dvI v4 (4 : Int32)).bind fun x17 => (gI w10 106 x9).bind fun x18 => (sI w10 106 x17 x18).bind fun w19 => jX9_layParts_149 p1 p2 k45 k54 (1 : Int32) v4 w19
noncomputable def bX9_layParts_45 (p1 : Int32) (p2 : Int32) (k45 : Int32 → Wd → Option (Unit × Wd)) (v3 : Int32)  (w : Wd) : Option (Unit × Wd) :=
  if v3 = 0 then some ((), w) else lp (fun _ _ _ => none) (bX9_layParts_54 p1 p2 k45) G (0 : Int32) (0 : Int32) w
noncomputable def bX9_layParts_2 (p1 : Int32) (p2 : Int32) (k2 : Int32 → Wd → Option (Unit × Wd)) (v3 : Int32)  (w : Wd) : Option (Unit × Wd) :=
  bnd (fX9_cells w) fun x1 w2 => if x1 ≤ v3 then lp (fun _ _ => none) (bX9_layParts_45 p1 p2) G (1 : Int32) w2 else (gI w2 100 (((25 : Int32) * p1) + v3)).bind fun x3 => if x3 < p2 then jX9_layParts_36 p1 p2 k2 v3 (-9 : Int32) v3 w2 else jX9_layParts_36 p1 p2 k2 v3 v3 v3 w2
noncomputable def fX9_layParts (p1 : Int32) (p2 : Int32) (w : Wd) : Option (Unit × Wd) :=
  lp (fun _ _ => none) (bX9_layParts_2 p1 p2) G (0 : Int32) w
abbrev rmX9_layParts : Room := { frames := 2, cells := 0, slots := 0, locals := 49 }
set_option maxHeartbeats 4000000 in
set_option maxRecDepth 100000 in
theorem kX9_layParts (l : Launch) (E : Ev) (p1 : Int32) (p2 : Int32) (w : Wd) (q : Unit × Wd) (h : fX9_layParts p1 p2 w = some q) : CtV l yX9_layParts wsX9_layParts rmX9_layParts E full [.ref (E.2.1 99), .int p1, .int p2] w q := by
  refine mkV (cc := cX9_layParts) (maxL := 6) (by decide) rfl (Nat.le_of_ble_eq_true rfl) ?_
  intro p e s m args below meth c Q S hW hQ ls hl
  obtain ⟨hx, hb, hml, hown, hts⟩ := id S
  have hW0 := hW
  have hS : va_S (wA E full) s.heap s.heap [] := va_S.rf
  have hl : lv_has ls 6 [(0, .ref (E.2.1 99)), (1, .int p1), (2, .int p2)] := hl
  have iX9 : ∀ w ∈ wsX90, w ∈ wsX9_layParts := by decide +kernel
  have e7 := hts (.fieldLink RX9 7 "CubeHeapsModel" "heap" "[I") (by decide +kernel)
  have e28 := hts (.fieldLink RX9 28 "CubeHeapsModel" "mark" "[I") (by decide +kernel)
  have J45 : ∀ (n : Nat) (v3 : Int32) (w : Wd) (H : Heap) (locs : List Loc) (ls : Array Slot), lp (fun _ _ => none) (bX9_layParts_45 p1 p2) n v3 w = some q → World E full w s H → va_S (wA E full) s.heap H locs → lv_has ls 6 [(0, .ref (E.2.1 99)), (3, .int v3)] → W p l e rmX9_layParts s m args below meth c H locs 0 0 Q (F0 m 45 ls []) := by
    intro n
    induction n with
    | zero =>
      intro v3 w H locs ls h hW hS hl
      exact absurd (show (none : Option (Unit × Wd)) = some q from h) (fun z => by cases z)
    | succ n ih45 =>
      intro v3 w H locs ls h hW hS hl
      have h : bX9_layParts_45 p1 p2 (lp (fun _ _ => none) (bX9_layParts_45 p1 p2) n) v3 w = some q := h
      generalize lp (fun _ _ => none) (bX9_layParts_45 p1 p2) n = k45 at h ih45
      have J54 : ∀ (n : Nat) (v3 : Int32) (v4 : Int32) (w : Wd) (H : Heap) (locs : List Loc) (ls : Array Slot), lp (fun _ _ _ => none) (bX9_layParts_54 p1 p2 k45) n v3 v4 w = some q → World E full w s H → va_S (wA E full) s.heap H locs → lv_has ls 6 [(0, .ref (E.2.1 99)), (3, .int v3), (4, .int v4)] → W p l e rmX9_layParts s m args below meth c H locs 0 0 Q (F0 m 54 ls []) := by
        intro n
        induction n with
        | zero =>
          intro v3 v4 w H locs ls h hW hS hl
          exact absurd (show (none : Option (Unit × Wd)) = some q from h) (fun z => by cases z)
        | succ n ih54 =>
          intro v3 v4 w H locs ls h hW hS hl
          have h : bX9_layParts_54 p1 p2 k45 (lp (fun _ _ _ => none) (bX9_layParts_54 p1 p2 k45) n) v3 v4 w = some q := h
          generalize lp (fun _ _ _ => none) (bX9_layParts_54 p1 p2 k45) n = k54 at h ih54
          have J149 : ∀ (v3 : Int32) (v4 : Int32) (w : Wd) (H : Heap) (locs : List Loc) (ls : Array Slot), jX9_layParts_149 p1 p2 k45 k54 v3 v4 w = some q → World E full w s H → va_S (wA E full) s.heap H locs → lv_has ls 6 [(0, .ref (E.2.1 99)), (3, .int v3), (4, .int v4)] → W p l e rmX9_layParts s m args below meth c H locs 0 0 Q (F0 m 149 ls []) := by
            intro v3 v4 w H locs ls h hW hS hl
            unfold jX9_layParts_149 at h
            refine lv_iinc (v := (v4 + (1 : Int32))) (lv' := [(4, .int (v4 + (1 : Int32))), (0, .ref (E.2.1 99)), (3, .int v3)]) hx hb dX9_layParts_149 hl (k := 2) rfl rfl (by decide) rfl (fun ls hl => ?_)
            refine lv_goto (tgt := 54) hx hb dX9_layParts_152 (by decide) ?_
            exact ih54 _ _ _ _ _ _ h hW hS (lv_sub hl [1, 2, 0] rfl)
          unfold bX9_layParts_54 at h
          refine lv_iload hx hb dX9_layParts_54 (lv_at hl 2 rfl) ?_
          refine lv_iconst (v := (4 : Int32)) hx hb dX9_layParts_56 (by decide) ?_
          refine lv_aload_n hx hb dX9_layParts_57 rfl (lv_at hl 0 rfl) ?_
          refine rc_Vi (k := 99) (As := []) (rest := [.int (4 : Int32), .int v4]) S hW hS h (kX9_cells l E  w) (cwV 0 hts gX9_layParts_X9_cells rfl rfl rfl hdX9_cells ⟨Nat.le_of_ble_eq_true rfl, Nat.le_of_ble_eq_true rfl⟩) (fl 99 rfl) rfl rfl rfl rfl hl.1 rfl (Nat.le_of_ble_eq_true rfl) ⟨Nat.zero_le _, Nat.zero_le _⟩ dX9_layParts_58 (fun x5 w6 H locs h hW hS => ?_)
          refine lv_imul hx hb dX9_layParts_61 ?_
          refine rb_icmp_ge (tgt := 155) hx hb h dX9_layParts_62 (by decide) (fun h => ?_) (fun h => ?_)
          · refine lv_goto (tgt := 45) hx hb dX9_layParts_155 (by decide) ?_
            exact ih45 _ _ _ _ _ h hW hS (lv_sub hl [0, 1] rfl)
          · refine lv_aload_n hx hb dX9_layParts_65 rfl (lv_at hl 0 rfl) ?_
            refine lv_iload hx hb dX9_layParts_66 (lv_at hl 2 rfl) ?_
            refine lv_iconst (v := (4 : Int32)) hx hb dX9_layParts_68 (by decide) ?_
            refine rb_div hx hb h dX9_layParts_69 (fun x7 h => ?_)
            refine lv_iload hx hb dX9_layParts_70 (lv_at hl 2 rfl) ?_
            refine lv_iconst (v := (4 : Int32)) hx hb dX9_layParts_72 (by decide) ?_
            refine rb_rem hx hb h dX9_layParts_73 (fun x8 h => ?_)
            refine rc_Vi (k := 99) (As := [.int x7, .int x8]) (rest := []) S hW hS h (kX9_beside l E x7 x8 w6) (cwV 2 hts gX9_layParts_X9_beside rfl rfl rfl hdX9_beside ⟨Nat.le_of_ble_eq_true rfl, Nat.le_of_ble_eq_true rfl⟩) (fl 99 rfl) rfl rfl rfl rfl hl.1 rfl (Nat.le_of_ble_eq_true rfl) ⟨Nat.zero_le _, Nat.zero_le _⟩ dX9_layParts_74 (fun x9 w10 H locs h hW hS => ?_)
            refine lv_istore (lv' := [(5, .int x9), (0, .ref (E.2.1 99)), (3, .int v3), (4, .int v4)]) hx hb dX9_layParts_77 hl (by decide) rfl (fun ls hl => ?_)
            refine lv_iload hx hb dX9_layParts_79 (lv_at hl 0 rfl) ?_
            refine lv_bipush (v := (-9 : Int32)) hx hb dX9_layParts_81 (by decide) ?_
            refine rb_icmp_eq (tgt := 149) hx hb h dX9_layParts_83 (by decide) (fun h => ?_) (fun h => ?_)
            · exact J149 _ _ _ _ _ _ h hW hS (lv_sub hl [1, 2, 3] rfl)
            · refine lv_aload_n hx hb dX9_layParts_86 rfl (lv_at hl 1 rfl) ?_
              refine rw_get hx hb hts iX9 hown hW (fl 99 rfl) rfl rfl 8 (by decide) e28 rfl (v := .ref (E.2.1 106)) rfl dX9_layParts_87 ?_
              refine lv_iload hx hb dX9_layParts_90 (lv_at hl 3 rfl) ?_
              refine lv_iconst (v := (4 : Int32)) hx hb dX9_layParts_92 (by decide) ?_
              refine rb_div hx hb h dX9_layParts_93 (fun x11 h => ?_)
              refine rw_iald hx hb hW (fun _ => (fl 106 rfl)) h dX9_layParts_94 (fun x12 h => ?_)
              refine lv_bipush (v := (-9 : Int32)) hx hb dX9_layParts_95 (by decide) ?_
              refine rb_icmp_eq (tgt := 149) hx hb h dX9_layParts_97 (by decide) (fun h => ?_) (fun h => ?_)
              · exact J149 _ _ _ _ _ _ h hW hS (lv_sub hl [1, 2, 3] rfl)
              · refine lv_aload_n hx hb dX9_layParts_100 rfl (lv_at hl 1 rfl) ?_
                refine rw_get hx hb hts iX9 hown hW (fl 99 rfl) rfl rfl 8 (by decide) e28 rfl (v := .ref (E.2.1 106)) rfl dX9_layParts_101 ?_
                refine lv_iload hx hb dX9_layParts_104 (lv_at hl 0 rfl) ?_
                refine rw_iald hx hb hW (fun _ => (fl 106 rfl)) h dX9_layParts_106 (fun x13 h => ?_)
                refine lv_bipush (v := (-9 : Int32)) hx hb dX9_layParts_107 (by decide) ?_
                refine rb_icmp_eq (tgt := 149) hx hb h dX9_layParts_109 (by decide) (fun h => ?_) (fun h => ?_)
                · exact J149 _ _ _ _ _ _ h hW hS (lv_sub hl [1, 2, 3] rfl)
                · refine lv_aload_n hx hb dX9_layParts_112 rfl (lv_at hl 1 rfl) ?_
                  refine rw_get hx hb hts iX9 hown hW (fl 99 rfl) rfl rfl 8 (by decide) e28 rfl (v := .ref (E.2.1 106)) rfl dX9_layParts_113 ?_
                  refine lv_iload hx hb dX9_layParts_116 (lv_at hl 0 rfl) ?_
                  refine rw_iald hx hb hW (fun _ => (fl 106 rfl)) h dX9_layParts_118 (fun x14 h => ?_)
                  refine lv_aload_n hx hb dX9_layParts_119 rfl (lv_at hl 1 rfl) ?_
                  refine rw_get hx hb hts iX9 hown hW (fl 99 rfl) rfl rfl 8 (by decide) e28 rfl (v := .ref (E.2.1 106)) rfl dX9_layParts_120 ?_
                  refine lv_iload hx hb dX9_layParts_123 (lv_at hl 3 rfl) ?_
                  refine lv_iconst (v := (4 : Int32)) hx hb dX9_layParts_125 (by decide) ?_
                  refine rb_div hx hb h dX9_layParts_126 (fun x15 h => ?_)
                  refine rw_iald hx hb hW (fun _ => (fl 106 rfl)) h dX9_layParts_127 (fun x16 h => ?_)
                  refine rb_icmp_ge (tgt := 149) hx hb h dX9_layParts_128 (by decide) (fun h => ?_) (fun h => ?_)
                  · exact J149 _ _ _ _ _ _ h hW hS (lv_sub hl [1, 2, 3] rfl)
                  · refine lv_aload_n hx hb dX9_layParts_131 rfl (lv_at hl 1 rfl) ?_
                    refine rw_get hx hb hts iX9 hown hW (fl 99 rfl) rfl rfl 8 (by decide) e28 rfl (v := .ref (E.2.1 106)) rfl dX9_layParts_132 ?_
                    refine lv_iload hx hb dX9_layParts_135 (lv_at hl 3 rfl) ?_
                    refine lv_iconst (v := (4 : Int32)) hx hb dX9_layParts_137 (by decide) ?_
                    refine rb_div hx hb h dX9_layParts_138 (fun x17 h => ?_)
                    refine lv_aload_n hx hb dX9_layParts_139 rfl (lv_at hl 1 rfl) ?_
                    refine rw_get hx hb hts iX9 hown hW (fl 99 rfl) rfl rfl 8 (by decide) e28 rfl (v := .ref (E.2.1 106)) rfl dX9_layParts_140 ?_
                    refine lv_iload hx hb dX9_layParts_143 (lv_at hl 0 rfl) ?_
                    refine rw_iald hx hb hW (fun _ => (fl 106 rfl)) h dX9_layParts_145 (fun x18 h => ?_)
                    refine rw_iast hx hb hW hS (fun _ => (fl 106 rfl)) h dX9_layParts_146 (fun w19 H locs h hW hS => ?_)
                    refine lv_iconst (v := (1 : Int32)) hx hb dX9_layParts_147 (by decide) ?_
                    refine lv_istore_n (lv' := [(3, .int (1 : Int32)), (5, .int x9), (0, .ref (E.2.1 99)), (4, .int v4)]) hx hb dX9_layParts_148 rfl hl (by decide) rfl (fun ls hl => ?_)
                    exact J149 _ _ _ _ _ _ h hW hS (lv_sub hl [2, 0, 3] rfl)
      unfold bX9_layParts_45 at h
      refine lv_iload_n hx hb dX9_layParts_45 rfl (lv_at hl 1 rfl) ?_
      refine rb_if_eq (tgt := 158) hx hb h dX9_layParts_46 (by decide) (fun h => ?_) (fun h => ?_)
      · exact rrV hQ hW hS h dX9_layParts_158
      · refine lv_iconst (v := (0 : Int32)) hx hb dX9_layParts_49 (by decide) ?_
        refine lv_istore_n (lv' := [(3, .int (0 : Int32)), (0, .ref (E.2.1 99))]) hx hb dX9_layParts_50 rfl hl (by decide) rfl (fun ls hl => ?_)
        refine lv_iconst (v := (0 : Int32)) hx hb dX9_layParts_51 (by decide) ?_
        refine lv_istore (lv' := [(4, .int (0 : Int32)), (3, .int (0 : Int32)), (0, .ref (E.2.1 99))]) hx hb dX9_layParts_52 hl (by decide) rfl (fun ls hl => ?_)
        exact J54 _ _ _ _ _ _ _ h hW hS (lv_sub hl [2, 1, 0] rfl)
  have J2 : ∀ (n : Nat) (v3 : Int32) (w : Wd) (H : Heap) (locs : List Loc) (ls : Array Slot), lp (fun _ _ => none) (bX9_layParts_2 p1 p2) n v3 w = some q → World E full w s H → va_S (wA E full) s.heap H locs → lv_has ls 6 [(0, .ref (E.2.1 99)), (1, .int p1), (2, .int p2), (3, .int v3)] → W p l e rmX9_layParts s m args below meth c H locs 0 0 Q (F0 m 2 ls []) := by
    intro n
    induction n with
    | zero =>
      intro v3 w H locs ls h hW hS hl
      exact absurd (show (none : Option (Unit × Wd)) = some q from h) (fun z => by cases z)
    | succ n ih2 =>
      intro v3 w H locs ls h hW hS hl
      have h : bX9_layParts_2 p1 p2 (lp (fun _ _ => none) (bX9_layParts_2 p1 p2) n) v3 w = some q := h
      generalize lp (fun _ _ => none) (bX9_layParts_2 p1 p2) n = k2 at h ih2
      have J36 : ∀ (v3 : Int32) (s0 : Int32) (s1 : Int32) (w : Wd) (H : Heap) (locs : List Loc) (ls : Array Slot), jX9_layParts_36 p1 p2 k2 v3 s0 s1 w = some q → World E full w s H → va_S (wA E full) s.heap H locs → lv_has ls 6 [(0, .ref (E.2.1 99)), (1, .int p1), (2, .int p2), (3, .int v3)] → W p l e rmX9_layParts s m args below meth c H locs 0 0 Q (F0 m 36 ls [.int s0, .int s1, .ref (E.2.1 106)]) := by
        intro v3 s0 s1 w H locs ls h hW hS hl
        unfold jX9_layParts_36 at h
        refine rw_iast hx hb hW hS (fun _ => (fl 106 rfl)) h dX9_layParts_36 (fun w4 H locs h hW hS => ?_)
        refine lv_iinc (v := (v3 + (1 : Int32))) (lv' := [(3, .int (v3 + (1 : Int32))), (0, .ref (E.2.1 99)), (1, .int p1), (2, .int p2)]) hx hb dX9_layParts_37 hl (k := 3) rfl rfl (by decide) rfl (fun ls hl => ?_)
        refine lv_goto (tgt := 2) hx hb dX9_layParts_40 (by decide) ?_
        exact ih2 _ _ _ _ _ h hW hS (lv_sub hl [1, 2, 3, 0] rfl)
      unfold bX9_layParts_2 at h
      refine lv_iload_n hx hb dX9_layParts_2 rfl (lv_at hl 3 rfl) ?_
      refine lv_aload_n hx hb dX9_layParts_3 rfl (lv_at hl 0 rfl) ?_
      refine rc_Vi (k := 99) (As := []) (rest := [.int v3]) S hW hS h (kX9_cells l E  w) (cwV 0 hts gX9_layParts_X9_cells rfl rfl rfl hdX9_cells ⟨Nat.le_of_ble_eq_true rfl, Nat.le_of_ble_eq_true rfl⟩) (fl 99 rfl) rfl rfl rfl rfl hl.1 rfl (Nat.le_of_ble_eq_true rfl) ⟨Nat.zero_le _, Nat.zero_le _⟩ dX9_layParts_4 (fun x1 w2 H locs h hW hS => ?_)
      refine rb_icmp_ge (tgt := 43) hx hb h dX9_layParts_7 (by decide) (fun h => ?_) (fun h => ?_)
      · refine lv_iconst (v := (1 : Int32)) hx hb dX9_layParts_43 (by decide) ?_
        refine lv_istore_n (lv' := [(3, .int (1 : Int32)), (0, .ref (E.2.1 99)), (1, .int p1), (2, .int p2)]) hx hb dX9_layParts_44 rfl hl (by decide) rfl (fun ls hl => ?_)
        exact J45 _ _ _ _ _ _ h hW hS (lv_sub hl [1, 0] rfl)
      · refine lv_aload_n hx hb dX9_layParts_10 rfl (lv_at hl 0 rfl) ?_
        refine rw_get hx hb hts iX9 hown hW (fl 99 rfl) rfl rfl 8 (by decide) e28 rfl (v := .ref (E.2.1 106)) rfl dX9_layParts_11 ?_
        refine lv_iload_n hx hb dX9_layParts_14 rfl (lv_at hl 3 rfl) ?_
        refine lv_aload_n hx hb dX9_layParts_15 rfl (lv_at hl 0 rfl) ?_
        refine rw_get hx hb hts iX9 hown hW (fl 99 rfl) rfl rfl 2 (by decide) e7 rfl (v := .ref (E.2.1 100)) rfl dX9_layParts_16 ?_
        refine lv_bipush (v := (25 : Int32)) hx hb dX9_layParts_19 (by decide) ?_
        refine lv_iload_n hx hb dX9_layParts_21 rfl (lv_at hl 1 rfl) ?_
        refine lv_imul hx hb dX9_layParts_22 ?_
        refine lv_iload_n hx hb dX9_layParts_23 rfl (lv_at hl 3 rfl) ?_
        refine lv_iadd hx hb dX9_layParts_24 ?_
        refine rw_iald hx hb hW (fun _ => (fl 100 rfl)) h dX9_layParts_25 (fun x3 h => ?_)
        refine lv_iload_n hx hb dX9_layParts_26 rfl (lv_at hl 2 rfl) ?_
        refine rb_icmp_lt (tgt := 34) hx hb h dX9_layParts_27 (by decide) (fun h => ?_) (fun h => ?_)
        · refine lv_bipush (v := (-9 : Int32)) hx hb dX9_layParts_34 (by decide) ?_
          exact J36 _ _ _ _ _ _ _ h hW hS (hl)
        · refine lv_iload_n hx hb dX9_layParts_30 rfl (lv_at hl 3 rfl) ?_
          refine lv_goto (tgt := 36) hx hb dX9_layParts_31 (by decide) ?_
          exact J36 _ _ _ _ _ _ _ h hW hS (hl)
  unfold fX9_layParts at h
  refine lv_iconst (v := (0 : Int32)) hx hb dX9_layParts_0 (by decide) ?_
  refine lv_istore_n (lv' := [(3, .int (0 : Int32)), (0, .ref (E.2.1 99)), (1, .int p1), (2, .int p2)]) hx hb dX9_layParts_1 rfl hl (by decide) rfl (fun ls hl => ?_)
  exact J2 _ _ _ _ _ _ h hW hS (lv_sub hl [1, 2, 3, 0] rfl)
noncomputable def jX9_layer_88 (p1 : Int32) (p2 : Int32) (p3 : Int32) (k36 : Int32 → Int32 → Wd → Option (Int32 × Wd)) (v5 : Int32) (s0 : Int32) (s1 : Int32)  (w : Wd) : Option (Int32 × Wd) :=
  k36 (s1 + s0) (v5 + (1 : Int32)) w
noncomputable def bX9_layer_36 (p1 : Int32) (p2 : Int32) (p3 : Int32) (k36 : Int32 → Int32 → Wd → Option (Int32 × Wd)) (v4 : Int32) (v5 : Int32)  (w : Wd) : Option (Int32 × Wd) :=
  bnd (fX9_cells w) fun x6 w7 => if x6 ≤ v5 then some (v4, w7) else if p3 = 0 then (gI w7 106 v5).bind fun x8 => if x8 = (-9 : Int32) then jX9_layer_88 p1 p2 p3 k36 v5 (0 : Int32) v4 w7 else jX9_layer_88 p1 p2 p3 k36 v5 (1 : Int32) v4 w7 else (gI w7 106 v5).bind fun x9 => if x9 = v5 then jX9_layer_88 p1 p2 p3 k36 v5 (1 : Int32) v4 w7 else jX9_layer_88 p1 p2 p3 k36 v5 (0 : Int32) v4 w7
noncomputable def fX9_layer (p1 : Int32) (p2 : Int32) (p3 : Int32) (w : Wd) : Option (Int32 × Wd) :=
  bnd (fX9_isSlot p1 w) fun x1 w2 => if x1 = 0 then some ((-1 : Int32), w2) else bnd (fX9_in (p2.toInt64) (1 : Int64) (4 : Int64) w2) fun x3 w4 => if x3 = 0 then some ((-2 : Int32), w4) else bnd (fX9_layParts p1 p2 w4) fun _ w5 => lp (fun _ _ _ => none) (bX9_layer_36 p1 p2 p3) G (0 : Int32) (0 : Int32) w5
abbrev rmX9_layer : Room := { frames := 3, cells := 0, slots := 0, locals := 74 }
set_option maxHeartbeats 4000000 in
set_option maxRecDepth 100000 in
theorem kX9_layer (l : Launch) (E : Ev) (p1 : Int32) (p2 : Int32) (p3 : Int32) (w : Wd) (q : Int32 × Wd) (h : fX9_layer p1 p2 p3 w = some q) : CtI l yX9_layer wsX9_layer rmX9_layer E full [.ref (E.2.1 99), .int p1, .int p2, .int p3] w q := by
  refine mkI (cc := cX9_layer) (maxL := 6) (by decide) rfl (Nat.le_of_ble_eq_true rfl) ?_
  intro p e s m args below meth c Q S hW hQ ls hl
  obtain ⟨hx, hb, hml, hown, hts⟩ := id S
  have hW0 := hW
  have hS : va_S (wA E full) s.heap s.heap [] := va_S.rf
  have hl : lv_has ls 6 [(0, .ref (E.2.1 99)), (1, .int p1), (2, .int p2), (3, .int p3)] := hl
  have iX9 : ∀ w ∈ wsX90, w ∈ wsX9_layer := by decide +kernel
  have e28 := hts (.fieldLink RX9 28 "CubeHeapsModel" "mark" "[I") (by decide +kernel)
  have J36 : ∀ (n : Nat) (v4 : Int32) (v5 : Int32) (w : Wd) (H : Heap) (locs : List Loc) (ls : Array Slot), lp (fun _ _ _ => none) (bX9_layer_36 p1 p2 p3) n v4 v5 w = some q → World E full w s H → va_S (wA E full) s.heap H locs → lv_has ls 6 [(0, .ref (E.2.1 99)), (3, .int p3), (4, .int v4), (5, .int v5)] → W p l e rmX9_layer s m args below meth c H locs 0 0 Q (F0 m 36 ls []) := by
    intro n
    induction n with
    | zero =>
      intro v4 v5 w H locs ls h hW hS hl
      exact absurd (show (none : Option (Int32 × Wd)) = some q from h) (fun z => by cases z)
    | succ n ih36 =>
      intro v4 v5 w H locs ls h hW hS hl
      have h : bX9_layer_36 p1 p2 p3 (lp (fun _ _ _ => none) (bX9_layer_36 p1 p2 p3) n) v4 v5 w = some q := h
      generalize lp (fun _ _ _ => none) (bX9_layer_36 p1 p2 p3) n = k36 at h ih36
      have J88 : ∀ (v5 : Int32) (s0 : Int32) (s1 : Int32) (w : Wd) (H : Heap) (locs : List Loc) (ls : Array Slot), jX9_layer_88 p1 p2 p3 k36 v5 s0 s1 w = some q → World E full w s H → va_S (wA E full) s.heap H locs → lv_has ls 6 [(0, .ref (E.2.1 99)), (3, .int p3), (5, .int v5)] → W p l e rmX9_layer s m args below meth c H locs 0 0 Q (F0 m 88 ls [.int s0, .int s1]) := by
        intro v5 s0 s1 w H locs ls h hW hS hl
        unfold jX9_layer_88 at h
        refine lv_iadd hx hb dX9_layer_88 ?_
        refine lv_istore (lv' := [(4, .int (s1 + s0)), (0, .ref (E.2.1 99)), (3, .int p3), (5, .int v5)]) hx hb dX9_layer_89 hl (by decide) rfl (fun ls hl => ?_)
        refine lv_iinc (v := (v5 + (1 : Int32))) (lv' := [(5, .int (v5 + (1 : Int32))), (4, .int (s1 + s0)), (0, .ref (E.2.1 99)), (3, .int p3)]) hx hb dX9_layer_91 hl (k := 3) rfl rfl (by decide) rfl (fun ls hl => ?_)
        refine lv_goto (tgt := 36) hx hb dX9_layer_94 (by decide) ?_
        exact ih36 _ _ _ _ _ _ h hW hS (lv_sub hl [2, 3, 1, 0] rfl)
      unfold bX9_layer_36 at h
      refine lv_iload hx hb dX9_layer_36 (lv_at hl 3 rfl) ?_
      refine lv_aload_n hx hb dX9_layer_38 rfl (lv_at hl 0 rfl) ?_
      refine rc_Vi (k := 99) (As := []) (rest := [.int v5]) S hW hS h (kX9_cells l E  w) (cwV 0 hts gX9_layer_X9_cells rfl rfl rfl hdX9_cells ⟨Nat.le_of_ble_eq_true rfl, Nat.le_of_ble_eq_true rfl⟩) (fl 99 rfl) rfl rfl rfl rfl hl.1 rfl (Nat.le_of_ble_eq_true rfl) ⟨Nat.zero_le _, Nat.zero_le _⟩ dX9_layer_39 (fun x6 w7 H locs h hW hS => ?_)
      refine rb_icmp_ge (tgt := 97) hx hb h dX9_layer_42 (by decide) (fun h => ?_) (fun h => ?_)
      · refine lv_iload hx hb dX9_layer_97 (lv_at hl 2 rfl) ?_
        exact rrI hQ hW hS h dX9_layer_99
      · refine lv_iload hx hb dX9_layer_45 (lv_at hl 2 rfl) ?_
        refine lv_iload_n hx hb dX9_layer_47 rfl (lv_at hl 1 rfl) ?_
        refine rb_if_eq (tgt := 71) hx hb h dX9_layer_48 (by decide) (fun h => ?_) (fun h => ?_)
        · refine lv_aload_n hx hb dX9_layer_71 rfl (lv_at hl 0 rfl) ?_
          refine rw_get hx hb hts iX9 hown hW (fl 99 rfl) rfl rfl 8 (by decide) e28 rfl (v := .ref (E.2.1 106)) rfl dX9_layer_72 ?_
          refine lv_iload hx hb dX9_layer_75 (lv_at hl 3 rfl) ?_
          refine rw_iald hx hb hW (fun _ => (fl 106 rfl)) h dX9_layer_77 (fun x8 h => ?_)
          refine lv_bipush (v := (-9 : Int32)) hx hb dX9_layer_78 (by decide) ?_
          refine rb_icmp_eq (tgt := 87) hx hb h dX9_layer_80 (by decide) (fun h => ?_) (fun h => ?_)
          · refine lv_iconst (v := (0 : Int32)) hx hb dX9_layer_87 (by decide) ?_
            exact J88 _ _ _ _ _ _ _ h hW hS (lv_sub hl [0, 1, 3] rfl)
          · refine lv_iconst (v := (1 : Int32)) hx hb dX9_layer_83 (by decide) ?_
            refine lv_goto (tgt := 88) hx hb dX9_layer_84 (by decide) ?_
            exact J88 _ _ _ _ _ _ _ h hW hS (lv_sub hl [0, 1, 3] rfl)
        · refine lv_aload_n hx hb dX9_layer_51 rfl (lv_at hl 0 rfl) ?_
          refine rw_get hx hb hts iX9 hown hW (fl 99 rfl) rfl rfl 8 (by decide) e28 rfl (v := .ref (E.2.1 106)) rfl dX9_layer_52 ?_
          refine lv_iload hx hb dX9_layer_55 (lv_at hl 3 rfl) ?_
          refine rw_iald hx hb hW (fun _ => (fl 106 rfl)) h dX9_layer_57 (fun x9 h => ?_)
          refine lv_iload hx hb dX9_layer_58 (lv_at hl 3 rfl) ?_
          refine rb_icmp_ne (tgt := 67) hx hb h dX9_layer_60 (by decide) (fun h => ?_) (fun h => ?_)
          · refine lv_iconst (v := (0 : Int32)) hx hb dX9_layer_67 (by decide) ?_
            refine lv_goto (tgt := 88) hx hb dX9_layer_68 (by decide) ?_
            exact J88 _ _ _ _ _ _ _ h hW hS (lv_sub hl [0, 1, 3] rfl)
          · refine lv_iconst (v := (1 : Int32)) hx hb dX9_layer_63 (by decide) ?_
            refine lv_goto (tgt := 88) hx hb dX9_layer_64 (by decide) ?_
            exact J88 _ _ _ _ _ _ _ h hW hS (lv_sub hl [0, 1, 3] rfl)
  unfold fX9_layer at h
  refine lv_iload_n hx hb dX9_layer_0 rfl (lv_at hl 1 rfl) ?_
  refine rc_Si (As := [.int p1]) (rest := []) S hW hS h (kX9_isSlot l E p1 w) (va_cwS 1 hts gX9_layer_X9_isSlot rfl rfl rfl hdX9_isSlot ⟨Nat.le_of_ble_eq_true rfl, Nat.le_of_ble_eq_true rfl⟩) rfl hl.1 rfl (Nat.le_of_ble_eq_true rfl) ⟨Nat.zero_le _, Nat.zero_le _⟩ dX9_layer_1 (fun x1 w2 H locs h hW hS => ?_)
  refine rb_if_ne (tgt := 9) hx hb h dX9_layer_4 (by decide) (fun h => ?_) (fun h => ?_)
  · refine lv_iload_n hx hb dX9_layer_9 rfl (lv_at hl 2 rfl) ?_
    refine lv_i2l (v := (p2.toInt64)) hx hb dX9_layer_10 rfl ?_
    refine lv_lconst (v := (1 : Int64)) hx hb dX9_layer_11 (by decide) ?_
    refine lv_ldc2 (own := RX9) (v := (4 : Int64)) hx hb hown (hts _ (by decide +kernel)) dX9_layer_12 ?_
    refine rc_Si (As := [.long (p2.toInt64), .long (1 : Int64), .long (4 : Int64)]) (rest := []) S hW hS h (kX9_in l E (p2.toInt64) (1 : Int64) (4 : Int64) w2) (va_cwS 3 hts gX9_layer_X9_in rfl rfl rfl hdX9_in ⟨Nat.le_of_ble_eq_true rfl, Nat.le_of_ble_eq_true rfl⟩) rfl hl.1 rfl (Nat.le_of_ble_eq_true rfl) ⟨Nat.zero_le _, Nat.zero_le _⟩ dX9_layer_15 (fun x3 w4 H locs h hW hS => ?_)
    refine rb_if_ne (tgt := 24) hx hb h dX9_layer_18 (by decide) (fun h => ?_) (fun h => ?_)
    · refine lv_aload_n hx hb dX9_layer_24 rfl (lv_at hl 0 rfl) ?_
      refine lv_iload_n hx hb dX9_layer_25 rfl (lv_at hl 1 rfl) ?_
      refine lv_iload_n hx hb dX9_layer_26 rfl (lv_at hl 2 rfl) ?_
      refine rc_Vv (k := 99) (As := [.int p1, .int p2]) (rest := []) S hW hS h (kX9_layParts l E p1 p2 w4) (cwV 2 hts gX9_layer_X9_layParts rfl rfl rfl hdX9_layParts ⟨Nat.le_of_ble_eq_true rfl, Nat.le_of_ble_eq_true rfl⟩) (fl 99 rfl) rfl rfl rfl rfl hl.1 rfl (Nat.le_of_ble_eq_true rfl) ⟨Nat.zero_le _, Nat.zero_le _⟩ dX9_layer_27 (fun _ w5 H locs h hW hS => ?_)
      refine lv_iconst (v := (0 : Int32)) hx hb dX9_layer_30 (by decide) ?_
      refine lv_istore (lv' := [(4, .int (0 : Int32)), (0, .ref (E.2.1 99)), (1, .int p1), (2, .int p2), (3, .int p3)]) hx hb dX9_layer_31 hl (by decide) rfl (fun ls hl => ?_)
      refine lv_iconst (v := (0 : Int32)) hx hb dX9_layer_33 (by decide) ?_
      refine lv_istore (lv' := [(5, .int (0 : Int32)), (4, .int (0 : Int32)), (0, .ref (E.2.1 99)), (1, .int p1), (2, .int p2), (3, .int p3)]) hx hb dX9_layer_34 hl (by decide) rfl (fun ls hl => ?_)
      exact J36 _ _ _ _ _ _ _ h hW hS (lv_sub hl [2, 5, 1, 0] rfl)
    · refine lv_bipush (v := (-2 : Int32)) hx hb dX9_layer_21 (by decide) ?_
      exact rrI hQ hW hS h dX9_layer_23
  · refine lv_iconst (v := (-1 : Int32)) hx hb dX9_layer_7 (by decide) ?_
    exact rrI hQ hW hS h dX9_layer_8
noncomputable def jX9_layWater_131 (p1 : Int32) (k25 : Int32 → Wd → Option (Unit × Wd)) (k33 : Int32 → Int32 → Wd → Option (Unit × Wd)) (v2 : Int32) (v3 : Int32)  (w : Wd) : Option (Unit × Wd) :=
  k33 v2 (v3 + (1 : Int32)) w
noncomputable def jX9_layWater_104 (p1 : Int32) (k25 : Int32 → Wd → Option (Unit × Wd)) (k33 : Int32 → Int32 → Wd → Option (Unit × Wd)) (v2 : Int32) (v3 : Int32) (s0 : Int32)  (w : Wd) : Option (Unit × Wd) :=
  (dvI v3 (4 : Int32)).bind fun x13 => (gI w 106 x13).bind fun x14 => if x14 ≤ s0 then jX9_layWater_131 p1 k25 k33 v2 v3 w else (dvI v3 (4 : Int32)).bind fun x15 => (sI w 106 x15 s0).bind fun w16 => jX9_layWater_131 p1 k25 k33 (1 : Int32) v3 w16
noncomputable def jX9_layWater_88 (p1 : Int32) (k25 : Int32 → Wd → Option (Unit × Wd)) (k33 : Int32 → Int32 → Wd → Option (Unit × Wd)) (v2 : Int32) (v3 : Int32) (v4 : Int32) (s0 : Int32)  (w : Wd) : Option (Unit × Wd) :=
  if s0 ≤ v4 then jX9_layWater_104 p1 k25 k33 v2 v3 v4 w else jX9_layWater_104 p1 k25 k33 v2 v3 s0 w
noncomputable def bX9_layWater_33 (p1 : Int32) (k25 : Int32 → Wd → Option (Unit × Wd)) (k33 : Int32 → Int32 → Wd → Option (Unit × Wd)) (v2 : Int32) (v3 : Int32)  (w : Wd) : Option (Unit × Wd) :=
  bnd (fX9_cells w) fun x4 w5 => if ((4 : Int32) * x4) ≤ v3 then k25 v2 w5 else (dvI v3 (4 : Int32)).bind fun x6 => (gI w5 100 (((25 : Int32) * p1) + x6)).bind fun x7 => (dvI v3 (4 : Int32)).bind fun x8 => (rmI v3 (4 : Int32)).bind fun x9 => bnd (fX9_beside x8 x9 w5) fun x10 w11 => if x10 = (-9 : Int32) then jX9_layWater_88 p1 k25 k33 v2 v3 x7 (0 : Int32) w11 else (gI w11 106 x10).bind fun x12 => jX9_layWater_88 p1 k25 k33 v2 v3 x7 x12 w11
noncomputable def bX9_layWater_25 (p1 : Int32) (k25 : Int32 → Wd → Option (Unit × Wd)) (v2 : Int32)  (w : Wd) : Option (Unit × Wd) :=
  if v2 = 0 then some ((), w) else lp (fun _ _ _ => none) (bX9_layWater_33 p1 k25) G (0 : Int32) (0 : Int32) w
noncomputable def bX9_layWater_2 (p1 : Int32) (k2 : Int32 → Wd → Option (Unit × Wd)) (v2 : Int32)  (w : Wd) : Option (Unit × Wd) :=
  bnd (fX9_cells w) fun x1 w2 => if x1 ≤ v2 then lp (fun _ _ => none) (bX9_layWater_25 p1) G (1 : Int32) w2 else (sI w2 106 v2 (4 : Int32)).bind fun w3 => k2 (v2 + (1 : Int32)) w3
noncomputable def fX9_layWater (p1 : Int32) (w : Wd) : Option (Unit × Wd) :=
  lp (fun _ _ => none) (bX9_layWater_2 p1) G (0 : Int32) w
abbrev rmX9_layWater : Room := { frames := 2, cells := 0, slots := 0, locals := 49 }
set_option maxHeartbeats 4000000 in
set_option maxRecDepth 100000 in
theorem kX9_layWater (l : Launch) (E : Ev) (p1 : Int32) (w : Wd) (q : Unit × Wd) (h : fX9_layWater p1 w = some q) : CtV l yX9_layWater wsX9_layWater rmX9_layWater E full [.ref (E.2.1 99), .int p1] w q := by
  refine mkV (cc := cX9_layWater) (maxL := 7) (by decide) rfl (Nat.le_of_ble_eq_true rfl) ?_
  intro p e s m args below meth c Q S hW hQ ls hl
  obtain ⟨hx, hb, hml, hown, hts⟩ := id S
  have hW0 := hW
  have hS : va_S (wA E full) s.heap s.heap [] := va_S.rf
  have hl : lv_has ls 7 [(0, .ref (E.2.1 99)), (1, .int p1)] := hl
  have iX9 : ∀ w ∈ wsX90, w ∈ wsX9_layWater := by decide +kernel
  have e7 := hts (.fieldLink RX9 7 "CubeHeapsModel" "heap" "[I") (by decide +kernel)
  have e28 := hts (.fieldLink RX9 28 "CubeHeapsModel" "mark" "[I") (by decide +kernel)
  have J25 : ∀ (n : Nat) (v2 : Int32) (w : Wd) (H : Heap) (locs : List Loc) (ls : Array Slot), lp (fun _ _ => none) (bX9_layWater_25 p1) n v2 w = some q → World E full w s H → va_S (wA E full) s.heap H locs → lv_has ls 7 [(0, .ref (E.2.1 99)), (1, .int p1), (2, .int v2)] → W p l e rmX9_layWater s m args below meth c H locs 0 0 Q (F0 m 25 ls []) := by
    intro n
    induction n with
    | zero =>
      intro v2 w H locs ls h hW hS hl
      exact absurd (show (none : Option (Unit × Wd)) = some q from h) (fun z => by cases z)
    | succ n ih25 =>
      intro v2 w H locs ls h hW hS hl
      have h : bX9_layWater_25 p1 (lp (fun _ _ => none) (bX9_layWater_25 p1) n) v2 w = some q := h
      generalize lp (fun _ _ => none) (bX9_layWater_25 p1) n = k25 at h ih25
      have J33 : ∀ (n : Nat) (v2 : Int32) (v3 : Int32) (w : Wd) (H : Heap) (locs : List Loc) (ls : Array Slot), lp (fun _ _ _ => none) (bX9_layWater_33 p1 k25) n v2 v3 w = some q → World E full w s H → va_S (wA E full) s.heap H locs → lv_has ls 7 [(0, .ref (E.2.1 99)), (1, .int p1), (2, .int v2), (3, .int v3)] → W p l e rmX9_layWater s m args below meth c H locs 0 0 Q (F0 m 33 ls []) := by
        intro n
        induction n with
        | zero =>
          intro v2 v3 w H locs ls h hW hS hl
          exact absurd (show (none : Option (Unit × Wd)) = some q from h) (fun z => by cases z)
        | succ n ih33 =>
          intro v2 v3 w H locs ls h hW hS hl
          have h : bX9_layWater_33 p1 k25 (lp (fun _ _ _ => none) (bX9_layWater_33 p1 k25) n) v2 v3 w = some q := h
          generalize lp (fun _ _ _ => none) (bX9_layWater_33 p1 k25) n = k33 at h ih33
          have J131 : ∀ (v2 : Int32) (v3 : Int32) (w : Wd) (H : Heap) (locs : List Loc) (ls : Array Slot), jX9_layWater_131 p1 k25 k33 v2 v3 w = some q → World E full w s H → va_S (wA E full) s.heap H locs → lv_has ls 7 [(0, .ref (E.2.1 99)), (1, .int p1), (2, .int v2), (3, .int v3)] → W p l e rmX9_layWater s m args below meth c H locs 0 0 Q (F0 m 131 ls []) := by
            intro v2 v3 w H locs ls h hW hS hl
            unfold jX9_layWater_131 at h
            refine lv_iinc (v := (v3 + (1 : Int32))) (lv' := [(3, .int (v3 + (1 : Int32))), (0, .ref (E.2.1 99)), (1, .int p1), (2, .int v2)]) hx hb dX9_layWater_131 hl (k := 3) rfl rfl (by decide) rfl (fun ls hl => ?_)
            refine lv_goto (tgt := 33) hx hb dX9_layWater_134 (by decide) ?_
            exact ih33 _ _ _ _ _ _ h hW hS (lv_sub hl [1, 2, 3, 0] rfl)
          have J104 : ∀ (v2 : Int32) (v3 : Int32) (s0 : Int32) (w : Wd) (H : Heap) (locs : List Loc) (ls : Array Slot), jX9_layWater_104 p1 k25 k33 v2 v3 s0 w = some q → World E full w s H → va_S (wA E full) s.heap H locs → lv_has ls 7 [(0, .ref (E.2.1 99)), (1, .int p1), (2, .int v2), (3, .int v3)] → W p l e rmX9_layWater s m args below meth c H locs 0 0 Q (F0 m 104 ls [.int s0]) := by
            intro v2 v3 s0 w H locs ls h hW hS hl
            unfold jX9_layWater_104 at h
            refine lv_istore (lv' := [(6, .int s0), (0, .ref (E.2.1 99)), (1, .int p1), (2, .int v2), (3, .int v3)]) hx hb dX9_layWater_104 hl (by decide) rfl (fun ls hl => ?_)
            refine lv_iload hx hb dX9_layWater_106 (lv_at hl 0 rfl) ?_
            refine lv_aload_n hx hb dX9_layWater_108 rfl (lv_at hl 1 rfl) ?_
            refine rw_get hx hb hts iX9 hown hW (fl 99 rfl) rfl rfl 8 (by decide) e28 rfl (v := .ref (E.2.1 106)) rfl dX9_layWater_109 ?_
            refine lv_iload_n hx hb dX9_layWater_112 rfl (lv_at hl 4 rfl) ?_
            refine lv_iconst (v := (4 : Int32)) hx hb dX9_layWater_113 (by decide) ?_
            refine rb_div hx hb h dX9_layWater_114 (fun x13 h => ?_)
            refine rw_iald hx hb hW (fun _ => (fl 106 rfl)) h dX9_layWater_115 (fun x14 h => ?_)
            refine rb_icmp_ge (tgt := 131) hx hb h dX9_layWater_116 (by decide) (fun h => ?_) (fun h => ?_)
            · exact J131 _ _ _ _ _ _ h hW hS (lv_sub hl [1, 2, 3, 4] rfl)
            · refine lv_aload_n hx hb dX9_layWater_119 rfl (lv_at hl 1 rfl) ?_
              refine rw_get hx hb hts iX9 hown hW (fl 99 rfl) rfl rfl 8 (by decide) e28 rfl (v := .ref (E.2.1 106)) rfl dX9_layWater_120 ?_
              refine lv_iload_n hx hb dX9_layWater_123 rfl (lv_at hl 4 rfl) ?_
              refine lv_iconst (v := (4 : Int32)) hx hb dX9_layWater_124 (by decide) ?_
              refine rb_div hx hb h dX9_layWater_125 (fun x15 h => ?_)
              refine lv_iload hx hb dX9_layWater_126 (lv_at hl 0 rfl) ?_
              refine rw_iast hx hb hW hS (fun _ => (fl 106 rfl)) h dX9_layWater_128 (fun w16 H locs h hW hS => ?_)
              refine lv_iconst (v := (1 : Int32)) hx hb dX9_layWater_129 (by decide) ?_
              refine lv_istore_n (lv' := [(2, .int (1 : Int32)), (6, .int s0), (0, .ref (E.2.1 99)), (1, .int p1), (3, .int v3)]) hx hb dX9_layWater_130 rfl hl (by decide) rfl (fun ls hl => ?_)
              exact J131 _ _ _ _ _ _ h hW hS (lv_sub hl [2, 3, 0, 4] rfl)
          have J88 : ∀ (v2 : Int32) (v3 : Int32) (v4 : Int32) (s0 : Int32) (w : Wd) (H : Heap) (locs : List Loc) (ls : Array Slot), jX9_layWater_88 p1 k25 k33 v2 v3 v4 s0 w = some q → World E full w s H → va_S (wA E full) s.heap H locs → lv_has ls 7 [(0, .ref (E.2.1 99)), (1, .int p1), (2, .int v2), (3, .int v3), (4, .int v4)] → W p l e rmX9_layWater s m args below meth c H locs 0 0 Q (F0 m 88 ls [.int s0]) := by
            intro v2 v3 v4 s0 w H locs ls h hW hS hl
            unfold jX9_layWater_88 at h
            refine lv_istore (lv' := [(6, .int s0), (0, .ref (E.2.1 99)), (1, .int p1), (2, .int v2), (3, .int v3), (4, .int v4)]) hx hb dX9_layWater_88 hl (by decide) rfl (fun ls hl => ?_)
            refine lv_iload hx hb dX9_layWater_90 (lv_at hl 0 rfl) ?_
            refine lv_iload hx hb dX9_layWater_92 (lv_at hl 5 rfl) ?_
            refine rb_icmp_le (tgt := 102) hx hb h dX9_layWater_94 (by decide) (fun h => ?_) (fun h => ?_)
            · refine lv_iload hx hb dX9_layWater_102 (lv_at hl 5 rfl) ?_
              exact J104 _ _ _ _ _ _ _ h hW hS (lv_sub hl [1, 2, 3, 4] rfl)
            · refine lv_iload hx hb dX9_layWater_97 (lv_at hl 0 rfl) ?_
              refine lv_goto (tgt := 104) hx hb dX9_layWater_99 (by decide) ?_
              exact J104 _ _ _ _ _ _ _ h hW hS (lv_sub hl [1, 2, 3, 4] rfl)
          unfold bX9_layWater_33 at h
          refine lv_iload_n hx hb dX9_layWater_33 rfl (lv_at hl 3 rfl) ?_
          refine lv_iconst (v := (4 : Int32)) hx hb dX9_layWater_34 (by decide) ?_
          refine lv_aload_n hx hb dX9_layWater_35 rfl (lv_at hl 0 rfl) ?_
          refine rc_Vi (k := 99) (As := []) (rest := [.int (4 : Int32), .int v3]) S hW hS h (kX9_cells l E  w) (cwV 0 hts gX9_layWater_X9_cells rfl rfl rfl hdX9_cells ⟨Nat.le_of_ble_eq_true rfl, Nat.le_of_ble_eq_true rfl⟩) (fl 99 rfl) rfl rfl rfl rfl hl.1 rfl (Nat.le_of_ble_eq_true rfl) ⟨Nat.zero_le _, Nat.zero_le _⟩ dX9_layWater_36 (fun x4 w5 H locs h hW hS => ?_)
          refine lv_imul hx hb dX9_layWater_39 ?_
          refine rb_icmp_ge (tgt := 137) hx hb h dX9_layWater_40 (by decide) (fun h => ?_) (fun h => ?_)
          · refine lv_goto (tgt := 25) hx hb dX9_layWater_137 (by decide) ?_
            exact ih25 _ _ _ _ _ h hW hS (lv_sub hl [0, 1, 2] rfl)
          · refine lv_aload_n hx hb dX9_layWater_43 rfl (lv_at hl 0 rfl) ?_
            refine rw_get hx hb hts iX9 hown hW (fl 99 rfl) rfl rfl 2 (by decide) e7 rfl (v := .ref (E.2.1 100)) rfl dX9_layWater_44 ?_
            refine lv_bipush (v := (25 : Int32)) hx hb dX9_layWater_47 (by decide) ?_
            refine lv_iload_n hx hb dX9_layWater_49 rfl (lv_at hl 1 rfl) ?_
            refine lv_imul hx hb dX9_layWater_50 ?_
            refine lv_iload_n hx hb dX9_layWater_51 rfl (lv_at hl 3 rfl) ?_
            refine lv_iconst (v := (4 : Int32)) hx hb dX9_layWater_52 (by decide) ?_
            refine rb_div hx hb h dX9_layWater_53 (fun x6 h => ?_)
            refine lv_iadd hx hb dX9_layWater_54 ?_
            refine rw_iald hx hb hW (fun _ => (fl 100 rfl)) h dX9_layWater_55 (fun x7 h => ?_)
            refine lv_istore (lv' := [(4, .int x7), (0, .ref (E.2.1 99)), (1, .int p1), (2, .int v2), (3, .int v3)]) hx hb dX9_layWater_56 hl (by decide) rfl (fun ls hl => ?_)
            refine lv_aload_n hx hb dX9_layWater_58 rfl (lv_at hl 1 rfl) ?_
            refine lv_iload_n hx hb dX9_layWater_59 rfl (lv_at hl 4 rfl) ?_
            refine lv_iconst (v := (4 : Int32)) hx hb dX9_layWater_60 (by decide) ?_
            refine rb_div hx hb h dX9_layWater_61 (fun x8 h => ?_)
            refine lv_iload_n hx hb dX9_layWater_62 rfl (lv_at hl 4 rfl) ?_
            refine lv_iconst (v := (4 : Int32)) hx hb dX9_layWater_63 (by decide) ?_
            refine rb_rem hx hb h dX9_layWater_64 (fun x9 h => ?_)
            refine rc_Vi (k := 99) (As := [.int x8, .int x9]) (rest := []) S hW hS h (kX9_beside l E x8 x9 w5) (cwV 2 hts gX9_layWater_X9_beside rfl rfl rfl hdX9_beside ⟨Nat.le_of_ble_eq_true rfl, Nat.le_of_ble_eq_true rfl⟩) (fl 99 rfl) rfl rfl rfl rfl hl.1 rfl (Nat.le_of_ble_eq_true rfl) ⟨Nat.zero_le _, Nat.zero_le _⟩ dX9_layWater_65 (fun x10 w11 H locs h hW hS => ?_)
            refine lv_istore (lv' := [(5, .int x10), (4, .int x7), (0, .ref (E.2.1 99)), (1, .int p1), (2, .int v2), (3, .int v3)]) hx hb dX9_layWater_68 hl (by decide) rfl (fun ls hl => ?_)
            refine lv_iload hx hb dX9_layWater_70 (lv_at hl 0 rfl) ?_
            refine lv_bipush (v := (-9 : Int32)) hx hb dX9_layWater_72 (by decide) ?_
            refine rb_icmp_ne (tgt := 81) hx hb h dX9_layWater_74 (by decide) (fun h => ?_) (fun h => ?_)
            · refine lv_aload_n hx hb dX9_layWater_81 rfl (lv_at hl 2 rfl) ?_
              refine rw_get hx hb hts iX9 hown hW (fl 99 rfl) rfl rfl 8 (by decide) e28 rfl (v := .ref (E.2.1 106)) rfl dX9_layWater_82 ?_
              refine lv_iload hx hb dX9_layWater_85 (lv_at hl 0 rfl) ?_
              refine rw_iald hx hb hW (fun _ => (fl 106 rfl)) h dX9_layWater_87 (fun x12 h => ?_)
              exact J88 _ _ _ _ _ _ _ _ h hW hS (lv_sub hl [2, 3, 4, 5, 1] rfl)
            · refine lv_iconst (v := (0 : Int32)) hx hb dX9_layWater_77 (by decide) ?_
              refine lv_goto (tgt := 88) hx hb dX9_layWater_78 (by decide) ?_
              exact J88 _ _ _ _ _ _ _ _ h hW hS (lv_sub hl [2, 3, 4, 5, 1] rfl)
      unfold bX9_layWater_25 at h
      refine lv_iload_n hx hb dX9_layWater_25 rfl (lv_at hl 2 rfl) ?_
      refine rb_if_eq (tgt := 140) hx hb h dX9_layWater_26 (by decide) (fun h => ?_) (fun h => ?_)
      · exact rrV hQ hW hS h dX9_layWater_140
      · refine lv_iconst (v := (0 : Int32)) hx hb dX9_layWater_29 (by decide) ?_
        refine lv_istore_n (lv' := [(2, .int (0 : Int32)), (0, .ref (E.2.1 99)), (1, .int p1)]) hx hb dX9_layWater_30 rfl hl (by decide) rfl (fun ls hl => ?_)
        refine lv_iconst (v := (0 : Int32)) hx hb dX9_layWater_31 (by decide) ?_
        refine lv_istore_n (lv' := [(3, .int (0 : Int32)), (2, .int (0 : Int32)), (0, .ref (E.2.1 99)), (1, .int p1)]) hx hb dX9_layWater_32 rfl hl (by decide) rfl (fun ls hl => ?_)
        exact J33 _ _ _ _ _ _ _ h hW hS (lv_sub hl [2, 3, 1, 0] rfl)
  have J2 : ∀ (n : Nat) (v2 : Int32) (w : Wd) (H : Heap) (locs : List Loc) (ls : Array Slot), lp (fun _ _ => none) (bX9_layWater_2 p1) n v2 w = some q → World E full w s H → va_S (wA E full) s.heap H locs → lv_has ls 7 [(0, .ref (E.2.1 99)), (1, .int p1), (2, .int v2)] → W p l e rmX9_layWater s m args below meth c H locs 0 0 Q (F0 m 2 ls []) := by
    intro n
    induction n with
    | zero =>
      intro v2 w H locs ls h hW hS hl
      exact absurd (show (none : Option (Unit × Wd)) = some q from h) (fun z => by cases z)
    | succ n ih2 =>
      intro v2 w H locs ls h hW hS hl
      have h : bX9_layWater_2 p1 (lp (fun _ _ => none) (bX9_layWater_2 p1) n) v2 w = some q := h
      generalize lp (fun _ _ => none) (bX9_layWater_2 p1) n = k2 at h ih2
      unfold bX9_layWater_2 at h
      refine lv_iload_n hx hb dX9_layWater_2 rfl (lv_at hl 2 rfl) ?_
      refine lv_aload_n hx hb dX9_layWater_3 rfl (lv_at hl 0 rfl) ?_
      refine rc_Vi (k := 99) (As := []) (rest := [.int v2]) S hW hS h (kX9_cells l E  w) (cwV 0 hts gX9_layWater_X9_cells rfl rfl rfl hdX9_cells ⟨Nat.le_of_ble_eq_true rfl, Nat.le_of_ble_eq_true rfl⟩) (fl 99 rfl) rfl rfl rfl rfl hl.1 rfl (Nat.le_of_ble_eq_true rfl) ⟨Nat.zero_le _, Nat.zero_le _⟩ dX9_layWater_4 (fun x1 w2 H locs h hW hS => ?_)
      refine rb_icmp_ge (tgt := 23) hx hb h dX9_layWater_7 (by decide) (fun h => ?_) (fun h => ?_)
      · refine lv_iconst (v := (1 : Int32)) hx hb dX9_layWater_23 (by decide) ?_
        refine lv_istore_n (lv' := [(2, .int (1 : Int32)), (0, .ref (E.2.1 99)), (1, .int p1)]) hx hb dX9_layWater_24 rfl hl (by decide) rfl (fun ls hl => ?_)
        exact J25 _ _ _ _ _ _ h hW hS (lv_sub hl [1, 2, 0] rfl)
      · refine lv_aload_n hx hb dX9_layWater_10 rfl (lv_at hl 0 rfl) ?_
        refine rw_get hx hb hts iX9 hown hW (fl 99 rfl) rfl rfl 8 (by decide) e28 rfl (v := .ref (E.2.1 106)) rfl dX9_layWater_11 ?_
        refine lv_iload_n hx hb dX9_layWater_14 rfl (lv_at hl 2 rfl) ?_
        refine lv_iconst (v := (4 : Int32)) hx hb dX9_layWater_15 (by decide) ?_
        refine rw_iast hx hb hW hS (fun _ => (fl 106 rfl)) h dX9_layWater_16 (fun w3 H locs h hW hS => ?_)
        refine lv_iinc (v := (v2 + (1 : Int32))) (lv' := [(2, .int (v2 + (1 : Int32))), (0, .ref (E.2.1 99)), (1, .int p1)]) hx hb dX9_layWater_17 hl (k := 2) rfl rfl (by decide) rfl (fun ls hl => ?_)
        refine lv_goto (tgt := 2) hx hb dX9_layWater_20 (by decide) ?_
        exact ih2 _ _ _ _ _ h hW hS (lv_sub hl [1, 2, 0] rfl)
  unfold fX9_layWater at h
  refine lv_iconst (v := (0 : Int32)) hx hb dX9_layWater_0 (by decide) ?_
  refine lv_istore_n (lv' := [(2, .int (0 : Int32)), (0, .ref (E.2.1 99)), (1, .int p1)]) hx hb dX9_layWater_1 rfl hl (by decide) rfl (fun ls hl => ?_)
  exact J2 _ _ _ _ _ _ h hW hS (lv_sub hl [1, 2, 0] rfl)
noncomputable def bX9_water_18 (p1 : Int32) (k18 : Int32 → Int32 → Wd → Option (Int32 × Wd)) (v2 : Int32) (v3 : Int32)  (w : Wd) : Option (Int32 × Wd) :=
  bnd (fX9_cells w) fun x4 w5 => if x4 ≤ v3 then some (v2, w5) else (gI w5 106 v3).bind fun x6 => (gI w5 100 (((25 : Int32) * p1) + v3)).bind fun x7 => k18 (v2 + (x6 - x7)) (v3 + (1 : Int32)) w5
noncomputable def fX9_water (p1 : Int32) (w : Wd) : Option (Int32 × Wd) :=
  bnd (fX9_isSlot p1 w) fun x1 w2 => if x1 = 0 then some ((-1 : Int32), w2) else bnd (fX9_layWater p1 w2) fun _ w3 => lp (fun _ _ _ => none) (bX9_water_18 p1) G (0 : Int32) (0 : Int32) w3
abbrev rmX9_water : Room := { frames := 3, cells := 0, slots := 0, locals := 75 }
set_option maxHeartbeats 4000000 in
set_option maxRecDepth 100000 in
theorem kX9_water (l : Launch) (E : Ev) (p1 : Int32) (w : Wd) (q : Int32 × Wd) (h : fX9_water p1 w = some q) : CtI l yX9_water wsX9_water rmX9_water E full [.ref (E.2.1 99), .int p1] w q := by
  refine mkI (cc := cX9_water) (maxL := 4) (by decide) rfl (Nat.le_of_ble_eq_true rfl) ?_
  intro p e s m args below meth c Q S hW hQ ls hl
  obtain ⟨hx, hb, hml, hown, hts⟩ := id S
  have hW0 := hW
  have hS : va_S (wA E full) s.heap s.heap [] := va_S.rf
  have hl : lv_has ls 4 [(0, .ref (E.2.1 99)), (1, .int p1)] := hl
  have iX9 : ∀ w ∈ wsX90, w ∈ wsX9_water := by decide +kernel
  have e7 := hts (.fieldLink RX9 7 "CubeHeapsModel" "heap" "[I") (by decide +kernel)
  have e28 := hts (.fieldLink RX9 28 "CubeHeapsModel" "mark" "[I") (by decide +kernel)
  have J18 : ∀ (n : Nat) (v2 : Int32) (v3 : Int32) (w : Wd) (H : Heap) (locs : List Loc) (ls : Array Slot), lp (fun _ _ _ => none) (bX9_water_18 p1) n v2 v3 w = some q → World E full w s H → va_S (wA E full) s.heap H locs → lv_has ls 4 [(0, .ref (E.2.1 99)), (1, .int p1), (2, .int v2), (3, .int v3)] → W p l e rmX9_water s m args below meth c H locs 0 0 Q (F0 m 18 ls []) := by
    intro n
    induction n with
    | zero =>
      intro v2 v3 w H locs ls h hW hS hl
      exact absurd (show (none : Option (Int32 × Wd)) = some q from h) (fun z => by cases z)
    | succ n ih18 =>
      intro v2 v3 w H locs ls h hW hS hl
      have h : bX9_water_18 p1 (lp (fun _ _ _ => none) (bX9_water_18 p1) n) v2 v3 w = some q := h
      generalize lp (fun _ _ _ => none) (bX9_water_18 p1) n = k18 at h ih18
      unfold bX9_water_18 at h
      refine lv_iload_n hx hb dX9_water_18 rfl (lv_at hl 3 rfl) ?_
      refine lv_aload_n hx hb dX9_water_19 rfl (lv_at hl 0 rfl) ?_
      refine rc_Vi (k := 99) (As := []) (rest := [.int v3]) S hW hS h (kX9_cells l E  w) (cwV 0 hts gX9_water_X9_cells rfl rfl rfl hdX9_cells ⟨Nat.le_of_ble_eq_true rfl, Nat.le_of_ble_eq_true rfl⟩) (fl 99 rfl) rfl rfl rfl rfl hl.1 rfl (Nat.le_of_ble_eq_true rfl) ⟨Nat.zero_le _, Nat.zero_le _⟩ dX9_water_20 (fun x4 w5 H locs h hW hS => ?_)
      refine rb_icmp_ge (tgt := 53) hx hb h dX9_water_23 (by decide) (fun h => ?_) (fun h => ?_)
      · refine lv_iload_n hx hb dX9_water_53 rfl (lv_at hl 2 rfl) ?_
        exact rrI hQ hW hS h dX9_water_54
      · refine lv_iload_n hx hb dX9_water_26 rfl (lv_at hl 2 rfl) ?_
        refine lv_aload_n hx hb dX9_water_27 rfl (lv_at hl 0 rfl) ?_
        refine rw_get hx hb hts iX9 hown hW (fl 99 rfl) rfl rfl 8 (by decide) e28 rfl (v := .ref (E.2.1 106)) rfl dX9_water_28 ?_
        refine lv_iload_n hx hb dX9_water_31 rfl (lv_at hl 3 rfl) ?_
        refine rw_iald hx hb hW (fun _ => (fl 106 rfl)) h dX9_water_32 (fun x6 h => ?_)
        refine lv_aload_n hx hb dX9_water_33 rfl (lv_at hl 0 rfl) ?_
        refine rw_get hx hb hts iX9 hown hW (fl 99 rfl) rfl rfl 2 (by decide) e7 rfl (v := .ref (E.2.1 100)) rfl dX9_water_34 ?_
        refine lv_bipush (v := (25 : Int32)) hx hb dX9_water_37 (by decide) ?_
        refine lv_iload_n hx hb dX9_water_39 rfl (lv_at hl 1 rfl) ?_
        refine lv_imul hx hb dX9_water_40 ?_
        refine lv_iload_n hx hb dX9_water_41 rfl (lv_at hl 3 rfl) ?_
        refine lv_iadd hx hb dX9_water_42 ?_
        refine rw_iald hx hb hW (fun _ => (fl 100 rfl)) h dX9_water_43 (fun x7 h => ?_)
        refine lv_isub hx hb dX9_water_44 ?_
        refine lv_iadd hx hb dX9_water_45 ?_
        refine lv_istore_n (lv' := [(2, .int (v2 + (x6 - x7))), (0, .ref (E.2.1 99)), (1, .int p1), (3, .int v3)]) hx hb dX9_water_46 rfl hl (by decide) rfl (fun ls hl => ?_)
        refine lv_iinc (v := (v3 + (1 : Int32))) (lv' := [(3, .int (v3 + (1 : Int32))), (2, .int (v2 + (x6 - x7))), (0, .ref (E.2.1 99)), (1, .int p1)]) hx hb dX9_water_47 hl (k := 3) rfl rfl (by decide) rfl (fun ls hl => ?_)
        refine lv_goto (tgt := 18) hx hb dX9_water_50 (by decide) ?_
        exact ih18 _ _ _ _ _ _ h hW hS (lv_sub hl [2, 3, 1, 0] rfl)
  unfold fX9_water at h
  refine lv_iload_n hx hb dX9_water_0 rfl (lv_at hl 1 rfl) ?_
  refine rc_Si (As := [.int p1]) (rest := []) S hW hS h (kX9_isSlot l E p1 w) (va_cwS 1 hts gX9_water_X9_isSlot rfl rfl rfl hdX9_isSlot ⟨Nat.le_of_ble_eq_true rfl, Nat.le_of_ble_eq_true rfl⟩) rfl hl.1 rfl (Nat.le_of_ble_eq_true rfl) ⟨Nat.zero_le _, Nat.zero_le _⟩ dX9_water_1 (fun x1 w2 H locs h hW hS => ?_)
  refine rb_if_ne (tgt := 9) hx hb h dX9_water_4 (by decide) (fun h => ?_) (fun h => ?_)
  · refine lv_aload_n hx hb dX9_water_9 rfl (lv_at hl 0 rfl) ?_
    refine lv_iload_n hx hb dX9_water_10 rfl (lv_at hl 1 rfl) ?_
    refine rc_Vv (k := 99) (As := [.int p1]) (rest := []) S hW hS h (kX9_layWater l E p1 w2) (cwV 1 hts gX9_water_X9_layWater rfl rfl rfl hdX9_layWater ⟨Nat.le_of_ble_eq_true rfl, Nat.le_of_ble_eq_true rfl⟩) (fl 99 rfl) rfl rfl rfl rfl hl.1 rfl (Nat.le_of_ble_eq_true rfl) ⟨Nat.zero_le _, Nat.zero_le _⟩ dX9_water_11 (fun _ w3 H locs h hW hS => ?_)
    refine lv_iconst (v := (0 : Int32)) hx hb dX9_water_14 (by decide) ?_
    refine lv_istore_n (lv' := [(2, .int (0 : Int32)), (0, .ref (E.2.1 99)), (1, .int p1)]) hx hb dX9_water_15 rfl hl (by decide) rfl (fun ls hl => ?_)
    refine lv_iconst (v := (0 : Int32)) hx hb dX9_water_16 (by decide) ?_
    refine lv_istore_n (lv' := [(3, .int (0 : Int32)), (2, .int (0 : Int32)), (0, .ref (E.2.1 99)), (1, .int p1)]) hx hb dX9_water_17 rfl hl (by decide) rfl (fun ls hl => ?_)
    exact J18 _ _ _ _ _ _ _ h hW hS (lv_sub hl [2, 3, 1, 0] rfl)
  · refine lv_iconst (v := (-1 : Int32)) hx hb dX9_water_7 (by decide) ?_
    exact rrI hQ hW hS h dX9_water_8
noncomputable def fX9_level (p1 : Int32) (p2 : Int32) (w : Wd) : Option (Int32 × Wd) :=
  bnd (fX9_isSlot p1 w) fun x1 w2 => if x1 = 0 then some ((-1 : Int32), w2) else bnd (fX9_isCell p2 w2) fun x3 w4 => if x3 = 0 then some ((-1 : Int32), w4) else bnd (fX9_layWater p1 w4) fun _ w5 => (gI w5 106 p2).bind fun x6 => some (x6, w5)
abbrev rmX9_level : Room := { frames := 3, cells := 0, slots := 0, locals := 75 }
set_option maxHeartbeats 4000000 in
set_option maxRecDepth 100000 in
theorem kX9_level (l : Launch) (E : Ev) (p1 : Int32) (p2 : Int32) (w : Wd) (q : Int32 × Wd) (h : fX9_level p1 p2 w = some q) : CtI l yX9_level wsX9_level rmX9_level E full [.ref (E.2.1 99), .int p1, .int p2] w q := by
  refine mkI (cc := cX9_level) (maxL := 3) (by decide) rfl (Nat.le_of_ble_eq_true rfl) ?_
  intro p e s m args below meth c Q S hW hQ ls hl
  obtain ⟨hx, hb, hml, hown, hts⟩ := id S
  have hW0 := hW
  have hS : va_S (wA E full) s.heap s.heap [] := va_S.rf
  have hl : lv_has ls 3 [(0, .ref (E.2.1 99)), (1, .int p1), (2, .int p2)] := hl
  have iX9 : ∀ w ∈ wsX90, w ∈ wsX9_level := by decide +kernel
  have e28 := hts (.fieldLink RX9 28 "CubeHeapsModel" "mark" "[I") (by decide +kernel)
  unfold fX9_level at h
  refine lv_iload_n hx hb dX9_level_0 rfl (lv_at hl 1 rfl) ?_
  refine rc_Si (As := [.int p1]) (rest := []) S hW hS h (kX9_isSlot l E p1 w) (va_cwS 1 hts gX9_level_X9_isSlot rfl rfl rfl hdX9_isSlot ⟨Nat.le_of_ble_eq_true rfl, Nat.le_of_ble_eq_true rfl⟩) rfl hl.1 rfl (Nat.le_of_ble_eq_true rfl) ⟨Nat.zero_le _, Nat.zero_le _⟩ dX9_level_1 (fun x1 w2 H locs h hW hS => ?_)
  refine rb_if_eq (tgt := 15) hx hb h dX9_level_4 (by decide) (fun h => ?_) (fun h => ?_)
  · refine lv_iconst (v := (-1 : Int32)) hx hb dX9_level_15 (by decide) ?_
    exact rrI hQ hW hS h dX9_level_16
  · refine lv_aload_n hx hb dX9_level_7 rfl (lv_at hl 0 rfl) ?_
    refine lv_iload_n hx hb dX9_level_8 rfl (lv_at hl 2 rfl) ?_
    refine rc_Vi (k := 99) (As := [.int p2]) (rest := []) S hW hS h (kX9_isCell l E p2 w2) (cwV 1 hts gX9_level_X9_isCell rfl rfl rfl hdX9_isCell ⟨Nat.le_of_ble_eq_true rfl, Nat.le_of_ble_eq_true rfl⟩) (fl 99 rfl) rfl rfl rfl rfl hl.1 rfl (Nat.le_of_ble_eq_true rfl) ⟨Nat.zero_le _, Nat.zero_le _⟩ dX9_level_9 (fun x3 w4 H locs h hW hS => ?_)
    refine rb_if_ne (tgt := 17) hx hb h dX9_level_12 (by decide) (fun h => ?_) (fun h => ?_)
    · refine lv_aload_n hx hb dX9_level_17 rfl (lv_at hl 0 rfl) ?_
      refine lv_iload_n hx hb dX9_level_18 rfl (lv_at hl 1 rfl) ?_
      refine rc_Vv (k := 99) (As := [.int p1]) (rest := []) S hW hS h (kX9_layWater l E p1 w4) (cwV 1 hts gX9_level_X9_layWater rfl rfl rfl hdX9_layWater ⟨Nat.le_of_ble_eq_true rfl, Nat.le_of_ble_eq_true rfl⟩) (fl 99 rfl) rfl rfl rfl rfl hl.1 rfl (Nat.le_of_ble_eq_true rfl) ⟨Nat.zero_le _, Nat.zero_le _⟩ dX9_level_19 (fun _ w5 H locs h hW hS => ?_)
      refine lv_aload_n hx hb dX9_level_22 rfl (lv_at hl 0 rfl) ?_
      refine rw_get hx hb hts iX9 hown hW (fl 99 rfl) rfl rfl 8 (by decide) e28 rfl (v := .ref (E.2.1 106)) rfl dX9_level_23 ?_
      refine lv_iload_n hx hb dX9_level_26 rfl (lv_at hl 2 rfl) ?_
      refine rw_iald hx hb hW (fun _ => (fl 106 rfl)) h dX9_level_27 (fun x6 h => ?_)
      exact rrI hQ hW hS h dX9_level_28
    · refine lv_iconst (v := (-1 : Int32)) hx hb dX9_level_15 (by decide) ?_
      exact rrI hQ hW hS h dX9_level_16
noncomputable def jX9_tell_51 (p1 : Int32) (p2 : Int32) (p3 : Int32) (s0 : Int32)  (w : Wd) : Option (Int32 × Wd) :=
  if p1 = 0 then (sI w 102 p2 p3).bind fun w7 => some (s0, w7) else (sI w 101 p2 p3).bind fun w8 => some (s0, w8)
noncomputable def jX9_tell_32 (p1 : Int32) (p2 : Int32) (p3 : Int32)  (w : Wd) : Option (Int32 × Wd) :=
  if p1 = 0 then (gI w 102 p2).bind fun x5 => jX9_tell_51 p1 p2 p3 x5 w else (gI w 101 p2).bind fun x6 => jX9_tell_51 p1 p2 p3 x6 w
noncomputable def fX9_tell (p1 : Int32) (p2 : Int32) (p3 : Int32) (w : Wd) : Option (Int32 × Wd) :=
  bnd (fX9_isLine p1 p2 w) fun x1 w2 => if x1 = 0 then some ((-1 : Int32), w2) else if p3 = (-9 : Int32) then jX9_tell_32 p1 p2 p3 w2 else bnd (fX9_in (p3.toInt64) (0 : Int64) (4 : Int64) w2) fun x3 w4 => if x3 = 0 then some ((-2 : Int32), w4) else jX9_tell_32 p1 p2 p3 w4
abbrev rmX9_tell : Room := { frames := 2, cells := 0, slots := 0, locals := 47 }
set_option maxHeartbeats 4000000 in
set_option maxRecDepth 100000 in
theorem kX9_tell (l : Launch) (E : Ev) (p1 : Int32) (p2 : Int32) (p3 : Int32) (w : Wd) (q : Int32 × Wd) (h : fX9_tell p1 p2 p3 w = some q) : CtI l yX9_tell wsX9_tell rmX9_tell E full [.ref (E.2.1 99), .int p1, .int p2, .int p3] w q := by
  refine mkI (cc := cX9_tell) (maxL := 5) (by decide) rfl (Nat.le_of_ble_eq_true rfl) ?_
  intro p e s m args below meth c Q S hW hQ ls hl
  obtain ⟨hx, hb, hml, hown, hts⟩ := id S
  have hW0 := hW
  have hS : va_S (wA E full) s.heap s.heap [] := va_S.rf
  have hl : lv_has ls 5 [(0, .ref (E.2.1 99)), (1, .int p1), (2, .int p2), (3, .int p3)] := hl
  have iX9 : ∀ w ∈ wsX90, w ∈ wsX9_tell := by decide +kernel
  have e13 := hts (.fieldLink RX9 13 "CubeHeapsModel" "fronts" "[I") (by decide +kernel)
  have e16 := hts (.fieldLink RX9 16 "CubeHeapsModel" "sides" "[I") (by decide +kernel)
  have J51 : ∀ (s0 : Int32) (w : Wd) (H : Heap) (locs : List Loc) (ls : Array Slot), jX9_tell_51 p1 p2 p3 s0 w = some q → World E full w s H → va_S (wA E full) s.heap H locs → lv_has ls 5 [(0, .ref (E.2.1 99)), (1, .int p1), (2, .int p2), (3, .int p3)] → W p l e rmX9_tell s m args below meth c H locs 0 0 Q (F0 m 51 ls [.int s0]) := by
    intro s0 w H locs ls h hW hS hl
    unfold jX9_tell_51 at h
    refine lv_istore (lv' := [(4, .int s0), (0, .ref (E.2.1 99)), (1, .int p1), (2, .int p2), (3, .int p3)]) hx hb dX9_tell_51 hl (by decide) rfl (fun ls hl => ?_)
    refine lv_iload_n hx hb dX9_tell_53 rfl (lv_at hl 2 rfl) ?_
    refine rb_if_eq (tgt := 67) hx hb h dX9_tell_54 (by decide) (fun h => ?_) (fun h => ?_)
    · refine lv_aload_n hx hb dX9_tell_67 rfl (lv_at hl 1 rfl) ?_
      refine rw_get hx hb hts iX9 hown hW (fl 99 rfl) rfl rfl 4 (by decide) e16 rfl (v := .ref (E.2.1 102)) rfl dX9_tell_68 ?_
      refine lv_iload_n hx hb dX9_tell_71 rfl (lv_at hl 3 rfl) ?_
      refine lv_iload_n hx hb dX9_tell_72 rfl (lv_at hl 4 rfl) ?_
      refine rw_iast hx hb hW hS (fun _ => (fl 102 rfl)) h dX9_tell_73 (fun w7 H locs h hW hS => ?_)
      refine lv_iload hx hb dX9_tell_74 (lv_at hl 0 rfl) ?_
      exact rrI hQ hW hS h dX9_tell_76
    · refine lv_aload_n hx hb dX9_tell_57 rfl (lv_at hl 1 rfl) ?_
      refine rw_get hx hb hts iX9 hown hW (fl 99 rfl) rfl rfl 3 (by decide) e13 rfl (v := .ref (E.2.1 101)) rfl dX9_tell_58 ?_
      refine lv_iload_n hx hb dX9_tell_61 rfl (lv_at hl 3 rfl) ?_
      refine lv_iload_n hx hb dX9_tell_62 rfl (lv_at hl 4 rfl) ?_
      refine rw_iast hx hb hW hS (fun _ => (fl 101 rfl)) h dX9_tell_63 (fun w8 H locs h hW hS => ?_)
      refine lv_goto (tgt := 74) hx hb dX9_tell_64 (by decide) ?_
      refine lv_iload hx hb dX9_tell_74 (lv_at hl 0 rfl) ?_
      exact rrI hQ hW hS h dX9_tell_76
  have J32 : ∀  (w : Wd) (H : Heap) (locs : List Loc) (ls : Array Slot), jX9_tell_32 p1 p2 p3 w = some q → World E full w s H → va_S (wA E full) s.heap H locs → lv_has ls 5 [(0, .ref (E.2.1 99)), (1, .int p1), (2, .int p2), (3, .int p3)] → W p l e rmX9_tell s m args below meth c H locs 0 0 Q (F0 m 32 ls []) := by
    intro  w H locs ls h hW hS hl
    unfold jX9_tell_32 at h
    refine lv_iload_n hx hb dX9_tell_32 rfl (lv_at hl 1 rfl) ?_
    refine rb_if_eq (tgt := 45) hx hb h dX9_tell_33 (by decide) (fun h => ?_) (fun h => ?_)
    · refine lv_aload_n hx hb dX9_tell_45 rfl (lv_at hl 0 rfl) ?_
      refine rw_get hx hb hts iX9 hown hW (fl 99 rfl) rfl rfl 4 (by decide) e16 rfl (v := .ref (E.2.1 102)) rfl dX9_tell_46 ?_
      refine lv_iload_n hx hb dX9_tell_49 rfl (lv_at hl 2 rfl) ?_
      refine rw_iald hx hb hW (fun _ => (fl 102 rfl)) h dX9_tell_50 (fun x5 h => ?_)
      exact J51 _ _ _ _ _ h hW hS (hl)
    · refine lv_aload_n hx hb dX9_tell_36 rfl (lv_at hl 0 rfl) ?_
      refine rw_get hx hb hts iX9 hown hW (fl 99 rfl) rfl rfl 3 (by decide) e13 rfl (v := .ref (E.2.1 101)) rfl dX9_tell_37 ?_
      refine lv_iload_n hx hb dX9_tell_40 rfl (lv_at hl 2 rfl) ?_
      refine rw_iald hx hb hW (fun _ => (fl 101 rfl)) h dX9_tell_41 (fun x6 h => ?_)
      refine lv_goto (tgt := 51) hx hb dX9_tell_42 (by decide) ?_
      exact J51 _ _ _ _ _ h hW hS (hl)
  unfold fX9_tell at h
  refine lv_aload_n hx hb dX9_tell_0 rfl (lv_at hl 0 rfl) ?_
  refine lv_iload_n hx hb dX9_tell_1 rfl (lv_at hl 1 rfl) ?_
  refine lv_iload_n hx hb dX9_tell_2 rfl (lv_at hl 2 rfl) ?_
  refine rc_Vi (k := 99) (As := [.int p1, .int p2]) (rest := []) S hW hS h (kX9_isLine l E p1 p2 w) (cwV 2 hts gX9_tell_X9_isLine rfl rfl rfl hdX9_isLine ⟨Nat.le_of_ble_eq_true rfl, Nat.le_of_ble_eq_true rfl⟩) (fl 99 rfl) rfl rfl rfl rfl hl.1 rfl (Nat.le_of_ble_eq_true rfl) ⟨Nat.zero_le _, Nat.zero_le _⟩ dX9_tell_3 (fun x1 w2 H locs h hW hS => ?_)
  refine rb_if_ne (tgt := 11) hx hb h dX9_tell_6 (by decide) (fun h => ?_) (fun h => ?_)
  · refine lv_iload_n hx hb dX9_tell_11 rfl (lv_at hl 3 rfl) ?_
    refine lv_bipush (v := (-9 : Int32)) hx hb dX9_tell_12 (by decide) ?_
    refine rb_icmp_eq (tgt := 32) hx hb h dX9_tell_14 (by decide) (fun h => ?_) (fun h => ?_)
    · exact J32  _ _ _ _ h hW hS (hl)
    · refine lv_iload_n hx hb dX9_tell_17 rfl (lv_at hl 3 rfl) ?_
      refine lv_i2l (v := (p3.toInt64)) hx hb dX9_tell_18 rfl ?_
      refine lv_lconst (v := (0 : Int64)) hx hb dX9_tell_19 (by decide) ?_
      refine lv_ldc2 (own := RX9) (v := (4 : Int64)) hx hb hown (hts _ (by decide +kernel)) dX9_tell_20 ?_
      refine rc_Si (As := [.long (p3.toInt64), .long (0 : Int64), .long (4 : Int64)]) (rest := []) S hW hS h (kX9_in l E (p3.toInt64) (0 : Int64) (4 : Int64) w2) (va_cwS 3 hts gX9_tell_X9_in rfl rfl rfl hdX9_in ⟨Nat.le_of_ble_eq_true rfl, Nat.le_of_ble_eq_true rfl⟩) rfl hl.1 rfl (Nat.le_of_ble_eq_true rfl) ⟨Nat.zero_le _, Nat.zero_le _⟩ dX9_tell_23 (fun x3 w4 H locs h hW hS => ?_)
      refine rb_if_ne (tgt := 32) hx hb h dX9_tell_26 (by decide) (fun h => ?_) (fun h => ?_)
      · exact J32  _ _ _ _ h hW hS (hl)
      · refine lv_bipush (v := (-2 : Int32)) hx hb dX9_tell_29 (by decide) ?_
        exact rrI hQ hW hS h dX9_tell_31
  · refine lv_iconst (v := (-1 : Int32)) hx hb dX9_tell_9 (by decide) ?_
    exact rrI hQ hW hS h dX9_tell_10
noncomputable def jX9_tellTop_29 (p1 : Int32) (p2 : Int32)  (w : Wd) : Option (Int32 × Wd) :=
  (gI w 103 p1).bind fun x5 => (sI w 103 p1 p2).bind fun w6 => some (x5, w6)
noncomputable def fX9_tellTop (p1 : Int32) (p2 : Int32) (w : Wd) : Option (Int32 × Wd) :=
  bnd (fX9_isCell p1 w) fun x1 w2 => if x1 = 0 then some ((-1 : Int32), w2) else if p2 = (-9 : Int32) then jX9_tellTop_29 p1 p2 w2 else bnd (fX9_in (p2.toInt64) (0 : Int64) (1 : Int64) w2) fun x3 w4 => if x3 = 0 then some ((-2 : Int32), w4) else jX9_tellTop_29 p1 p2 w4
abbrev rmX9_tellTop : Room := { frames := 2, cells := 0, slots := 0, locals := 46 }
set_option maxHeartbeats 4000000 in
set_option maxRecDepth 100000 in
theorem kX9_tellTop (l : Launch) (E : Ev) (p1 : Int32) (p2 : Int32) (w : Wd) (q : Int32 × Wd) (h : fX9_tellTop p1 p2 w = some q) : CtI l yX9_tellTop wsX9_tellTop rmX9_tellTop E full [.ref (E.2.1 99), .int p1, .int p2] w q := by
  refine mkI (cc := cX9_tellTop) (maxL := 4) (by decide) rfl (Nat.le_of_ble_eq_true rfl) ?_
  intro p e s m args below meth c Q S hW hQ ls hl
  obtain ⟨hx, hb, hml, hown, hts⟩ := id S
  have hW0 := hW
  have hS : va_S (wA E full) s.heap s.heap [] := va_S.rf
  have hl : lv_has ls 4 [(0, .ref (E.2.1 99)), (1, .int p1), (2, .int p2)] := hl
  have iX9 : ∀ w ∈ wsX90, w ∈ wsX9_tellTop := by decide +kernel
  have e19 := hts (.fieldLink RX9 19 "CubeHeapsModel" "tops" "[I") (by decide +kernel)
  have J29 : ∀  (w : Wd) (H : Heap) (locs : List Loc) (ls : Array Slot), jX9_tellTop_29 p1 p2 w = some q → World E full w s H → va_S (wA E full) s.heap H locs → lv_has ls 4 [(0, .ref (E.2.1 99)), (1, .int p1), (2, .int p2)] → W p l e rmX9_tellTop s m args below meth c H locs 0 0 Q (F0 m 29 ls []) := by
    intro  w H locs ls h hW hS hl
    unfold jX9_tellTop_29 at h
    refine lv_aload_n hx hb dX9_tellTop_29 rfl (lv_at hl 0 rfl) ?_
    refine rw_get hx hb hts iX9 hown hW (fl 99 rfl) rfl rfl 5 (by decide) e19 rfl (v := .ref (E.2.1 103)) rfl dX9_tellTop_30 ?_
    refine lv_iload_n hx hb dX9_tellTop_33 rfl (lv_at hl 1 rfl) ?_
    refine rw_iald hx hb hW (fun _ => (fl 103 rfl)) h dX9_tellTop_34 (fun x5 h => ?_)
    refine lv_istore_n (lv' := [(3, .int x5), (0, .ref (E.2.1 99)), (1, .int p1), (2, .int p2)]) hx hb dX9_tellTop_35 rfl hl (by decide) rfl (fun ls hl => ?_)
    refine lv_aload_n hx hb dX9_tellTop_36 rfl (lv_at hl 1 rfl) ?_
    refine rw_get hx hb hts iX9 hown hW (fl 99 rfl) rfl rfl 5 (by decide) e19 rfl (v := .ref (E.2.1 103)) rfl dX9_tellTop_37 ?_
    refine lv_iload_n hx hb dX9_tellTop_40 rfl (lv_at hl 2 rfl) ?_
    refine lv_iload_n hx hb dX9_tellTop_41 rfl (lv_at hl 3 rfl) ?_
    refine rw_iast hx hb hW hS (fun _ => (fl 103 rfl)) h dX9_tellTop_42 (fun w6 H locs h hW hS => ?_)
    refine lv_iload_n hx hb dX9_tellTop_43 rfl (lv_at hl 0 rfl) ?_
    exact rrI hQ hW hS h dX9_tellTop_44
  unfold fX9_tellTop at h
  refine lv_aload_n hx hb dX9_tellTop_0 rfl (lv_at hl 0 rfl) ?_
  refine lv_iload_n hx hb dX9_tellTop_1 rfl (lv_at hl 1 rfl) ?_
  refine rc_Vi (k := 99) (As := [.int p1]) (rest := []) S hW hS h (kX9_isCell l E p1 w) (cwV 1 hts gX9_tellTop_X9_isCell rfl rfl rfl hdX9_isCell ⟨Nat.le_of_ble_eq_true rfl, Nat.le_of_ble_eq_true rfl⟩) (fl 99 rfl) rfl rfl rfl rfl hl.1 rfl (Nat.le_of_ble_eq_true rfl) ⟨Nat.zero_le _, Nat.zero_le _⟩ dX9_tellTop_2 (fun x1 w2 H locs h hW hS => ?_)
  refine rb_if_ne (tgt := 10) hx hb h dX9_tellTop_5 (by decide) (fun h => ?_) (fun h => ?_)
  · refine lv_iload_n hx hb dX9_tellTop_10 rfl (lv_at hl 2 rfl) ?_
    refine lv_bipush (v := (-9 : Int32)) hx hb dX9_tellTop_11 (by decide) ?_
    refine rb_icmp_eq (tgt := 29) hx hb h dX9_tellTop_13 (by decide) (fun h => ?_) (fun h => ?_)
    · exact J29  _ _ _ _ h hW hS (hl)
    · refine lv_iload_n hx hb dX9_tellTop_16 rfl (lv_at hl 2 rfl) ?_
      refine lv_i2l (v := (p2.toInt64)) hx hb dX9_tellTop_17 rfl ?_
      refine lv_lconst (v := (0 : Int64)) hx hb dX9_tellTop_18 (by decide) ?_
      refine lv_lconst (v := (1 : Int64)) hx hb dX9_tellTop_19 (by decide) ?_
      refine rc_Si (As := [.long (p2.toInt64), .long (0 : Int64), .long (1 : Int64)]) (rest := []) S hW hS h (kX9_in l E (p2.toInt64) (0 : Int64) (1 : Int64) w2) (va_cwS 3 hts gX9_tellTop_X9_in rfl rfl rfl hdX9_in ⟨Nat.le_of_ble_eq_true rfl, Nat.le_of_ble_eq_true rfl⟩) rfl hl.1 rfl (Nat.le_of_ble_eq_true rfl) ⟨Nat.zero_le _, Nat.zero_le _⟩ dX9_tellTop_20 (fun x3 w4 H locs h hW hS => ?_)
      refine rb_if_ne (tgt := 29) hx hb h dX9_tellTop_23 (by decide) (fun h => ?_) (fun h => ?_)
      · exact J29  _ _ _ _ h hW hS (hl)
      · refine lv_bipush (v := (-2 : Int32)) hx hb dX9_tellTop_26 (by decide) ?_
        exact rrI hQ hW hS h dX9_tellTop_28
  · refine lv_iconst (v := (-1 : Int32)) hx hb dX9_tellTop_8 (by decide) ?_
    exact rrI hQ hW hS h dX9_tellTop_9
noncomputable def jX9_tellAs_47 (p1 : Int32) (p2 : Int32) (k14 : Int32 → Int32 → Wd → Option (Int32 × Wd)) (v4 : Int32) (s0 : Int32) (s1 : Int32)  (w : Wd) : Option (Int32 × Wd) :=
  bnd (fX9_greatestOf p1 (1 : Int32) v4 w) fun x9 w10 => (sI w10 101 v4 x9).bind fun w11 => k14 (s1 + s0) (v4 + (1 : Int32)) w11
noncomputable def jX9_tellAs_106 (p1 : Int32) (p2 : Int32) (k73 : Int32 → Int32 → Wd → Option (Int32 × Wd)) (v4 : Int32) (s0 : Int32) (s1 : Int32)  (w : Wd) : Option (Int32 × Wd) :=
  bnd (fX9_greatestOf p1 (0 : Int32) v4 w) fun x15 w16 => (sI w16 102 v4 x15).bind fun w17 => k73 (s1 + s0) (v4 + (1 : Int32)) w17
noncomputable def jX9_tellAs_185 (p1 : Int32) (p2 : Int32) (k132 : Int32 → Int32 → Wd → Option (Int32 × Wd)) (v4 : Int32) (v5 : Int32) (s0 : Int32) (s1 : Int32)  (w : Wd) : Option (Int32 × Wd) :=
  (sI w 103 v4 v5).bind fun w19 => k132 (s1 + s0) (v4 + (1 : Int32)) w19
noncomputable def jX9_tellAs_165 (p1 : Int32) (p2 : Int32) (k132 : Int32 → Int32 → Wd → Option (Int32 × Wd)) (v3 : Int32) (v4 : Int32) (s0 : Int32)  (w : Wd) : Option (Int32 × Wd) :=
  (gI w 103 v4).bind fun x18 => if x18 = s0 then jX9_tellAs_185 p1 p2 k132 v4 s0 (0 : Int32) v3 w else jX9_tellAs_185 p1 p2 k132 v4 s0 (1 : Int32) v3 w
noncomputable def bX9_tellAs_132 (p1 : Int32) (p2 : Int32) (k132 : Int32 → Int32 → Wd → Option (Int32 × Wd)) (v3 : Int32) (v4 : Int32)  (w : Wd) : Option (Int32 × Wd) :=
  bnd (fX9_cells w) fun x12 w13 => if x12 ≤ v4 then some (v3, w13) else if p2 = 0 then some (v3, w13) else (gI w13 100 (((25 : Int32) * p1) + v4)).bind fun x14 => if x14 ≤ 0 then jX9_tellAs_165 p1 p2 k132 v3 v4 (0 : Int32) w13 else jX9_tellAs_165 p1 p2 k132 v3 v4 (1 : Int32) w13
noncomputable def bX9_tellAs_73 (p1 : Int32) (p2 : Int32) (k73 : Int32 → Int32 → Wd → Option (Int32 × Wd)) (v3 : Int32) (v4 : Int32)  (w : Wd) : Option (Int32 × Wd) :=
  if (w.1 99 1) ≤ v4 then lp (fun _ _ _ => none) (bX9_tellAs_132 p1 p2) G v3 (0 : Int32) w else (gI w 102 v4).bind fun x6 => bnd (fX9_greatestOf p1 (0 : Int32) v4 w) fun x7 w8 => if x6 = x7 then jX9_tellAs_106 p1 p2 k73 v4 (0 : Int32) v3 w8 else jX9_tellAs_106 p1 p2 k73 v4 (1 : Int32) v3 w8
noncomputable def bX9_tellAs_14 (p1 : Int32) (p2 : Int32) (k14 : Int32 → Int32 → Wd → Option (Int32 × Wd)) (v3 : Int32) (v4 : Int32)  (w : Wd) : Option (Int32 × Wd) :=
  if (w.1 99 0) ≤ v4 then lp (fun _ _ _ => none) (bX9_tellAs_73 p1 p2) G v3 (0 : Int32) w else (gI w 101 v4).bind fun x3 => bnd (fX9_greatestOf p1 (1 : Int32) v4 w) fun x4 w5 => if x3 = x4 then jX9_tellAs_47 p1 p2 k14 v4 (0 : Int32) v3 w5 else jX9_tellAs_47 p1 p2 k14 v4 (1 : Int32) v3 w5
noncomputable def fX9_tellAs (p1 : Int32) (p2 : Int32) (w : Wd) : Option (Int32 × Wd) :=
  bnd (fX9_isSlot p1 w) fun x1 w2 => if x1 = 0 then some ((-1 : Int32), w2) else lp (fun _ _ _ => none) (bX9_tellAs_14 p1 p2) G (0 : Int32) (0 : Int32) w2
abbrev rmX9_tellAs : Room := { frames := 2, cells := 0, slots := 0, locals := 49 }
set_option maxHeartbeats 4000000 in
set_option maxRecDepth 100000 in
theorem kX9_tellAs (l : Launch) (E : Ev) (p1 : Int32) (p2 : Int32) (w : Wd) (q : Int32 × Wd) (h : fX9_tellAs p1 p2 w = some q) : CtI l yX9_tellAs wsX9_tellAs rmX9_tellAs E full [.ref (E.2.1 99), .int p1, .int p2] w q := by
  refine mkI (cc := cX9_tellAs) (maxL := 6) (by decide) rfl (Nat.le_of_ble_eq_true rfl) ?_
  intro p e s m args below meth c Q S hW hQ ls hl
  obtain ⟨hx, hb, hml, hown, hts⟩ := id S
  have hW0 := hW
  have hS : va_S (wA E full) s.heap s.heap [] := va_S.rf
  have hl : lv_has ls 6 [(0, .ref (E.2.1 99)), (1, .int p1), (2, .int p2)] := hl
  have iX9 : ∀ w ∈ wsX90, w ∈ wsX9_tellAs := by decide +kernel
  have e7 := hts (.fieldLink RX9 7 "CubeHeapsModel" "heap" "[I") (by decide +kernel)
  have e13 := hts (.fieldLink RX9 13 "CubeHeapsModel" "fronts" "[I") (by decide +kernel)
  have e16 := hts (.fieldLink RX9 16 "CubeHeapsModel" "sides" "[I") (by decide +kernel)
  have e19 := hts (.fieldLink RX9 19 "CubeHeapsModel" "tops" "[I") (by decide +kernel)
  have e85 := hts (.fieldLink RX9 85 "CubeHeapsModel" "wide" "I") (by decide +kernel)
  have e88 := hts (.fieldLink RX9 88 "CubeHeapsModel" "tall" "I") (by decide +kernel)
  have J132 : ∀ (n : Nat) (v3 : Int32) (v4 : Int32) (w : Wd) (H : Heap) (locs : List Loc) (ls : Array Slot), lp (fun _ _ _ => none) (bX9_tellAs_132 p1 p2) n v3 v4 w = some q → World E full w s H → va_S (wA E full) s.heap H locs → lv_has ls 6 [(0, .ref (E.2.1 99)), (1, .int p1), (2, .int p2), (3, .int v3), (4, .int v4)] → W p l e rmX9_tellAs s m args below meth c H locs 0 0 Q (F0 m 132 ls []) := by
    intro n
    induction n with
    | zero =>
      intro v3 v4 w H locs ls h hW hS hl
      exact absurd (show (none : Option (Int32 × Wd)) = some q from h) (fun z => by cases z)
    | succ n ih132 =>
      intro v3 v4 w H locs ls h hW hS hl
      have h : bX9_tellAs_132 p1 p2 (lp (fun _ _ _ => none) (bX9_tellAs_132 p1 p2) n) v3 v4 w = some q := h
      generalize lp (fun _ _ _ => none) (bX9_tellAs_132 p1 p2) n = k132 at h ih132
      have J185 : ∀ (v4 : Int32) (v5 : Int32) (s0 : Int32) (s1 : Int32) (w : Wd) (H : Heap) (locs : List Loc) (ls : Array Slot), jX9_tellAs_185 p1 p2 k132 v4 v5 s0 s1 w = some q → World E full w s H → va_S (wA E full) s.heap H locs → lv_has ls 6 [(0, .ref (E.2.1 99)), (1, .int p1), (2, .int p2), (4, .int v4), (5, .int v5)] → W p l e rmX9_tellAs s m args below meth c H locs 0 0 Q (F0 m 185 ls [.int s0, .int s1]) := by
        intro v4 v5 s0 s1 w H locs ls h hW hS hl
        unfold jX9_tellAs_185 at h
        refine lv_iadd hx hb dX9_tellAs_185 ?_
        refine lv_istore_n (lv' := [(3, .int (s1 + s0)), (0, .ref (E.2.1 99)), (1, .int p1), (2, .int p2), (4, .int v4), (5, .int v5)]) hx hb dX9_tellAs_186 rfl hl (by decide) rfl (fun ls hl => ?_)
        refine lv_aload_n hx hb dX9_tellAs_187 rfl (lv_at hl 1 rfl) ?_
        refine rw_get hx hb hts iX9 hown hW (fl 99 rfl) rfl rfl 5 (by decide) e19 rfl (v := .ref (E.2.1 103)) rfl dX9_tellAs_188 ?_
        refine lv_iload hx hb dX9_tellAs_191 (lv_at hl 4 rfl) ?_
        refine lv_iload hx hb dX9_tellAs_193 (lv_at hl 5 rfl) ?_
        refine rw_iast hx hb hW hS (fun _ => (fl 103 rfl)) h dX9_tellAs_195 (fun w19 H locs h hW hS => ?_)
        refine lv_iinc (v := (v4 + (1 : Int32))) (lv' := [(4, .int (v4 + (1 : Int32))), (3, .int (s1 + s0)), (0, .ref (E.2.1 99)), (1, .int p1), (2, .int p2), (5, .int v5)]) hx hb dX9_tellAs_196 hl (k := 4) rfl rfl (by decide) rfl (fun ls hl => ?_)
        refine lv_goto (tgt := 132) hx hb dX9_tellAs_199 (by decide) ?_
        exact ih132 _ _ _ _ _ _ h hW hS (lv_sub hl [2, 3, 4, 1, 0] rfl)
      have J165 : ∀ (v3 : Int32) (v4 : Int32) (s0 : Int32) (w : Wd) (H : Heap) (locs : List Loc) (ls : Array Slot), jX9_tellAs_165 p1 p2 k132 v3 v4 s0 w = some q → World E full w s H → va_S (wA E full) s.heap H locs → lv_has ls 6 [(0, .ref (E.2.1 99)), (1, .int p1), (2, .int p2), (3, .int v3), (4, .int v4)] → W p l e rmX9_tellAs s m args below meth c H locs 0 0 Q (F0 m 165 ls [.int s0]) := by
        intro v3 v4 s0 w H locs ls h hW hS hl
        unfold jX9_tellAs_165 at h
        refine lv_istore (lv' := [(5, .int s0), (0, .ref (E.2.1 99)), (1, .int p1), (2, .int p2), (3, .int v3), (4, .int v4)]) hx hb dX9_tellAs_165 hl (by decide) rfl (fun ls hl => ?_)
        refine lv_iload_n hx hb dX9_tellAs_167 rfl (lv_at hl 4 rfl) ?_
        refine lv_aload_n hx hb dX9_tellAs_168 rfl (lv_at hl 1 rfl) ?_
        refine rw_get hx hb hts iX9 hown hW (fl 99 rfl) rfl rfl 5 (by decide) e19 rfl (v := .ref (E.2.1 103)) rfl dX9_tellAs_169 ?_
        refine lv_iload hx hb dX9_tellAs_172 (lv_at hl 5 rfl) ?_
        refine rw_iald hx hb hW (fun _ => (fl 103 rfl)) h dX9_tellAs_174 (fun x18 h => ?_)
        refine lv_iload hx hb dX9_tellAs_175 (lv_at hl 0 rfl) ?_
        refine rb_icmp_eq (tgt := 184) hx hb h dX9_tellAs_177 (by decide) (fun h => ?_) (fun h => ?_)
        · refine lv_iconst (v := (0 : Int32)) hx hb dX9_tellAs_184 (by decide) ?_
          exact J185 _ _ _ _ _ _ _ _ h hW hS (lv_sub hl [1, 2, 3, 5, 0] rfl)
        · refine lv_iconst (v := (1 : Int32)) hx hb dX9_tellAs_180 (by decide) ?_
          refine lv_goto (tgt := 185) hx hb dX9_tellAs_181 (by decide) ?_
          exact J185 _ _ _ _ _ _ _ _ h hW hS (lv_sub hl [1, 2, 3, 5, 0] rfl)
      unfold bX9_tellAs_132 at h
      refine lv_iload hx hb dX9_tellAs_132 (lv_at hl 4 rfl) ?_
      refine lv_aload_n hx hb dX9_tellAs_134 rfl (lv_at hl 0 rfl) ?_
      refine rc_Vi (k := 99) (As := []) (rest := [.int v4]) S hW hS h (kX9_cells l E  w) (cwV 0 hts gX9_tellAs_X9_cells rfl rfl rfl hdX9_cells ⟨Nat.le_of_ble_eq_true rfl, Nat.le_of_ble_eq_true rfl⟩) (fl 99 rfl) rfl rfl rfl rfl hl.1 rfl (Nat.le_of_ble_eq_true rfl) ⟨Nat.zero_le _, Nat.zero_le _⟩ dX9_tellAs_135 (fun x12 w13 H locs h hW hS => ?_)
      refine rb_icmp_ge (tgt := 202) hx hb h dX9_tellAs_138 (by decide) (fun h => ?_) (fun h => ?_)
      · refine lv_iload_n hx hb dX9_tellAs_202 rfl (lv_at hl 3 rfl) ?_
        exact rrI hQ hW hS h dX9_tellAs_203
      · refine lv_iload_n hx hb dX9_tellAs_141 rfl (lv_at hl 2 rfl) ?_
        refine rb_if_eq (tgt := 202) hx hb h dX9_tellAs_142 (by decide) (fun h => ?_) (fun h => ?_)
        · refine lv_iload_n hx hb dX9_tellAs_202 rfl (lv_at hl 3 rfl) ?_
          exact rrI hQ hW hS h dX9_tellAs_203
        · refine lv_aload_n hx hb dX9_tellAs_145 rfl (lv_at hl 0 rfl) ?_
          refine rw_get hx hb hts iX9 hown hW (fl 99 rfl) rfl rfl 2 (by decide) e7 rfl (v := .ref (E.2.1 100)) rfl dX9_tellAs_146 ?_
          refine lv_bipush (v := (25 : Int32)) hx hb dX9_tellAs_149 (by decide) ?_
          refine lv_iload_n hx hb dX9_tellAs_151 rfl (lv_at hl 1 rfl) ?_
          refine lv_imul hx hb dX9_tellAs_152 ?_
          refine lv_iload hx hb dX9_tellAs_153 (lv_at hl 4 rfl) ?_
          refine lv_iadd hx hb dX9_tellAs_155 ?_
          refine rw_iald hx hb hW (fun _ => (fl 100 rfl)) h dX9_tellAs_156 (fun x14 h => ?_)
          refine rb_if_le (tgt := 164) hx hb h dX9_tellAs_157 (by decide) (fun h => ?_) (fun h => ?_)
          · refine lv_iconst (v := (0 : Int32)) hx hb dX9_tellAs_164 (by decide) ?_
            exact J165 _ _ _ _ _ _ _ h hW hS (hl)
          · refine lv_iconst (v := (1 : Int32)) hx hb dX9_tellAs_160 (by decide) ?_
            refine lv_goto (tgt := 165) hx hb dX9_tellAs_161 (by decide) ?_
            exact J165 _ _ _ _ _ _ _ h hW hS (hl)
  have J73 : ∀ (n : Nat) (v3 : Int32) (v4 : Int32) (w : Wd) (H : Heap) (locs : List Loc) (ls : Array Slot), lp (fun _ _ _ => none) (bX9_tellAs_73 p1 p2) n v3 v4 w = some q → World E full w s H → va_S (wA E full) s.heap H locs → lv_has ls 6 [(0, .ref (E.2.1 99)), (1, .int p1), (2, .int p2), (3, .int v3), (4, .int v4)] → W p l e rmX9_tellAs s m args below meth c H locs 0 0 Q (F0 m 73 ls []) := by
    intro n
    induction n with
    | zero =>
      intro v3 v4 w H locs ls h hW hS hl
      exact absurd (show (none : Option (Int32 × Wd)) = some q from h) (fun z => by cases z)
    | succ n ih73 =>
      intro v3 v4 w H locs ls h hW hS hl
      have h : bX9_tellAs_73 p1 p2 (lp (fun _ _ _ => none) (bX9_tellAs_73 p1 p2) n) v3 v4 w = some q := h
      generalize lp (fun _ _ _ => none) (bX9_tellAs_73 p1 p2) n = k73 at h ih73
      have J106 : ∀ (v4 : Int32) (s0 : Int32) (s1 : Int32) (w : Wd) (H : Heap) (locs : List Loc) (ls : Array Slot), jX9_tellAs_106 p1 p2 k73 v4 s0 s1 w = some q → World E full w s H → va_S (wA E full) s.heap H locs → lv_has ls 6 [(0, .ref (E.2.1 99)), (1, .int p1), (2, .int p2), (4, .int v4)] → W p l e rmX9_tellAs s m args below meth c H locs 0 0 Q (F0 m 106 ls [.int s0, .int s1]) := by
        intro v4 s0 s1 w H locs ls h hW hS hl
        unfold jX9_tellAs_106 at h
        refine lv_iadd hx hb dX9_tellAs_106 ?_
        refine lv_istore_n (lv' := [(3, .int (s1 + s0)), (0, .ref (E.2.1 99)), (1, .int p1), (2, .int p2), (4, .int v4)]) hx hb dX9_tellAs_107 rfl hl (by decide) rfl (fun ls hl => ?_)
        refine lv_aload_n hx hb dX9_tellAs_108 rfl (lv_at hl 1 rfl) ?_
        refine rw_get hx hb hts iX9 hown hW (fl 99 rfl) rfl rfl 4 (by decide) e16 rfl (v := .ref (E.2.1 102)) rfl dX9_tellAs_109 ?_
        refine lv_iload hx hb dX9_tellAs_112 (lv_at hl 4 rfl) ?_
        refine lv_aload_n hx hb dX9_tellAs_114 rfl (lv_at hl 1 rfl) ?_
        refine lv_iload_n hx hb dX9_tellAs_115 rfl (lv_at hl 2 rfl) ?_
        refine lv_iconst (v := (0 : Int32)) hx hb dX9_tellAs_116 (by decide) ?_
        refine lv_iload hx hb dX9_tellAs_117 (lv_at hl 4 rfl) ?_
        refine rc_Vi (k := 99) (As := [.int p1, .int (0 : Int32), .int v4]) (rest := [.int v4, .ref (E.2.1 102)]) S hW hS h (kX9_greatestOf l E p1 (0 : Int32) v4 w) (cwV 3 hts gX9_tellAs_X9_greatestOf rfl rfl rfl hdX9_greatestOf ⟨Nat.le_of_ble_eq_true rfl, Nat.le_of_ble_eq_true rfl⟩) (fl 99 rfl) rfl rfl rfl rfl hl.1 rfl (Nat.le_of_ble_eq_true rfl) ⟨Nat.zero_le _, Nat.zero_le _⟩ dX9_tellAs_119 (fun x15 w16 H locs h hW hS => ?_)
        refine rw_iast hx hb hW hS (fun _ => (fl 102 rfl)) h dX9_tellAs_122 (fun w17 H locs h hW hS => ?_)
        refine lv_iinc (v := (v4 + (1 : Int32))) (lv' := [(4, .int (v4 + (1 : Int32))), (3, .int (s1 + s0)), (0, .ref (E.2.1 99)), (1, .int p1), (2, .int p2)]) hx hb dX9_tellAs_123 hl (k := 4) rfl rfl (by decide) rfl (fun ls hl => ?_)
        refine lv_goto (tgt := 73) hx hb dX9_tellAs_126 (by decide) ?_
        exact ih73 _ _ _ _ _ _ h hW hS (lv_sub hl [2, 3, 4, 1, 0] rfl)
      unfold bX9_tellAs_73 at h
      refine lv_iload hx hb dX9_tellAs_73 (lv_at hl 4 rfl) ?_
      refine lv_aload_n hx hb dX9_tellAs_75 rfl (lv_at hl 0 rfl) ?_
      refine rw_get hx hb hts iX9 hown hW (fl 99 rfl) rfl rfl 1 (by decide) e88 rfl (v := .int (w.1 99 1)) rfl dX9_tellAs_76 ?_
      refine rb_icmp_ge (tgt := 129) hx hb h dX9_tellAs_79 (by decide) (fun h => ?_) (fun h => ?_)
      · refine lv_iconst (v := (0 : Int32)) hx hb dX9_tellAs_129 (by decide) ?_
        refine lv_istore (lv' := [(4, .int (0 : Int32)), (0, .ref (E.2.1 99)), (1, .int p1), (2, .int p2), (3, .int v3)]) hx hb dX9_tellAs_130 hl (by decide) rfl (fun ls hl => ?_)
        exact J132 _ _ _ _ _ _ _ h hW hS (lv_sub hl [1, 2, 3, 4, 0] rfl)
      · refine lv_iload_n hx hb dX9_tellAs_82 rfl (lv_at hl 3 rfl) ?_
        refine lv_aload_n hx hb dX9_tellAs_83 rfl (lv_at hl 0 rfl) ?_
        refine rw_get hx hb hts iX9 hown hW (fl 99 rfl) rfl rfl 4 (by decide) e16 rfl (v := .ref (E.2.1 102)) rfl dX9_tellAs_84 ?_
        refine lv_iload hx hb dX9_tellAs_87 (lv_at hl 4 rfl) ?_
        refine rw_iald hx hb hW (fun _ => (fl 102 rfl)) h dX9_tellAs_89 (fun x6 h => ?_)
        refine lv_aload_n hx hb dX9_tellAs_90 rfl (lv_at hl 0 rfl) ?_
        refine lv_iload_n hx hb dX9_tellAs_91 rfl (lv_at hl 1 rfl) ?_
        refine lv_iconst (v := (0 : Int32)) hx hb dX9_tellAs_92 (by decide) ?_
        refine lv_iload hx hb dX9_tellAs_93 (lv_at hl 4 rfl) ?_
        refine rc_Vi (k := 99) (As := [.int p1, .int (0 : Int32), .int v4]) (rest := [.int x6, .int v3]) S hW hS h (kX9_greatestOf l E p1 (0 : Int32) v4 w) (cwV 3 hts gX9_tellAs_X9_greatestOf rfl rfl rfl hdX9_greatestOf ⟨Nat.le_of_ble_eq_true rfl, Nat.le_of_ble_eq_true rfl⟩) (fl 99 rfl) rfl rfl rfl rfl hl.1 rfl (Nat.le_of_ble_eq_true rfl) ⟨Nat.zero_le _, Nat.zero_le _⟩ dX9_tellAs_95 (fun x7 w8 H locs h hW hS => ?_)
        refine rb_icmp_eq (tgt := 105) hx hb h dX9_tellAs_98 (by decide) (fun h => ?_) (fun h => ?_)
        · refine lv_iconst (v := (0 : Int32)) hx hb dX9_tellAs_105 (by decide) ?_
          exact J106 _ _ _ _ _ _ _ h hW hS (lv_sub hl [0, 1, 2, 4] rfl)
        · refine lv_iconst (v := (1 : Int32)) hx hb dX9_tellAs_101 (by decide) ?_
          refine lv_goto (tgt := 106) hx hb dX9_tellAs_102 (by decide) ?_
          exact J106 _ _ _ _ _ _ _ h hW hS (lv_sub hl [0, 1, 2, 4] rfl)
  have J14 : ∀ (n : Nat) (v3 : Int32) (v4 : Int32) (w : Wd) (H : Heap) (locs : List Loc) (ls : Array Slot), lp (fun _ _ _ => none) (bX9_tellAs_14 p1 p2) n v3 v4 w = some q → World E full w s H → va_S (wA E full) s.heap H locs → lv_has ls 6 [(0, .ref (E.2.1 99)), (1, .int p1), (2, .int p2), (3, .int v3), (4, .int v4)] → W p l e rmX9_tellAs s m args below meth c H locs 0 0 Q (F0 m 14 ls []) := by
    intro n
    induction n with
    | zero =>
      intro v3 v4 w H locs ls h hW hS hl
      exact absurd (show (none : Option (Int32 × Wd)) = some q from h) (fun z => by cases z)
    | succ n ih14 =>
      intro v3 v4 w H locs ls h hW hS hl
      have h : bX9_tellAs_14 p1 p2 (lp (fun _ _ _ => none) (bX9_tellAs_14 p1 p2) n) v3 v4 w = some q := h
      generalize lp (fun _ _ _ => none) (bX9_tellAs_14 p1 p2) n = k14 at h ih14
      have J47 : ∀ (v4 : Int32) (s0 : Int32) (s1 : Int32) (w : Wd) (H : Heap) (locs : List Loc) (ls : Array Slot), jX9_tellAs_47 p1 p2 k14 v4 s0 s1 w = some q → World E full w s H → va_S (wA E full) s.heap H locs → lv_has ls 6 [(0, .ref (E.2.1 99)), (1, .int p1), (2, .int p2), (4, .int v4)] → W p l e rmX9_tellAs s m args below meth c H locs 0 0 Q (F0 m 47 ls [.int s0, .int s1]) := by
        intro v4 s0 s1 w H locs ls h hW hS hl
        unfold jX9_tellAs_47 at h
        refine lv_iadd hx hb dX9_tellAs_47 ?_
        refine lv_istore_n (lv' := [(3, .int (s1 + s0)), (0, .ref (E.2.1 99)), (1, .int p1), (2, .int p2), (4, .int v4)]) hx hb dX9_tellAs_48 rfl hl (by decide) rfl (fun ls hl => ?_)
        refine lv_aload_n hx hb dX9_tellAs_49 rfl (lv_at hl 1 rfl) ?_
        refine rw_get hx hb hts iX9 hown hW (fl 99 rfl) rfl rfl 3 (by decide) e13 rfl (v := .ref (E.2.1 101)) rfl dX9_tellAs_50 ?_
        refine lv_iload hx hb dX9_tellAs_53 (lv_at hl 4 rfl) ?_
        refine lv_aload_n hx hb dX9_tellAs_55 rfl (lv_at hl 1 rfl) ?_
        refine lv_iload_n hx hb dX9_tellAs_56 rfl (lv_at hl 2 rfl) ?_
        refine lv_iconst (v := (1 : Int32)) hx hb dX9_tellAs_57 (by decide) ?_
        refine lv_iload hx hb dX9_tellAs_58 (lv_at hl 4 rfl) ?_
        refine rc_Vi (k := 99) (As := [.int p1, .int (1 : Int32), .int v4]) (rest := [.int v4, .ref (E.2.1 101)]) S hW hS h (kX9_greatestOf l E p1 (1 : Int32) v4 w) (cwV 3 hts gX9_tellAs_X9_greatestOf rfl rfl rfl hdX9_greatestOf ⟨Nat.le_of_ble_eq_true rfl, Nat.le_of_ble_eq_true rfl⟩) (fl 99 rfl) rfl rfl rfl rfl hl.1 rfl (Nat.le_of_ble_eq_true rfl) ⟨Nat.zero_le _, Nat.zero_le _⟩ dX9_tellAs_60 (fun x9 w10 H locs h hW hS => ?_)
        refine rw_iast hx hb hW hS (fun _ => (fl 101 rfl)) h dX9_tellAs_63 (fun w11 H locs h hW hS => ?_)
        refine lv_iinc (v := (v4 + (1 : Int32))) (lv' := [(4, .int (v4 + (1 : Int32))), (3, .int (s1 + s0)), (0, .ref (E.2.1 99)), (1, .int p1), (2, .int p2)]) hx hb dX9_tellAs_64 hl (k := 4) rfl rfl (by decide) rfl (fun ls hl => ?_)
        refine lv_goto (tgt := 14) hx hb dX9_tellAs_67 (by decide) ?_
        exact ih14 _ _ _ _ _ _ h hW hS (lv_sub hl [2, 3, 4, 1, 0] rfl)
      unfold bX9_tellAs_14 at h
      refine lv_iload hx hb dX9_tellAs_14 (lv_at hl 4 rfl) ?_
      refine lv_aload_n hx hb dX9_tellAs_16 rfl (lv_at hl 0 rfl) ?_
      refine rw_get hx hb hts iX9 hown hW (fl 99 rfl) rfl rfl 0 (by decide) e85 rfl (v := .int (w.1 99 0)) rfl dX9_tellAs_17 ?_
      refine rb_icmp_ge (tgt := 70) hx hb h dX9_tellAs_20 (by decide) (fun h => ?_) (fun h => ?_)
      · refine lv_iconst (v := (0 : Int32)) hx hb dX9_tellAs_70 (by decide) ?_
        refine lv_istore (lv' := [(4, .int (0 : Int32)), (0, .ref (E.2.1 99)), (1, .int p1), (2, .int p2), (3, .int v3)]) hx hb dX9_tellAs_71 hl (by decide) rfl (fun ls hl => ?_)
        exact J73 _ _ _ _ _ _ _ h hW hS (lv_sub hl [1, 2, 3, 4, 0] rfl)
      · refine lv_iload_n hx hb dX9_tellAs_23 rfl (lv_at hl 3 rfl) ?_
        refine lv_aload_n hx hb dX9_tellAs_24 rfl (lv_at hl 0 rfl) ?_
        refine rw_get hx hb hts iX9 hown hW (fl 99 rfl) rfl rfl 3 (by decide) e13 rfl (v := .ref (E.2.1 101)) rfl dX9_tellAs_25 ?_
        refine lv_iload hx hb dX9_tellAs_28 (lv_at hl 4 rfl) ?_
        refine rw_iald hx hb hW (fun _ => (fl 101 rfl)) h dX9_tellAs_30 (fun x3 h => ?_)
        refine lv_aload_n hx hb dX9_tellAs_31 rfl (lv_at hl 0 rfl) ?_
        refine lv_iload_n hx hb dX9_tellAs_32 rfl (lv_at hl 1 rfl) ?_
        refine lv_iconst (v := (1 : Int32)) hx hb dX9_tellAs_33 (by decide) ?_
        refine lv_iload hx hb dX9_tellAs_34 (lv_at hl 4 rfl) ?_
        refine rc_Vi (k := 99) (As := [.int p1, .int (1 : Int32), .int v4]) (rest := [.int x3, .int v3]) S hW hS h (kX9_greatestOf l E p1 (1 : Int32) v4 w) (cwV 3 hts gX9_tellAs_X9_greatestOf rfl rfl rfl hdX9_greatestOf ⟨Nat.le_of_ble_eq_true rfl, Nat.le_of_ble_eq_true rfl⟩) (fl 99 rfl) rfl rfl rfl rfl hl.1 rfl (Nat.le_of_ble_eq_true rfl) ⟨Nat.zero_le _, Nat.zero_le _⟩ dX9_tellAs_36 (fun x4 w5 H locs h hW hS => ?_)
        refine rb_icmp_eq (tgt := 46) hx hb h dX9_tellAs_39 (by decide) (fun h => ?_) (fun h => ?_)
        · refine lv_iconst (v := (0 : Int32)) hx hb dX9_tellAs_46 (by decide) ?_
          exact J47 _ _ _ _ _ _ _ h hW hS (lv_sub hl [0, 1, 2, 4] rfl)
        · refine lv_iconst (v := (1 : Int32)) hx hb dX9_tellAs_42 (by decide) ?_
          refine lv_goto (tgt := 47) hx hb dX9_tellAs_43 (by decide) ?_
          exact J47 _ _ _ _ _ _ _ h hW hS (lv_sub hl [0, 1, 2, 4] rfl)
  unfold fX9_tellAs at h
  refine lv_iload_n hx hb dX9_tellAs_0 rfl (lv_at hl 1 rfl) ?_
  refine rc_Si (As := [.int p1]) (rest := []) S hW hS h (kX9_isSlot l E p1 w) (va_cwS 1 hts gX9_tellAs_X9_isSlot rfl rfl rfl hdX9_isSlot ⟨Nat.le_of_ble_eq_true rfl, Nat.le_of_ble_eq_true rfl⟩) rfl hl.1 rfl (Nat.le_of_ble_eq_true rfl) ⟨Nat.zero_le _, Nat.zero_le _⟩ dX9_tellAs_1 (fun x1 w2 H locs h hW hS => ?_)
  refine rb_if_ne (tgt := 9) hx hb h dX9_tellAs_4 (by decide) (fun h => ?_) (fun h => ?_)
  · refine lv_iconst (v := (0 : Int32)) hx hb dX9_tellAs_9 (by decide) ?_
    refine lv_istore_n (lv' := [(3, .int (0 : Int32)), (0, .ref (E.2.1 99)), (1, .int p1), (2, .int p2)]) hx hb dX9_tellAs_10 rfl hl (by decide) rfl (fun ls hl => ?_)
    refine lv_iconst (v := (0 : Int32)) hx hb dX9_tellAs_11 (by decide) ?_
    refine lv_istore (lv' := [(4, .int (0 : Int32)), (3, .int (0 : Int32)), (0, .ref (E.2.1 99)), (1, .int p1), (2, .int p2)]) hx hb dX9_tellAs_12 hl (by decide) rfl (fun ls hl => ?_)
    exact J14 _ _ _ _ _ _ _ h hW hS (lv_sub hl [2, 3, 4, 1, 0] rfl)
  · refine lv_iconst (v := (-1 : Int32)) hx hb dX9_tellAs_7 (by decide) ?_
    exact rrI hQ hW hS h dX9_tellAs_8
noncomputable def jX9_isFit_48 (p1 : Int32) (k4 : Int32 → Int32 → Wd → Option (Int32 × Wd)) (v3 : Int32) (s0 : Int32)  (w : Wd) : Option (Int32 × Wd) :=
  k4 s0 (v3 + (1 : Int32)) w
noncomputable def jX9_isFit_47 (p1 : Int32) (k4 : Int32 → Int32 → Wd → Option (Int32 × Wd)) (v3 : Int32)  (w : Wd) : Option (Int32 × Wd) :=
  jX9_isFit_48 p1 k4 v3 (0 : Int32) w
noncomputable def jX9_isFit_43 (p1 : Int32) (k4 : Int32 → Int32 → Wd → Option (Int32 × Wd)) (v3 : Int32)  (w : Wd) : Option (Int32 × Wd) :=
  jX9_isFit_48 p1 k4 v3 (1 : Int32) w
noncomputable def jX9_isFit_101 (p1 : Int32) (k57 : Int32 → Int32 → Wd → Option (Int32 × Wd)) (v3 : Int32) (s0 : Int32)  (w : Wd) : Option (Int32 × Wd) :=
  k57 s0 (v3 + (1 : Int32)) w
noncomputable def jX9_isFit_100 (p1 : Int32) (k57 : Int32 → Int32 → Wd → Option (Int32 × Wd)) (v3 : Int32)  (w : Wd) : Option (Int32 × Wd) :=
  jX9_isFit_101 p1 k57 v3 (0 : Int32) w
noncomputable def jX9_isFit_96 (p1 : Int32) (k57 : Int32 → Int32 → Wd → Option (Int32 × Wd)) (v3 : Int32)  (w : Wd) : Option (Int32 × Wd) :=
  jX9_isFit_101 p1 k57 v3 (1 : Int32) w
noncomputable def jX9_isFit_166 (p1 : Int32) (k110 : Int32 → Int32 → Wd → Option (Int32 × Wd)) (v3 : Int32) (s0 : Int32)  (w : Wd) : Option (Int32 × Wd) :=
  k110 s0 (v3 + (1 : Int32)) w
noncomputable def jX9_isFit_165 (p1 : Int32) (k110 : Int32 → Int32 → Wd → Option (Int32 × Wd)) (v3 : Int32)  (w : Wd) : Option (Int32 × Wd) :=
  jX9_isFit_166 p1 k110 v3 (0 : Int32) w
noncomputable def jX9_isFit_161 (p1 : Int32) (k110 : Int32 → Int32 → Wd → Option (Int32 × Wd)) (v3 : Int32)  (w : Wd) : Option (Int32 × Wd) :=
  jX9_isFit_166 p1 k110 v3 (1 : Int32) w
noncomputable def jX9_isFit_158 (p1 : Int32) (k110 : Int32 → Int32 → Wd → Option (Int32 × Wd)) (v3 : Int32) (s0 : Int32) (s1 : Int32)  (w : Wd) : Option (Int32 × Wd) :=
  if s1 = s0 then jX9_isFit_161 p1 k110 v3 w else jX9_isFit_165 p1 k110 v3 w
noncomputable def bX9_isFit_110 (p1 : Int32) (k110 : Int32 → Int32 → Wd → Option (Int32 × Wd)) (v2 : Int32) (v3 : Int32)  (w : Wd) : Option (Int32 × Wd) :=
  bnd (fX9_cells w) fun x9 w10 => if x9 ≤ v3 then zr v2 w10 else if v2 = 0 then jX9_isFit_165 p1 k110 v3 w10 else (gI w10 103 v3).bind fun x11 => if x11 = (-9 : Int32) then jX9_isFit_161 p1 k110 v3 w10 else (gI w10 103 v3).bind fun x12 => (gI w10 100 (((25 : Int32) * p1) + v3)).bind fun x13 => if x13 ≤ 0 then jX9_isFit_158 p1 k110 v3 (0 : Int32) x12 w10 else jX9_isFit_158 p1 k110 v3 (1 : Int32) x12 w10
noncomputable def bX9_isFit_57 (p1 : Int32) (k57 : Int32 → Int32 → Wd → Option (Int32 × Wd)) (v2 : Int32) (v3 : Int32)  (w : Wd) : Option (Int32 × Wd) :=
  if (w.1 99 1) ≤ v3 then lp (fun _ _ _ => none) (bX9_isFit_110 p1) G v2 (0 : Int32) w else if v2 = 0 then jX9_isFit_100 p1 k57 v3 w else (gI w 102 v3).bind fun x5 => if x5 = (-9 : Int32) then jX9_isFit_96 p1 k57 v3 w else (gI w 102 v3).bind fun x6 => bnd (fX9_greatestOf p1 (0 : Int32) v3 w) fun x7 w8 => if x6 = x7 then jX9_isFit_96 p1 k57 v3 w8 else jX9_isFit_100 p1 k57 v3 w8
noncomputable def bX9_isFit_4 (p1 : Int32) (k4 : Int32 → Int32 → Wd → Option (Int32 × Wd)) (v2 : Int32) (v3 : Int32)  (w : Wd) : Option (Int32 × Wd) :=
  if (w.1 99 0) ≤ v3 then lp (fun _ _ _ => none) (bX9_isFit_57 p1) G v2 (0 : Int32) w else if v2 = 0 then jX9_isFit_47 p1 k4 v3 w else (gI w 101 v3).bind fun x1 => if x1 = (-9 : Int32) then jX9_isFit_43 p1 k4 v3 w else (gI w 101 v3).bind fun x2 => bnd (fX9_greatestOf p1 (1 : Int32) v3 w) fun x3 w4 => if x2 = x3 then jX9_isFit_43 p1 k4 v3 w4 else jX9_isFit_47 p1 k4 v3 w4
noncomputable def fX9_isFit (p1 : Int32) (w : Wd) : Option (Int32 × Wd) :=
  lp (fun _ _ _ => none) (bX9_isFit_4 p1) G (1 : Int32) (0 : Int32) w
abbrev rmX9_isFit : Room := { frames := 2, cells := 0, slots := 0, locals := 49 }
set_option maxHeartbeats 4000000 in
set_option maxRecDepth 100000 in
theorem kX9_isFit (l : Launch) (E : Ev) (p1 : Int32) (w : Wd) (q : Int32 × Wd) (h : fX9_isFit p1 w = some q) : CtI l yX9_isFit wsX9_isFit rmX9_isFit E full [.ref (E.2.1 99), .int p1] w q := by
  refine mkZ (cc := cX9_isFit) (maxL := 4) (by decide) rfl (Nat.le_of_ble_eq_true rfl) ?_
  intro p e s m args below meth c Q S hW hQ ls hl
  obtain ⟨hx, hb, hml, hown, hts⟩ := id S
  have hW0 := hW
  have hS : va_S (wA E full) s.heap s.heap [] := va_S.rf
  have hl : lv_has ls 4 [(0, .ref (E.2.1 99)), (1, .int p1)] := hl
  have iX9 : ∀ w ∈ wsX90, w ∈ wsX9_isFit := by decide +kernel
  have e7 := hts (.fieldLink RX9 7 "CubeHeapsModel" "heap" "[I") (by decide +kernel)
  have e13 := hts (.fieldLink RX9 13 "CubeHeapsModel" "fronts" "[I") (by decide +kernel)
  have e16 := hts (.fieldLink RX9 16 "CubeHeapsModel" "sides" "[I") (by decide +kernel)
  have e19 := hts (.fieldLink RX9 19 "CubeHeapsModel" "tops" "[I") (by decide +kernel)
  have e85 := hts (.fieldLink RX9 85 "CubeHeapsModel" "wide" "I") (by decide +kernel)
  have e88 := hts (.fieldLink RX9 88 "CubeHeapsModel" "tall" "I") (by decide +kernel)
  have J110 : ∀ (n : Nat) (v2 : Int32) (v3 : Int32) (w : Wd) (H : Heap) (locs : List Loc) (ls : Array Slot), lp (fun _ _ _ => none) (bX9_isFit_110 p1) n v2 v3 w = some q → World E full w s H → va_S (wA E full) s.heap H locs → lv_has ls 4 [(0, .ref (E.2.1 99)), (1, .int p1), (2, .int v2), (3, .int v3)] → W p l e rmX9_isFit s m args below meth c H locs 0 0 Q (F0 m 110 ls []) := by
    intro n
    induction n with
    | zero =>
      intro v2 v3 w H locs ls h hW hS hl
      exact absurd (show (none : Option (Int32 × Wd)) = some q from h) (fun z => by cases z)
    | succ n ih110 =>
      intro v2 v3 w H locs ls h hW hS hl
      have h : bX9_isFit_110 p1 (lp (fun _ _ _ => none) (bX9_isFit_110 p1) n) v2 v3 w = some q := h
      generalize lp (fun _ _ _ => none) (bX9_isFit_110 p1) n = k110 at h ih110
      have J166 : ∀ (v3 : Int32) (s0 : Int32) (w : Wd) (H : Heap) (locs : List Loc) (ls : Array Slot), jX9_isFit_166 p1 k110 v3 s0 w = some q → World E full w s H → va_S (wA E full) s.heap H locs → lv_has ls 4 [(0, .ref (E.2.1 99)), (1, .int p1), (3, .int v3)] → W p l e rmX9_isFit s m args below meth c H locs 0 0 Q (F0 m 166 ls [.int s0]) := by
        intro v3 s0 w H locs ls h hW hS hl
        unfold jX9_isFit_166 at h
        refine lv_istore_n (lv' := [(2, .int s0), (0, .ref (E.2.1 99)), (1, .int p1), (3, .int v3)]) hx hb dX9_isFit_166 rfl hl (by decide) rfl (fun ls hl => ?_)
        refine lv_iinc (v := (v3 + (1 : Int32))) (lv' := [(3, .int (v3 + (1 : Int32))), (2, .int s0), (0, .ref (E.2.1 99)), (1, .int p1)]) hx hb dX9_isFit_167 hl (k := 3) rfl rfl (by decide) rfl (fun ls hl => ?_)
        refine lv_goto (tgt := 110) hx hb dX9_isFit_170 (by decide) ?_
        exact ih110 _ _ _ _ _ _ h hW hS (lv_sub hl [2, 3, 1, 0] rfl)
      have J165 : ∀ (v3 : Int32) (w : Wd) (H : Heap) (locs : List Loc) (ls : Array Slot), jX9_isFit_165 p1 k110 v3 w = some q → World E full w s H → va_S (wA E full) s.heap H locs → lv_has ls 4 [(0, .ref (E.2.1 99)), (1, .int p1), (3, .int v3)] → W p l e rmX9_isFit s m args below meth c H locs 0 0 Q (F0 m 165 ls []) := by
        intro v3 w H locs ls h hW hS hl
        unfold jX9_isFit_165 at h
        refine lv_iconst (v := (0 : Int32)) hx hb dX9_isFit_165 (by decide) ?_
        exact J166 _ _ _ _ _ _ h hW hS (hl)
      have J161 : ∀ (v3 : Int32) (w : Wd) (H : Heap) (locs : List Loc) (ls : Array Slot), jX9_isFit_161 p1 k110 v3 w = some q → World E full w s H → va_S (wA E full) s.heap H locs → lv_has ls 4 [(0, .ref (E.2.1 99)), (1, .int p1), (3, .int v3)] → W p l e rmX9_isFit s m args below meth c H locs 0 0 Q (F0 m 161 ls []) := by
        intro v3 w H locs ls h hW hS hl
        unfold jX9_isFit_161 at h
        refine lv_iconst (v := (1 : Int32)) hx hb dX9_isFit_161 (by decide) ?_
        refine lv_goto (tgt := 166) hx hb dX9_isFit_162 (by decide) ?_
        exact J166 _ _ _ _ _ _ h hW hS (hl)
      have J158 : ∀ (v3 : Int32) (s0 : Int32) (s1 : Int32) (w : Wd) (H : Heap) (locs : List Loc) (ls : Array Slot), jX9_isFit_158 p1 k110 v3 s0 s1 w = some q → World E full w s H → va_S (wA E full) s.heap H locs → lv_has ls 4 [(0, .ref (E.2.1 99)), (1, .int p1), (3, .int v3)] → W p l e rmX9_isFit s m args below meth c H locs 0 0 Q (F0 m 158 ls [.int s0, .int s1]) := by
        intro v3 s0 s1 w H locs ls h hW hS hl
        unfold jX9_isFit_158 at h
        refine rb_icmp_ne (tgt := 165) hx hb h dX9_isFit_158 (by decide) (fun h => ?_) (fun h => ?_)
        · exact J165 _ _ _ _ _ h hW hS (hl)
        · exact J161 _ _ _ _ _ h hW hS (hl)
      unfold bX9_isFit_110 at h
      refine lv_iload_n hx hb dX9_isFit_110 rfl (lv_at hl 3 rfl) ?_
      refine lv_aload_n hx hb dX9_isFit_111 rfl (lv_at hl 0 rfl) ?_
      refine rc_Vi (k := 99) (As := []) (rest := [.int v3]) S hW hS h (kX9_cells l E  w) (cwV 0 hts gX9_isFit_X9_cells rfl rfl rfl hdX9_cells ⟨Nat.le_of_ble_eq_true rfl, Nat.le_of_ble_eq_true rfl⟩) (fl 99 rfl) rfl rfl rfl rfl hl.1 rfl (Nat.le_of_ble_eq_true rfl) ⟨Nat.zero_le _, Nat.zero_le _⟩ dX9_isFit_112 (fun x9 w10 H locs h hW hS => ?_)
      refine rb_icmp_ge (tgt := 173) hx hb h dX9_isFit_115 (by decide) (fun h => ?_) (fun h => ?_)
      · refine lv_iload_n hx hb dX9_isFit_173 rfl (lv_at hl 2 rfl) ?_
        exact rrZ hQ hW hS h dX9_isFit_174
      · refine lv_iload_n hx hb dX9_isFit_118 rfl (lv_at hl 2 rfl) ?_
        refine rb_if_eq (tgt := 165) hx hb h dX9_isFit_119 (by decide) (fun h => ?_) (fun h => ?_)
        · exact J165 _ _ _ _ _ h hW hS (lv_sub hl [0, 1, 3] rfl)
        · refine lv_aload_n hx hb dX9_isFit_122 rfl (lv_at hl 0 rfl) ?_
          refine rw_get hx hb hts iX9 hown hW (fl 99 rfl) rfl rfl 5 (by decide) e19 rfl (v := .ref (E.2.1 103)) rfl dX9_isFit_123 ?_
          refine lv_iload_n hx hb dX9_isFit_126 rfl (lv_at hl 3 rfl) ?_
          refine rw_iald hx hb hW (fun _ => (fl 103 rfl)) h dX9_isFit_127 (fun x11 h => ?_)
          refine lv_bipush (v := (-9 : Int32)) hx hb dX9_isFit_128 (by decide) ?_
          refine rb_icmp_eq (tgt := 161) hx hb h dX9_isFit_130 (by decide) (fun h => ?_) (fun h => ?_)
          · exact J161 _ _ _ _ _ h hW hS (lv_sub hl [0, 1, 3] rfl)
          · refine lv_aload_n hx hb dX9_isFit_133 rfl (lv_at hl 0 rfl) ?_
            refine rw_get hx hb hts iX9 hown hW (fl 99 rfl) rfl rfl 5 (by decide) e19 rfl (v := .ref (E.2.1 103)) rfl dX9_isFit_134 ?_
            refine lv_iload_n hx hb dX9_isFit_137 rfl (lv_at hl 3 rfl) ?_
            refine rw_iald hx hb hW (fun _ => (fl 103 rfl)) h dX9_isFit_138 (fun x12 h => ?_)
            refine lv_aload_n hx hb dX9_isFit_139 rfl (lv_at hl 0 rfl) ?_
            refine rw_get hx hb hts iX9 hown hW (fl 99 rfl) rfl rfl 2 (by decide) e7 rfl (v := .ref (E.2.1 100)) rfl dX9_isFit_140 ?_
            refine lv_bipush (v := (25 : Int32)) hx hb dX9_isFit_143 (by decide) ?_
            refine lv_iload_n hx hb dX9_isFit_145 rfl (lv_at hl 1 rfl) ?_
            refine lv_imul hx hb dX9_isFit_146 ?_
            refine lv_iload_n hx hb dX9_isFit_147 rfl (lv_at hl 3 rfl) ?_
            refine lv_iadd hx hb dX9_isFit_148 ?_
            refine rw_iald hx hb hW (fun _ => (fl 100 rfl)) h dX9_isFit_149 (fun x13 h => ?_)
            refine rb_if_le (tgt := 157) hx hb h dX9_isFit_150 (by decide) (fun h => ?_) (fun h => ?_)
            · refine lv_iconst (v := (0 : Int32)) hx hb dX9_isFit_157 (by decide) ?_
              exact J158 _ _ _ _ _ _ _ h hW hS (lv_sub hl [0, 1, 3] rfl)
            · refine lv_iconst (v := (1 : Int32)) hx hb dX9_isFit_153 (by decide) ?_
              refine lv_goto (tgt := 158) hx hb dX9_isFit_154 (by decide) ?_
              exact J158 _ _ _ _ _ _ _ h hW hS (lv_sub hl [0, 1, 3] rfl)
  have J57 : ∀ (n : Nat) (v2 : Int32) (v3 : Int32) (w : Wd) (H : Heap) (locs : List Loc) (ls : Array Slot), lp (fun _ _ _ => none) (bX9_isFit_57 p1) n v2 v3 w = some q → World E full w s H → va_S (wA E full) s.heap H locs → lv_has ls 4 [(0, .ref (E.2.1 99)), (1, .int p1), (2, .int v2), (3, .int v3)] → W p l e rmX9_isFit s m args below meth c H locs 0 0 Q (F0 m 57 ls []) := by
    intro n
    induction n with
    | zero =>
      intro v2 v3 w H locs ls h hW hS hl
      exact absurd (show (none : Option (Int32 × Wd)) = some q from h) (fun z => by cases z)
    | succ n ih57 =>
      intro v2 v3 w H locs ls h hW hS hl
      have h : bX9_isFit_57 p1 (lp (fun _ _ _ => none) (bX9_isFit_57 p1) n) v2 v3 w = some q := h
      generalize lp (fun _ _ _ => none) (bX9_isFit_57 p1) n = k57 at h ih57
      have J101 : ∀ (v3 : Int32) (s0 : Int32) (w : Wd) (H : Heap) (locs : List Loc) (ls : Array Slot), jX9_isFit_101 p1 k57 v3 s0 w = some q → World E full w s H → va_S (wA E full) s.heap H locs → lv_has ls 4 [(0, .ref (E.2.1 99)), (1, .int p1), (3, .int v3)] → W p l e rmX9_isFit s m args below meth c H locs 0 0 Q (F0 m 101 ls [.int s0]) := by
        intro v3 s0 w H locs ls h hW hS hl
        unfold jX9_isFit_101 at h
        refine lv_istore_n (lv' := [(2, .int s0), (0, .ref (E.2.1 99)), (1, .int p1), (3, .int v3)]) hx hb dX9_isFit_101 rfl hl (by decide) rfl (fun ls hl => ?_)
        refine lv_iinc (v := (v3 + (1 : Int32))) (lv' := [(3, .int (v3 + (1 : Int32))), (2, .int s0), (0, .ref (E.2.1 99)), (1, .int p1)]) hx hb dX9_isFit_102 hl (k := 3) rfl rfl (by decide) rfl (fun ls hl => ?_)
        refine lv_goto (tgt := 57) hx hb dX9_isFit_105 (by decide) ?_
        exact ih57 _ _ _ _ _ _ h hW hS (lv_sub hl [2, 3, 1, 0] rfl)
      have J100 : ∀ (v3 : Int32) (w : Wd) (H : Heap) (locs : List Loc) (ls : Array Slot), jX9_isFit_100 p1 k57 v3 w = some q → World E full w s H → va_S (wA E full) s.heap H locs → lv_has ls 4 [(0, .ref (E.2.1 99)), (1, .int p1), (3, .int v3)] → W p l e rmX9_isFit s m args below meth c H locs 0 0 Q (F0 m 100 ls []) := by
        intro v3 w H locs ls h hW hS hl
        unfold jX9_isFit_100 at h
        refine lv_iconst (v := (0 : Int32)) hx hb dX9_isFit_100 (by decide) ?_
        exact J101 _ _ _ _ _ _ h hW hS (hl)
      have J96 : ∀ (v3 : Int32) (w : Wd) (H : Heap) (locs : List Loc) (ls : Array Slot), jX9_isFit_96 p1 k57 v3 w = some q → World E full w s H → va_S (wA E full) s.heap H locs → lv_has ls 4 [(0, .ref (E.2.1 99)), (1, .int p1), (3, .int v3)] → W p l e rmX9_isFit s m args below meth c H locs 0 0 Q (F0 m 96 ls []) := by
        intro v3 w H locs ls h hW hS hl
        unfold jX9_isFit_96 at h
        refine lv_iconst (v := (1 : Int32)) hx hb dX9_isFit_96 (by decide) ?_
        refine lv_goto (tgt := 101) hx hb dX9_isFit_97 (by decide) ?_
        exact J101 _ _ _ _ _ _ h hW hS (hl)
      unfold bX9_isFit_57 at h
      refine lv_iload_n hx hb dX9_isFit_57 rfl (lv_at hl 3 rfl) ?_
      refine lv_aload_n hx hb dX9_isFit_58 rfl (lv_at hl 0 rfl) ?_
      refine rw_get hx hb hts iX9 hown hW (fl 99 rfl) rfl rfl 1 (by decide) e88 rfl (v := .int (w.1 99 1)) rfl dX9_isFit_59 ?_
      refine rb_icmp_ge (tgt := 108) hx hb h dX9_isFit_62 (by decide) (fun h => ?_) (fun h => ?_)
      · refine lv_iconst (v := (0 : Int32)) hx hb dX9_isFit_108 (by decide) ?_
        refine lv_istore_n (lv' := [(3, .int (0 : Int32)), (0, .ref (E.2.1 99)), (1, .int p1), (2, .int v2)]) hx hb dX9_isFit_109 rfl hl (by decide) rfl (fun ls hl => ?_)
        exact J110 _ _ _ _ _ _ _ h hW hS (lv_sub hl [1, 2, 3, 0] rfl)
      · refine lv_iload_n hx hb dX9_isFit_65 rfl (lv_at hl 2 rfl) ?_
        refine rb_if_eq (tgt := 100) hx hb h dX9_isFit_66 (by decide) (fun h => ?_) (fun h => ?_)
        · exact J100 _ _ _ _ _ h hW hS (lv_sub hl [0, 1, 3] rfl)
        · refine lv_aload_n hx hb dX9_isFit_69 rfl (lv_at hl 0 rfl) ?_
          refine rw_get hx hb hts iX9 hown hW (fl 99 rfl) rfl rfl 4 (by decide) e16 rfl (v := .ref (E.2.1 102)) rfl dX9_isFit_70 ?_
          refine lv_iload_n hx hb dX9_isFit_73 rfl (lv_at hl 3 rfl) ?_
          refine rw_iald hx hb hW (fun _ => (fl 102 rfl)) h dX9_isFit_74 (fun x5 h => ?_)
          refine lv_bipush (v := (-9 : Int32)) hx hb dX9_isFit_75 (by decide) ?_
          refine rb_icmp_eq (tgt := 96) hx hb h dX9_isFit_77 (by decide) (fun h => ?_) (fun h => ?_)
          · exact J96 _ _ _ _ _ h hW hS (lv_sub hl [0, 1, 3] rfl)
          · refine lv_aload_n hx hb dX9_isFit_80 rfl (lv_at hl 0 rfl) ?_
            refine rw_get hx hb hts iX9 hown hW (fl 99 rfl) rfl rfl 4 (by decide) e16 rfl (v := .ref (E.2.1 102)) rfl dX9_isFit_81 ?_
            refine lv_iload_n hx hb dX9_isFit_84 rfl (lv_at hl 3 rfl) ?_
            refine rw_iald hx hb hW (fun _ => (fl 102 rfl)) h dX9_isFit_85 (fun x6 h => ?_)
            refine lv_aload_n hx hb dX9_isFit_86 rfl (lv_at hl 0 rfl) ?_
            refine lv_iload_n hx hb dX9_isFit_87 rfl (lv_at hl 1 rfl) ?_
            refine lv_iconst (v := (0 : Int32)) hx hb dX9_isFit_88 (by decide) ?_
            refine lv_iload_n hx hb dX9_isFit_89 rfl (lv_at hl 3 rfl) ?_
            refine rc_Vi (k := 99) (As := [.int p1, .int (0 : Int32), .int v3]) (rest := [.int x6]) S hW hS h (kX9_greatestOf l E p1 (0 : Int32) v3 w) (cwV 3 hts gX9_isFit_X9_greatestOf rfl rfl rfl hdX9_greatestOf ⟨Nat.le_of_ble_eq_true rfl, Nat.le_of_ble_eq_true rfl⟩) (fl 99 rfl) rfl rfl rfl rfl hl.1 rfl (Nat.le_of_ble_eq_true rfl) ⟨Nat.zero_le _, Nat.zero_le _⟩ dX9_isFit_90 (fun x7 w8 H locs h hW hS => ?_)
            refine rb_icmp_ne (tgt := 100) hx hb h dX9_isFit_93 (by decide) (fun h => ?_) (fun h => ?_)
            · exact J100 _ _ _ _ _ h hW hS (lv_sub hl [0, 1, 3] rfl)
            · exact J96 _ _ _ _ _ h hW hS (lv_sub hl [0, 1, 3] rfl)
  have J4 : ∀ (n : Nat) (v2 : Int32) (v3 : Int32) (w : Wd) (H : Heap) (locs : List Loc) (ls : Array Slot), lp (fun _ _ _ => none) (bX9_isFit_4 p1) n v2 v3 w = some q → World E full w s H → va_S (wA E full) s.heap H locs → lv_has ls 4 [(0, .ref (E.2.1 99)), (1, .int p1), (2, .int v2), (3, .int v3)] → W p l e rmX9_isFit s m args below meth c H locs 0 0 Q (F0 m 4 ls []) := by
    intro n
    induction n with
    | zero =>
      intro v2 v3 w H locs ls h hW hS hl
      exact absurd (show (none : Option (Int32 × Wd)) = some q from h) (fun z => by cases z)
    | succ n ih4 =>
      intro v2 v3 w H locs ls h hW hS hl
      have h : bX9_isFit_4 p1 (lp (fun _ _ _ => none) (bX9_isFit_4 p1) n) v2 v3 w = some q := h
      generalize lp (fun _ _ _ => none) (bX9_isFit_4 p1) n = k4 at h ih4
      have J48 : ∀ (v3 : Int32) (s0 : Int32) (w : Wd) (H : Heap) (locs : List Loc) (ls : Array Slot), jX9_isFit_48 p1 k4 v3 s0 w = some q → World E full w s H → va_S (wA E full) s.heap H locs → lv_has ls 4 [(0, .ref (E.2.1 99)), (1, .int p1), (3, .int v3)] → W p l e rmX9_isFit s m args below meth c H locs 0 0 Q (F0 m 48 ls [.int s0]) := by
        intro v3 s0 w H locs ls h hW hS hl
        unfold jX9_isFit_48 at h
        refine lv_istore_n (lv' := [(2, .int s0), (0, .ref (E.2.1 99)), (1, .int p1), (3, .int v3)]) hx hb dX9_isFit_48 rfl hl (by decide) rfl (fun ls hl => ?_)
        refine lv_iinc (v := (v3 + (1 : Int32))) (lv' := [(3, .int (v3 + (1 : Int32))), (2, .int s0), (0, .ref (E.2.1 99)), (1, .int p1)]) hx hb dX9_isFit_49 hl (k := 3) rfl rfl (by decide) rfl (fun ls hl => ?_)
        refine lv_goto (tgt := 4) hx hb dX9_isFit_52 (by decide) ?_
        exact ih4 _ _ _ _ _ _ h hW hS (lv_sub hl [2, 3, 1, 0] rfl)
      have J47 : ∀ (v3 : Int32) (w : Wd) (H : Heap) (locs : List Loc) (ls : Array Slot), jX9_isFit_47 p1 k4 v3 w = some q → World E full w s H → va_S (wA E full) s.heap H locs → lv_has ls 4 [(0, .ref (E.2.1 99)), (1, .int p1), (3, .int v3)] → W p l e rmX9_isFit s m args below meth c H locs 0 0 Q (F0 m 47 ls []) := by
        intro v3 w H locs ls h hW hS hl
        unfold jX9_isFit_47 at h
        refine lv_iconst (v := (0 : Int32)) hx hb dX9_isFit_47 (by decide) ?_
        exact J48 _ _ _ _ _ _ h hW hS (hl)
      have J43 : ∀ (v3 : Int32) (w : Wd) (H : Heap) (locs : List Loc) (ls : Array Slot), jX9_isFit_43 p1 k4 v3 w = some q → World E full w s H → va_S (wA E full) s.heap H locs → lv_has ls 4 [(0, .ref (E.2.1 99)), (1, .int p1), (3, .int v3)] → W p l e rmX9_isFit s m args below meth c H locs 0 0 Q (F0 m 43 ls []) := by
        intro v3 w H locs ls h hW hS hl
        unfold jX9_isFit_43 at h
        refine lv_iconst (v := (1 : Int32)) hx hb dX9_isFit_43 (by decide) ?_
        refine lv_goto (tgt := 48) hx hb dX9_isFit_44 (by decide) ?_
        exact J48 _ _ _ _ _ _ h hW hS (hl)
      unfold bX9_isFit_4 at h
      refine lv_iload_n hx hb dX9_isFit_4 rfl (lv_at hl 3 rfl) ?_
      refine lv_aload_n hx hb dX9_isFit_5 rfl (lv_at hl 0 rfl) ?_
      refine rw_get hx hb hts iX9 hown hW (fl 99 rfl) rfl rfl 0 (by decide) e85 rfl (v := .int (w.1 99 0)) rfl dX9_isFit_6 ?_
      refine rb_icmp_ge (tgt := 55) hx hb h dX9_isFit_9 (by decide) (fun h => ?_) (fun h => ?_)
      · refine lv_iconst (v := (0 : Int32)) hx hb dX9_isFit_55 (by decide) ?_
        refine lv_istore_n (lv' := [(3, .int (0 : Int32)), (0, .ref (E.2.1 99)), (1, .int p1), (2, .int v2)]) hx hb dX9_isFit_56 rfl hl (by decide) rfl (fun ls hl => ?_)
        exact J57 _ _ _ _ _ _ _ h hW hS (lv_sub hl [1, 2, 3, 0] rfl)
      · refine lv_iload_n hx hb dX9_isFit_12 rfl (lv_at hl 2 rfl) ?_
        refine rb_if_eq (tgt := 47) hx hb h dX9_isFit_13 (by decide) (fun h => ?_) (fun h => ?_)
        · exact J47 _ _ _ _ _ h hW hS (lv_sub hl [0, 1, 3] rfl)
        · refine lv_aload_n hx hb dX9_isFit_16 rfl (lv_at hl 0 rfl) ?_
          refine rw_get hx hb hts iX9 hown hW (fl 99 rfl) rfl rfl 3 (by decide) e13 rfl (v := .ref (E.2.1 101)) rfl dX9_isFit_17 ?_
          refine lv_iload_n hx hb dX9_isFit_20 rfl (lv_at hl 3 rfl) ?_
          refine rw_iald hx hb hW (fun _ => (fl 101 rfl)) h dX9_isFit_21 (fun x1 h => ?_)
          refine lv_bipush (v := (-9 : Int32)) hx hb dX9_isFit_22 (by decide) ?_
          refine rb_icmp_eq (tgt := 43) hx hb h dX9_isFit_24 (by decide) (fun h => ?_) (fun h => ?_)
          · exact J43 _ _ _ _ _ h hW hS (lv_sub hl [0, 1, 3] rfl)
          · refine lv_aload_n hx hb dX9_isFit_27 rfl (lv_at hl 0 rfl) ?_
            refine rw_get hx hb hts iX9 hown hW (fl 99 rfl) rfl rfl 3 (by decide) e13 rfl (v := .ref (E.2.1 101)) rfl dX9_isFit_28 ?_
            refine lv_iload_n hx hb dX9_isFit_31 rfl (lv_at hl 3 rfl) ?_
            refine rw_iald hx hb hW (fun _ => (fl 101 rfl)) h dX9_isFit_32 (fun x2 h => ?_)
            refine lv_aload_n hx hb dX9_isFit_33 rfl (lv_at hl 0 rfl) ?_
            refine lv_iload_n hx hb dX9_isFit_34 rfl (lv_at hl 1 rfl) ?_
            refine lv_iconst (v := (1 : Int32)) hx hb dX9_isFit_35 (by decide) ?_
            refine lv_iload_n hx hb dX9_isFit_36 rfl (lv_at hl 3 rfl) ?_
            refine rc_Vi (k := 99) (As := [.int p1, .int (1 : Int32), .int v3]) (rest := [.int x2]) S hW hS h (kX9_greatestOf l E p1 (1 : Int32) v3 w) (cwV 3 hts gX9_isFit_X9_greatestOf rfl rfl rfl hdX9_greatestOf ⟨Nat.le_of_ble_eq_true rfl, Nat.le_of_ble_eq_true rfl⟩) (fl 99 rfl) rfl rfl rfl rfl hl.1 rfl (Nat.le_of_ble_eq_true rfl) ⟨Nat.zero_le _, Nat.zero_le _⟩ dX9_isFit_37 (fun x3 w4 H locs h hW hS => ?_)
            refine rb_icmp_ne (tgt := 47) hx hb h dX9_isFit_40 (by decide) (fun h => ?_) (fun h => ?_)
            · exact J47 _ _ _ _ _ h hW hS (lv_sub hl [0, 1, 3] rfl)
            · exact J43 _ _ _ _ _ h hW hS (lv_sub hl [0, 1, 3] rfl)
  unfold fX9_isFit at h
  refine lv_iconst (v := (1 : Int32)) hx hb dX9_isFit_0 (by decide) ?_
  refine lv_istore_n (lv' := [(2, .int (1 : Int32)), (0, .ref (E.2.1 99)), (1, .int p1)]) hx hb dX9_isFit_1 rfl hl (by decide) rfl (fun ls hl => ?_)
  refine lv_iconst (v := (0 : Int32)) hx hb dX9_isFit_2 (by decide) ?_
  refine lv_istore_n (lv' := [(3, .int (0 : Int32)), (2, .int (1 : Int32)), (0, .ref (E.2.1 99)), (1, .int p1)]) hx hb dX9_isFit_3 rfl hl (by decide) rfl (fun ls hl => ?_)
  exact J4 _ _ _ _ _ _ _ h hW hS (lv_sub hl [2, 3, 1, 0] rfl)
