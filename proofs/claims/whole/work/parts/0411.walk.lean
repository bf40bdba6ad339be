noncomputable def jX9_carryOne_80 (p1 : Int32) (k15 : Int32 → Wd → Option (Unit × Wd)) (v3 : Int32)  (w : Wd) : Option (Unit × Wd) :=
  k15 v3 w
noncomputable def bX9_carryOne_15 (p1 : Int32) (k15 : Int32 → Wd → Option (Unit × Wd)) (v2 : Int32)  (w : Wd) : Option (Unit × Wd) :=
  (gI w 119 v2).bind fun x3 => if x3 = 0 then (gI w 115 (v2 - (1 : Int32))).bind fun x4 => (sI w 115 (v2 - (1 : Int32)) (x4 - (1 : Int32))).bind fun w5 => some ((), w5) else (gI w 119 v2).bind fun x6 => if v2 ≤ (25 : Int32) then (gI w 117 ((((25 : Int32) * (v2 - (1 : Int32))) + x6) - (26 : Int32))).bind fun x7 => (sI w 117 ((((25 : Int32) * (v2 - (1 : Int32))) + x6) - (26 : Int32)) (x7 - (1 : Int32))).bind fun w8 => jX9_carryOne_80 p1 k15 x6 w8 else (gI w 117 ((((25 : Int32) * (x6 - (1 : Int32))) + v2) - (26 : Int32))).bind fun x9 => (sI w 117 ((((25 : Int32) * (x6 - (1 : Int32))) + v2) - (26 : Int32)) (x9 + (1 : Int32))).bind fun w10 => jX9_carryOne_80 p1 k15 x6 w10
noncomputable def fX9_carryOne (p1 : Int32) (w : Wd) : Option (Unit × Wd) :=
  (gI w 116 p1).bind fun x1 => (sI w 116 p1 (x1 - (1 : Int32))).bind fun w2 => lp (fun _ _ => none) (bX9_carryOne_15 p1) G ((26 : Int32) + p1) w2
abbrev rmX9_carryOne : Room := { frames := 0, cells := 0, slots := 0, locals := 0 }
set_option maxHeartbeats 4000000 in
set_option maxRecDepth 100000 in
theorem kX9_carryOne (l : Launch) (E : Ev) (p1 : Int32) (w : Wd) (q : Unit × Wd) (h : fX9_carryOne p1 w = some q) : CtV l yX9_carryOne wsX9_carryOne rmX9_carryOne E full [.ref (E.2.1 99), .int p1] w q := by
  refine mkV (cc := cX9_carryOne) (maxL := 4) (by decide) rfl (Nat.le_of_ble_eq_true rfl) ?_
  intro p e s m args below meth c Q S hW hQ ls hl
  obtain ⟨hx, hb, hml, hown, hts⟩ := id S
  have hW0 := hW
  have hS : va_S (wA E full) s.heap s.heap [] := va_S.rf
  have hl : lv_has ls 4 [(0, .ref (E.2.1 99)), (1, .int p1)] := hl
  have iX9 : ∀ w ∈ wsX90, w ∈ wsX9_carryOne := by decide +kernel
  have e60 := hts (.fieldLink RX9 60 "CubeHeapsModel" "spare" "[I") (by decide +kernel)
  have e63 := hts (.fieldLink RX9 63 "CubeHeapsModel" "lack" "[I") (by decide +kernel)
  have e66 := hts (.fieldLink RX9 66 "CubeHeapsModel" "carried" "[I") (by decide +kernel)
  have e72 := hts (.fieldLink RX9 72 "CubeHeapsModel" "by" "[I") (by decide +kernel)
  have J15 : ∀ (n : Nat) (v2 : Int32) (w : Wd) (H : Heap) (locs : List Loc) (ls : Array Slot), lp (fun _ _ => none) (bX9_carryOne_15 p1) n v2 w = some q → World E full w s H → va_S (wA E full) s.heap H locs → lv_has ls 4 [(0, .ref (E.2.1 99)), (2, .int v2)] → W p l e rmX9_carryOne s m args below meth c H locs 0 0 Q (F0 m 15 ls []) := by
    intro n
    induction n with
    | zero =>
      intro v2 w H locs ls h hW hS hl
      exact absurd (show (none : Option (Unit × Wd)) = some q from h) (fun z => by cases z)
    | succ n ih15 =>
      intro v2 w H locs ls h hW hS hl
      have h : bX9_carryOne_15 p1 (lp (fun _ _ => none) (bX9_carryOne_15 p1) n) v2 w = some q := h
      generalize lp (fun _ _ => none) (bX9_carryOne_15 p1) n = k15 at h ih15
      have J80 : ∀ (v3 : Int32) (w : Wd) (H : Heap) (locs : List Loc) (ls : Array Slot), jX9_carryOne_80 p1 k15 v3 w = some q → World E full w s H → va_S (wA E full) s.heap H locs → lv_has ls 4 [(0, .ref (E.2.1 99)), (3, .int v3)] → W p l e rmX9_carryOne s m args below meth c H locs 0 0 Q (F0 m 80 ls []) := by
        intro v3 w H locs ls h hW hS hl
        unfold jX9_carryOne_80 at h
        refine lv_iload_n hx hb dX9_carryOne_80 rfl (lv_at hl 1 rfl) ?_
        refine lv_istore_n (lv' := [(2, .int v3), (0, .ref (E.2.1 99)), (3, .int v3)]) hx hb dX9_carryOne_81 rfl hl (by decide) rfl (fun ls hl => ?_)
        refine lv_goto (tgt := 15) hx hb dX9_carryOne_82 (by decide) ?_
        exact ih15 _ _ _ _ _ h hW hS (lv_sub hl [1, 0] rfl)
      unfold bX9_carryOne_15 at h
      refine lv_aload_n hx hb dX9_carryOne_15 rfl (lv_at hl 0 rfl) ?_
      refine rw_get hx hb hts iX9 hown hW (fl 99 rfl) rfl rfl 23 (by decide) e72 rfl (v := .ref (E.2.1 119)) rfl dX9_carryOne_16 ?_
      refine lv_iload_n hx hb dX9_carryOne_19 rfl (lv_at hl 1 rfl) ?_
      refine rw_iald hx hb hW (fun _ => (fl 119 rfl)) h dX9_carryOne_20 (fun x3 h => ?_)
      refine rb_if_eq (tgt := 85) hx hb h dX9_carryOne_21 (by decide) (fun h => ?_) (fun h => ?_)
      · refine lv_aload_n hx hb dX9_carryOne_85 rfl (lv_at hl 0 rfl) ?_
        refine rw_get hx hb hts iX9 hown hW (fl 99 rfl) rfl rfl 19 (by decide) e60 rfl (v := .ref (E.2.1 115)) rfl dX9_carryOne_86 ?_
        refine lv_iload_n hx hb dX9_carryOne_89 rfl (lv_at hl 1 rfl) ?_
        refine lv_iconst (v := (1 : Int32)) hx hb dX9_carryOne_90 (by decide) ?_
        refine lv_isub hx hb dX9_carryOne_91 ?_
        refine lv_dup2_11 hx hb dX9_carryOne_92 rfl rfl ?_
        refine rw_iald hx hb hW (fun _ => (fl 115 rfl)) h dX9_carryOne_93 (fun x4 h => ?_)
        refine lv_iconst (v := (1 : Int32)) hx hb dX9_carryOne_94 (by decide) ?_
        refine lv_isub hx hb dX9_carryOne_95 ?_
        refine rw_iast hx hb hW hS (fun _ => (fl 115 rfl)) h dX9_carryOne_96 (fun w5 H locs h hW hS => ?_)
        exact rrV hQ hW hS h dX9_carryOne_97
      · refine lv_aload_n hx hb dX9_carryOne_24 rfl (lv_at hl 0 rfl) ?_
        refine rw_get hx hb hts iX9 hown hW (fl 99 rfl) rfl rfl 23 (by decide) e72 rfl (v := .ref (E.2.1 119)) rfl dX9_carryOne_25 ?_
        refine lv_iload_n hx hb dX9_carryOne_28 rfl (lv_at hl 1 rfl) ?_
        refine rw_iald hx hb hW (fun _ => (fl 119 rfl)) h dX9_carryOne_29 (fun x6 h => ?_)
        refine lv_istore_n (lv' := [(3, .int x6), (0, .ref (E.2.1 99)), (2, .int v2)]) hx hb dX9_carryOne_30 rfl hl (by decide) rfl (fun ls hl => ?_)
        refine lv_iload_n hx hb dX9_carryOne_31 rfl (lv_at hl 2 rfl) ?_
        refine lv_bipush (v := (25 : Int32)) hx hb dX9_carryOne_32 (by decide) ?_
        refine rb_icmp_le (tgt := 60) hx hb h dX9_carryOne_34 (by decide) (fun h => ?_) (fun h => ?_)
        · refine lv_aload_n hx hb dX9_carryOne_60 rfl (lv_at hl 1 rfl) ?_
          refine rw_get hx hb hts iX9 hown hW (fl 99 rfl) rfl rfl 21 (by decide) e66 rfl (v := .ref (E.2.1 117)) rfl dX9_carryOne_61 ?_
          refine lv_bipush (v := (25 : Int32)) hx hb dX9_carryOne_64 (by decide) ?_
          refine lv_iload_n hx hb dX9_carryOne_66 rfl (lv_at hl 2 rfl) ?_
          refine lv_iconst (v := (1 : Int32)) hx hb dX9_carryOne_67 (by decide) ?_
          refine lv_isub hx hb dX9_carryOne_68 ?_
          refine lv_imul hx hb dX9_carryOne_69 ?_
          refine lv_iload_n hx hb dX9_carryOne_70 rfl (lv_at hl 0 rfl) ?_
          refine lv_iadd hx hb dX9_carryOne_71 ?_
          refine lv_bipush (v := (26 : Int32)) hx hb dX9_carryOne_72 (by decide) ?_
          refine lv_isub hx hb dX9_carryOne_74 ?_
          refine lv_dup2_11 hx hb dX9_carryOne_75 rfl rfl ?_
          refine rw_iald hx hb hW (fun _ => (fl 117 rfl)) h dX9_carryOne_76 (fun x7 h => ?_)
          refine lv_iconst (v := (1 : Int32)) hx hb dX9_carryOne_77 (by decide) ?_
          refine lv_isub hx hb dX9_carryOne_78 ?_
          refine rw_iast hx hb hW hS (fun _ => (fl 117 rfl)) h dX9_carryOne_79 (fun w8 H locs h hW hS => ?_)
          exact J80 _ _ _ _ _ h hW hS (lv_sub hl [1, 0] rfl)
        · refine lv_aload_n hx hb dX9_carryOne_37 rfl (lv_at hl 1 rfl) ?_
          refine rw_get hx hb hts iX9 hown hW (fl 99 rfl) rfl rfl 21 (by decide) e66 rfl (v := .ref (E.2.1 117)) rfl dX9_carryOne_38 ?_
          refine lv_bipush (v := (25 : Int32)) hx hb dX9_carryOne_41 (by decide) ?_
          refine lv_iload_n hx hb dX9_carryOne_43 rfl (lv_at hl 0 rfl) ?_
          refine lv_iconst (v := (1 : Int32)) hx hb dX9_carryOne_44 (by decide) ?_
          refine lv_isub hx hb dX9_carryOne_45 ?_
          refine lv_imul hx hb dX9_carryOne_46 ?_
          refine lv_iload_n hx hb dX9_carryOne_47 rfl (lv_at hl 2 rfl) ?_
          refine lv_iadd hx hb dX9_carryOne_48 ?_
          refine lv_bipush (v := (26 : Int32)) hx hb dX9_carryOne_49 (by decide) ?_
          refine lv_isub hx hb dX9_carryOne_51 ?_
          refine lv_dup2_11 hx hb dX9_carryOne_52 rfl rfl ?_
          refine rw_iald hx hb hW (fun _ => (fl 117 rfl)) h dX9_carryOne_53 (fun x9 h => ?_)
          refine lv_iconst (v := (1 : Int32)) hx hb dX9_carryOne_54 (by decide) ?_
          refine lv_iadd hx hb dX9_carryOne_55 ?_
          refine rw_iast hx hb hW hS (fun _ => (fl 117 rfl)) h dX9_carryOne_56 (fun w10 H locs h hW hS => ?_)
          refine lv_goto (tgt := 80) hx hb dX9_carryOne_57 (by decide) ?_
          exact J80 _ _ _ _ _ h hW hS (lv_sub hl [1, 0] rfl)
  unfold fX9_carryOne at h
  refine lv_bipush (v := (26 : Int32)) hx hb dX9_carryOne_0 (by decide) ?_
  refine lv_iload_n hx hb dX9_carryOne_2 rfl (lv_at hl 1 rfl) ?_
  refine lv_iadd hx hb dX9_carryOne_3 ?_
  refine lv_istore_n (lv' := [(2, .int ((26 : Int32) + p1)), (0, .ref (E.2.1 99)), (1, .int p1)]) hx hb dX9_carryOne_4 rfl hl (by decide) rfl (fun ls hl => ?_)
  refine lv_aload_n hx hb dX9_carryOne_5 rfl (lv_at hl 1 rfl) ?_
  refine rw_get hx hb hts iX9 hown hW (fl 99 rfl) rfl rfl 20 (by decide) e63 rfl (v := .ref (E.2.1 116)) rfl dX9_carryOne_6 ?_
  refine lv_iload_n hx hb dX9_carryOne_9 rfl (lv_at hl 2 rfl) ?_
  refine lv_dup2_11 hx hb dX9_carryOne_10 rfl rfl ?_
  refine rw_iald hx hb hW (fun _ => (fl 116 rfl)) h dX9_carryOne_11 (fun x1 h => ?_)
  refine lv_iconst (v := (1 : Int32)) hx hb dX9_carryOne_12 (by decide) ?_
  refine lv_isub hx hb dX9_carryOne_13 ?_
  refine rw_iast hx hb hW hS (fun _ => (fl 116 rfl)) h dX9_carryOne_14 (fun w2 H locs h hW hS => ?_)
  exact J15 _ _ _ _ _ _ h hW hS (lv_sub hl [1, 0] rfl)
noncomputable def bX9_carry_148 (p1 : Int32) (p2 : Int32) (k148 : Int32 → Int32 → Wd → Option (Int32 × Wd)) (v3 : Int32) (v4 : Int32)  (w : Wd) : Option (Int32 × Wd) :=
  if v4 = (-9 : Int32) then some (v3, w) else (gI w 118 ((26 : Int32) + v4)).bind fun x16 => bnd (fX9_carryOne v4 w) fun _ w17 => bnd (fX9_layFar w17) fun x18 w19 => k148 (v3 + x16) x18 w19
noncomputable def bX9_carry_120 (p1 : Int32) (p2 : Int32) (k120 : Int32 → Wd → Option (Int32 × Wd)) (v3 : Int32)  (w : Wd) : Option (Int32 × Wd) :=
  if (625 : Int32) ≤ v3 then bnd (fX9_layFar w) fun x13 w14 => lp (fun _ _ _ => none) (bX9_carry_148 p1 p2) G (0 : Int32) x13 w14 else (sI w 117 v3 (0 : Int32)).bind fun w15 => k120 (v3 + (1 : Int32)) w15
noncomputable def jX9_carry_111 (p1 : Int32) (p2 : Int32) (k34 : Int32 → Wd → Option (Int32 × Wd)) (v3 : Int32) (s0 : Int32) (s1 : Int32)  (w : Wd) : Option (Int32 × Wd) :=
  (sI w 116 s1 s0).bind fun w21 => k34 (v3 + (1 : Int32)) w21
noncomputable def jX9_carry_93 (p1 : Int32) (p2 : Int32) (k34 : Int32 → Wd → Option (Int32 × Wd)) (v3 : Int32) (v4 : Int32) (s0 : Int32) (s1 : Int32)  (w : Wd) : Option (Int32 × Wd) :=
  (sI w 115 s1 s0).bind fun w20 => if 0 ≤ v4 then jX9_carry_111 p1 p2 k34 v3 (0 : Int32) v3 w20 else jX9_carry_111 p1 p2 k34 v3 (-v4) v3 w20
noncomputable def jX9_carry_75 (p1 : Int32) (p2 : Int32) (k34 : Int32 → Wd → Option (Int32 × Wd)) (v3 : Int32) (s0 : Int32)  (w : Wd) : Option (Int32 × Wd) :=
  if s0 ≤ 0 then jX9_carry_93 p1 p2 k34 v3 s0 (0 : Int32) v3 w else jX9_carry_93 p1 p2 k34 v3 s0 s0 v3 w
noncomputable def bX9_carry_34 (p1 : Int32) (p2 : Int32) (k34 : Int32 → Wd → Option (Int32 × Wd)) (v3 : Int32)  (w : Wd) : Option (Int32 × Wd) :=
  if (25 : Int32) ≤ v3 then lp (fun _ _ => none) (bX9_carry_120 p1 p2) G (0 : Int32) w else bnd (fX9_cells w) fun x9 w10 => if x9 ≤ v3 then jX9_carry_75 p1 p2 k34 v3 (0 : Int32) w10 else (gI w10 100 (((25 : Int32) * p1) + v3)).bind fun x11 => (gI w10 100 (((25 : Int32) * p2) + v3)).bind fun x12 => jX9_carry_75 p1 p2 k34 v3 (x11 - x12) w10
noncomputable def fX9_carry (p1 : Int32) (p2 : Int32) (w : Wd) : Option (Int32 × Wd) :=
  bnd (fX9_isSlot p1 w) fun x1 w2 => if x1 = 0 then some ((-1 : Int32), w2) else bnd (fX9_isSlot p2 w2) fun x3 w4 => if x3 = 0 then some ((-1 : Int32), w4) else bnd (fX9_cubesOf p1 w4) fun x5 w6 => bnd (fX9_cubesOf p2 w6) fun x7 w8 => if x5 = x7 then lp (fun _ _ => none) (bX9_carry_34 p1 p2) G (0 : Int32) w8 else some ((-9 : Int32), w8)
abbrev rmX9_carry : Room := { frames := 2, cells := 0, slots := 0, locals := 48 }
set_option maxHeartbeats 4000000 in
set_option maxRecDepth 100000 in
theorem kX9_carry (l : Launch) (E : Ev) (p1 : Int32) (p2 : Int32) (w : Wd) (q : Int32 × Wd) (h : fX9_carry p1 p2 w = some q) : CtI l yX9_carry wsX9_carry rmX9_carry E full [.ref (E.2.1 99), .int p1, .int p2] w q := by
  refine mkI (cc := cX9_carry) (maxL := 5) (by decide) rfl (Nat.le_of_ble_eq_true rfl) ?_
  intro p e s m args below meth c Q S hW hQ ls hl
  obtain ⟨hx, hb, hml, hown, hts⟩ := id S
  have hW0 := hW
  have hS : va_S (wA E full) s.heap s.heap [] := va_S.rf
  have hl : lv_has ls 5 [(0, .ref (E.2.1 99)), (1, .int p1), (2, .int p2)] := hl
  have iX9 : ∀ w ∈ wsX90, w ∈ wsX9_carry := by decide +kernel
  have e7 := hts (.fieldLink RX9 7 "CubeHeapsModel" "heap" "[I") (by decide +kernel)
  have e60 := hts (.fieldLink RX9 60 "CubeHeapsModel" "spare" "[I") (by decide +kernel)
  have e63 := hts (.fieldLink RX9 63 "CubeHeapsModel" "lack" "[I") (by decide +kernel)
  have e66 := hts (.fieldLink RX9 66 "CubeHeapsModel" "carried" "[I") (by decide +kernel)
  have e69 := hts (.fieldLink RX9 69 "CubeHeapsModel" "far" "[I") (by decide +kernel)
  have J148 : ∀ (n : Nat) (v3 : Int32) (v4 : Int32) (w : Wd) (H : Heap) (locs : List Loc) (ls : Array Slot), lp (fun _ _ _ => none) (bX9_carry_148 p1 p2) n v3 v4 w = some q → World E full w s H → va_S (wA E full) s.heap H locs → lv_has ls 5 [(0, .ref (E.2.1 99)), (3, .int v3), (4, .int v4)] → W p l e rmX9_carry s m args below meth c H locs 0 0 Q (F0 m 148 ls []) := by
    intro n
    induction n with
    | zero =>
      intro v3 v4 w H locs ls h hW hS hl
      exact absurd (show (none : Option (Int32 × Wd)) = some q from h) (fun z => by cases z)
    | succ n ih148 =>
      intro v3 v4 w H locs ls h hW hS hl
      have h : bX9_carry_148 p1 p2 (lp (fun _ _ _ => none) (bX9_carry_148 p1 p2) n) v3 v4 w = some q := h
      generalize lp (fun _ _ _ => none) (bX9_carry_148 p1 p2) n = k148 at h ih148
      unfold bX9_carry_148 at h
      refine lv_iload hx hb dX9_carry_148 (lv_at hl 2 rfl) ?_
      refine lv_bipush (v := (-9 : Int32)) hx hb dX9_carry_150 (by decide) ?_
      refine rb_icmp_eq (tgt := 183) hx hb h dX9_carry_152 (by decide) (fun h => ?_) (fun h => ?_)
      · refine lv_iload_n hx hb dX9_carry_183 rfl (lv_at hl 1 rfl) ?_
        exact rrI hQ hW hS h dX9_carry_184
      · refine lv_iload_n hx hb dX9_carry_155 rfl (lv_at hl 1 rfl) ?_
        refine lv_aload_n hx hb dX9_carry_156 rfl (lv_at hl 0 rfl) ?_
        refine rw_get hx hb hts iX9 hown hW (fl 99 rfl) rfl rfl 22 (by decide) e69 rfl (v := .ref (E.2.1 118)) rfl dX9_carry_157 ?_
        refine lv_bipush (v := (26 : Int32)) hx hb dX9_carry_160 (by decide) ?_
        refine lv_iload hx hb dX9_carry_162 (lv_at hl 2 rfl) ?_
        refine lv_iadd hx hb dX9_carry_164 ?_
        refine rw_iald hx hb hW (fun _ => (fl 118 rfl)) h dX9_carry_165 (fun x16 h => ?_)
        refine lv_iadd hx hb dX9_carry_166 ?_
        refine lv_istore_n (lv' := [(3, .int (v3 + x16)), (0, .ref (E.2.1 99)), (4, .int v4)]) hx hb dX9_carry_167 rfl hl (by decide) rfl (fun ls hl => ?_)
        refine lv_aload_n hx hb dX9_carry_168 rfl (lv_at hl 1 rfl) ?_
        refine lv_iload hx hb dX9_carry_169 (lv_at hl 2 rfl) ?_
        refine rc_Vv (k := 99) (As := [.int v4]) (rest := []) S hW hS h (kX9_carryOne l E v4 w) (cwV 1 hts gX9_carry_X9_carryOne rfl rfl rfl hdX9_carryOne ⟨Nat.le_of_ble_eq_true rfl, Nat.le_of_ble_eq_true rfl⟩) (fl 99 rfl) rfl rfl rfl rfl hl.1 rfl (Nat.le_of_ble_eq_true rfl) ⟨Nat.zero_le _, Nat.zero_le _⟩ dX9_carry_171 (fun _ w17 H locs h hW hS => ?_)
        refine lv_aload_n hx hb dX9_carry_174 rfl (lv_at hl 1 rfl) ?_
        refine rc_Vi (k := 99) (As := []) (rest := []) S hW hS h (kX9_layFar l E  w17) (cwV 0 hts gX9_carry_X9_layFar rfl rfl rfl hdX9_layFar ⟨Nat.le_of_ble_eq_true rfl, Nat.le_of_ble_eq_true rfl⟩) (fl 99 rfl) rfl rfl rfl rfl hl.1 rfl (Nat.le_of_ble_eq_true rfl) ⟨Nat.zero_le _, Nat.zero_le _⟩ dX9_carry_175 (fun x18 w19 H locs h hW hS => ?_)
        refine lv_istore (lv' := [(4, .int x18), (3, .int (v3 + x16)), (0, .ref (E.2.1 99))]) hx hb dX9_carry_178 hl (by decide) rfl (fun ls hl => ?_)
        refine lv_goto (tgt := 148) hx hb dX9_carry_180 (by decide) ?_
        exact ih148 _ _ _ _ _ _ h hW hS (lv_sub hl [2, 1, 0] rfl)
  have J120 : ∀ (n : Nat) (v3 : Int32) (w : Wd) (H : Heap) (locs : List Loc) (ls : Array Slot), lp (fun _ _ => none) (bX9_carry_120 p1 p2) n v3 w = some q → World E full w s H → va_S (wA E full) s.heap H locs → lv_has ls 5 [(0, .ref (E.2.1 99)), (3, .int v3)] → W p l e rmX9_carry s m args below meth c H locs 0 0 Q (F0 m 120 ls []) := by
    intro n
    induction n with
    | zero =>
      intro v3 w H locs ls h hW hS hl
      exact absurd (show (none : Option (Int32 × Wd)) = some q from h) (fun z => by cases z)
    | succ n ih120 =>
      intro v3 w H locs ls h hW hS hl
      have h : bX9_carry_120 p1 p2 (lp (fun _ _ => none) (bX9_carry_120 p1 p2) n) v3 w = some q := h
      generalize lp (fun _ _ => none) (bX9_carry_120 p1 p2) n = k120 at h ih120
      unfold bX9_carry_120 at h
      refine lv_iload_n hx hb dX9_carry_120 rfl (lv_at hl 1 rfl) ?_
      refine lv_sipush (v := (625 : Int32)) hx hb dX9_carry_121 (by decide) ?_
      refine rb_icmp_ge (tgt := 140) hx hb h dX9_carry_124 (by decide) (fun h => ?_) (fun h => ?_)
      · refine lv_iconst (v := (0 : Int32)) hx hb dX9_carry_140 (by decide) ?_
        refine lv_istore_n (lv' := [(3, .int (0 : Int32)), (0, .ref (E.2.1 99))]) hx hb dX9_carry_141 rfl hl (by decide) rfl (fun ls hl => ?_)
        refine lv_aload_n hx hb dX9_carry_142 rfl (lv_at hl 1 rfl) ?_
        refine rc_Vi (k := 99) (As := []) (rest := []) S hW hS h (kX9_layFar l E  w) (cwV 0 hts gX9_carry_X9_layFar rfl rfl rfl hdX9_layFar ⟨Nat.le_of_ble_eq_true rfl, Nat.le_of_ble_eq_true rfl⟩) (fl 99 rfl) rfl rfl rfl rfl hl.1 rfl (Nat.le_of_ble_eq_true rfl) ⟨Nat.zero_le _, Nat.zero_le _⟩ dX9_carry_143 (fun x13 w14 H locs h hW hS => ?_)
        refine lv_istore (lv' := [(4, .int x13), (3, .int (0 : Int32)), (0, .ref (E.2.1 99))]) hx hb dX9_carry_146 hl (by decide) rfl (fun ls hl => ?_)
        exact J148 _ _ _ _ _ _ _ h hW hS (lv_sub hl [2, 1, 0] rfl)
      · refine lv_aload_n hx hb dX9_carry_127 rfl (lv_at hl 0 rfl) ?_
        refine rw_get hx hb hts iX9 hown hW (fl 99 rfl) rfl rfl 21 (by decide) e66 rfl (v := .ref (E.2.1 117)) rfl dX9_carry_128 ?_
        refine lv_iload_n hx hb dX9_carry_131 rfl (lv_at hl 1 rfl) ?_
        refine lv_iconst (v := (0 : Int32)) hx hb dX9_carry_132 (by decide) ?_
        refine rw_iast hx hb hW hS (fun _ => (fl 117 rfl)) h dX9_carry_133 (fun w15 H locs h hW hS => ?_)
        refine lv_iinc (v := (v3 + (1 : Int32))) (lv' := [(3, .int (v3 + (1 : Int32))), (0, .ref (E.2.1 99))]) hx hb dX9_carry_134 hl (k := 1) rfl rfl (by decide) rfl (fun ls hl => ?_)
        refine lv_goto (tgt := 120) hx hb dX9_carry_137 (by decide) ?_
        exact ih120 _ _ _ _ _ h hW hS (lv_sub hl [1, 0] rfl)
  have J34 : ∀ (n : Nat) (v3 : Int32) (w : Wd) (H : Heap) (locs : List Loc) (ls : Array Slot), lp (fun _ _ => none) (bX9_carry_34 p1 p2) n v3 w = some q → World E full w s H → va_S (wA E full) s.heap H locs → lv_has ls 5 [(0, .ref (E.2.1 99)), (1, .int p1), (2, .int p2), (3, .int v3)] → W p l e rmX9_carry s m args below meth c H locs 0 0 Q (F0 m 34 ls []) := by
    intro n
    induction n with
    | zero =>
      intro v3 w H locs ls h hW hS hl
      exact absurd (show (none : Option (Int32 × Wd)) = some q from h) (fun z => by cases z)
    | succ n ih34 =>
      intro v3 w H locs ls h hW hS hl
      have h : bX9_carry_34 p1 p2 (lp (fun _ _ => none) (bX9_carry_34 p1 p2) n) v3 w = some q := h
      generalize lp (fun _ _ => none) (bX9_carry_34 p1 p2) n = k34 at h ih34
      have J111 : ∀ (v3 : Int32) (s0 : Int32) (s1 : Int32) (w : Wd) (H : Heap) (locs : List Loc) (ls : Array Slot), jX9_carry_111 p1 p2 k34 v3 s0 s1 w = some q → World E full w s H → va_S (wA E full) s.heap H locs → lv_has ls 5 [(0, .ref (E.2.1 99)), (1, .int p1), (2, .int p2), (3, .int v3)] → W p l e rmX9_carry s m args below meth c H locs 0 0 Q (F0 m 111 ls [.int s0, .int s1, .ref (E.2.1 116)]) := by
        intro v3 s0 s1 w H locs ls h hW hS hl
        unfold jX9_carry_111 at h
        refine rw_iast hx hb hW hS (fun _ => (fl 116 rfl)) h dX9_carry_111 (fun w21 H locs h hW hS => ?_)
        refine lv_iinc (v := (v3 + (1 : Int32))) (lv' := [(3, .int (v3 + (1 : Int32))), (0, .ref (E.2.1 99)), (1, .int p1), (2, .int p2)]) hx hb dX9_carry_112 hl (k := 3) rfl rfl (by decide) rfl (fun ls hl => ?_)
        refine lv_goto (tgt := 34) hx hb dX9_carry_115 (by decide) ?_
        exact ih34 _ _ _ _ _ h hW hS (lv_sub hl [1, 2, 3, 0] rfl)
      have J93 : ∀ (v3 : Int32) (v4 : Int32) (s0 : Int32) (s1 : Int32) (w : Wd) (H : Heap) (locs : List Loc) (ls : Array Slot), jX9_carry_93 p1 p2 k34 v3 v4 s0 s1 w = some q → World E full w s H → va_S (wA E full) s.heap H locs → lv_has ls 5 [(0, .ref (E.2.1 99)), (1, .int p1), (2, .int p2), (3, .int v3), (4, .int v4)] → W p l e rmX9_carry s m args below meth c H locs 0 0 Q (F0 m 93 ls [.int s0, .int s1, .ref (E.2.1 115)]) := by
        intro v3 v4 s0 s1 w H locs ls h hW hS hl
        unfold jX9_carry_93 at h
        refine rw_iast hx hb hW hS (fun _ => (fl 115 rfl)) h dX9_carry_93 (fun w20 H locs h hW hS => ?_)
        refine lv_aload_n hx hb dX9_carry_94 rfl (lv_at hl 0 rfl) ?_
        refine rw_get hx hb hts iX9 hown hW (fl 99 rfl) rfl rfl 20 (by decide) e63 rfl (v := .ref (E.2.1 116)) rfl dX9_carry_95 ?_
        refine lv_iload_n hx hb dX9_carry_98 rfl (lv_at hl 3 rfl) ?_
        refine lv_iload hx hb dX9_carry_99 (lv_at hl 4 rfl) ?_
        refine rb_if_ge (tgt := 110) hx hb h dX9_carry_101 (by decide) (fun h => ?_) (fun h => ?_)
        · refine lv_iconst (v := (0 : Int32)) hx hb dX9_carry_110 (by decide) ?_
          exact J111 _ _ _ _ _ _ _ h hW hS (lv_sub hl [0, 1, 2, 3] rfl)
        · refine lv_iload hx hb dX9_carry_104 (lv_at hl 4 rfl) ?_
          refine lv_ineg hx hb dX9_carry_106 ?_
          refine lv_goto (tgt := 111) hx hb dX9_carry_107 (by decide) ?_
          exact J111 _ _ _ _ _ _ _ h hW hS (lv_sub hl [0, 1, 2, 3] rfl)
      have J75 : ∀ (v3 : Int32) (s0 : Int32) (w : Wd) (H : Heap) (locs : List Loc) (ls : Array Slot), jX9_carry_75 p1 p2 k34 v3 s0 w = some q → World E full w s H → va_S (wA E full) s.heap H locs → lv_has ls 5 [(0, .ref (E.2.1 99)), (1, .int p1), (2, .int p2), (3, .int v3)] → W p l e rmX9_carry s m args below meth c H locs 0 0 Q (F0 m 75 ls [.int s0]) := by
        intro v3 s0 w H locs ls h hW hS hl
        unfold jX9_carry_75 at h
        refine lv_istore (lv' := [(4, .int s0), (0, .ref (E.2.1 99)), (1, .int p1), (2, .int p2), (3, .int v3)]) hx hb dX9_carry_75 hl (by decide) rfl (fun ls hl => ?_)
        refine lv_aload_n hx hb dX9_carry_77 rfl (lv_at hl 1 rfl) ?_
        refine rw_get hx hb hts iX9 hown hW (fl 99 rfl) rfl rfl 19 (by decide) e60 rfl (v := .ref (E.2.1 115)) rfl dX9_carry_78 ?_
        refine lv_iload_n hx hb dX9_carry_81 rfl (lv_at hl 4 rfl) ?_
        refine lv_iload hx hb dX9_carry_82 (lv_at hl 0 rfl) ?_
        refine rb_if_le (tgt := 92) hx hb h dX9_carry_84 (by decide) (fun h => ?_) (fun h => ?_)
        · refine lv_iconst (v := (0 : Int32)) hx hb dX9_carry_92 (by decide) ?_
          exact J93 _ _ _ _ _ _ _ _ h hW hS (lv_sub hl [1, 2, 3, 4, 0] rfl)
        · refine lv_iload hx hb dX9_carry_87 (lv_at hl 0 rfl) ?_
          refine lv_goto (tgt := 93) hx hb dX9_carry_89 (by decide) ?_
          exact J93 _ _ _ _ _ _ _ _ h hW hS (lv_sub hl [1, 2, 3, 4, 0] rfl)
      unfold bX9_carry_34 at h
      refine lv_iload_n hx hb dX9_carry_34 rfl (lv_at hl 3 rfl) ?_
      refine lv_bipush (v := (25 : Int32)) hx hb dX9_carry_35 (by decide) ?_
      refine rb_icmp_ge (tgt := 118) hx hb h dX9_carry_37 (by decide) (fun h => ?_) (fun h => ?_)
      · refine lv_iconst (v := (0 : Int32)) hx hb dX9_carry_118 (by decide) ?_
        refine lv_istore_n (lv' := [(3, .int (0 : Int32)), (0, .ref (E.2.1 99)), (1, .int p1), (2, .int p2)]) hx hb dX9_carry_119 rfl hl (by decide) rfl (fun ls hl => ?_)
        exact J120 _ _ _ _ _ _ h hW hS (lv_sub hl [1, 0] rfl)
      · refine lv_iload_n hx hb dX9_carry_40 rfl (lv_at hl 3 rfl) ?_
        refine lv_aload_n hx hb dX9_carry_41 rfl (lv_at hl 0 rfl) ?_
        refine rc_Vi (k := 99) (As := []) (rest := [.int v3]) S hW hS h (kX9_cells l E  w) (cwV 0 hts gX9_carry_X9_cells rfl rfl rfl hdX9_cells ⟨Nat.le_of_ble_eq_true rfl, Nat.le_of_ble_eq_true rfl⟩) (fl 99 rfl) rfl rfl rfl rfl hl.1 rfl (Nat.le_of_ble_eq_true rfl) ⟨Nat.zero_le _, Nat.zero_le _⟩ dX9_carry_42 (fun x9 w10 H locs h hW hS => ?_)
        refine rb_icmp_ge (tgt := 74) hx hb h dX9_carry_45 (by decide) (fun h => ?_) (fun h => ?_)
        · refine lv_iconst (v := (0 : Int32)) hx hb dX9_carry_74 (by decide) ?_
          exact J75 _ _ _ _ _ _ h hW hS (hl)
        · refine lv_aload_n hx hb dX9_carry_48 rfl (lv_at hl 0 rfl) ?_
          refine rw_get hx hb hts iX9 hown hW (fl 99 rfl) rfl rfl 2 (by decide) e7 rfl (v := .ref (E.2.1 100)) rfl dX9_carry_49 ?_
          refine lv_bipush (v := (25 : Int32)) hx hb dX9_carry_52 (by decide) ?_
          refine lv_iload_n hx hb dX9_carry_54 rfl (lv_at hl 1 rfl) ?_
          refine lv_imul hx hb dX9_carry_55 ?_
          refine lv_iload_n hx hb dX9_carry_56 rfl (lv_at hl 3 rfl) ?_
          refine lv_iadd hx hb dX9_carry_57 ?_
          refine rw_iald hx hb hW (fun _ => (fl 100 rfl)) h dX9_carry_58 (fun x11 h => ?_)
          refine lv_aload_n hx hb dX9_carry_59 rfl (lv_at hl 0 rfl) ?_
          refine rw_get hx hb hts iX9 hown hW (fl 99 rfl) rfl rfl 2 (by decide) e7 rfl (v := .ref (E.2.1 100)) rfl dX9_carry_60 ?_
          refine lv_bipush (v := (25 : Int32)) hx hb dX9_carry_63 (by decide) ?_
          refine lv_iload_n hx hb dX9_carry_65 rfl (lv_at hl 2 rfl) ?_
          refine lv_imul hx hb dX9_carry_66 ?_
          refine lv_iload_n hx hb dX9_carry_67 rfl (lv_at hl 3 rfl) ?_
          refine lv_iadd hx hb dX9_carry_68 ?_
          refine rw_iald hx hb hW (fun _ => (fl 100 rfl)) h dX9_carry_69 (fun x12 h => ?_)
          refine lv_isub hx hb dX9_carry_70 ?_
          refine lv_goto (tgt := 75) hx hb dX9_carry_71 (by decide) ?_
          exact J75 _ _ _ _ _ _ h hW hS (hl)
  unfold fX9_carry at h
  refine lv_iload_n hx hb dX9_carry_0 rfl (lv_at hl 1 rfl) ?_
  refine rc_Si (As := [.int p1]) (rest := []) S hW hS h (kX9_isSlot l E p1 w) (va_cwS 1 hts gX9_carry_X9_isSlot rfl rfl rfl hdX9_isSlot ⟨Nat.le_of_ble_eq_true rfl, Nat.le_of_ble_eq_true rfl⟩) rfl hl.1 rfl (Nat.le_of_ble_eq_true rfl) ⟨Nat.zero_le _, Nat.zero_le _⟩ dX9_carry_1 (fun x1 w2 H locs h hW hS => ?_)
  refine rb_if_eq (tgt := 14) hx hb h dX9_carry_4 (by decide) (fun h => ?_) (fun h => ?_)
  · refine lv_iconst (v := (-1 : Int32)) hx hb dX9_carry_14 (by decide) ?_
    exact rrI hQ hW hS h dX9_carry_15
  · refine lv_iload_n hx hb dX9_carry_7 rfl (lv_at hl 2 rfl) ?_
    refine rc_Si (As := [.int p2]) (rest := []) S hW hS h (kX9_isSlot l E p2 w2) (va_cwS 1 hts gX9_carry_X9_isSlot rfl rfl rfl hdX9_isSlot ⟨Nat.le_of_ble_eq_true rfl, Nat.le_of_ble_eq_true rfl⟩) rfl hl.1 rfl (Nat.le_of_ble_eq_true rfl) ⟨Nat.zero_le _, Nat.zero_le _⟩ dX9_carry_8 (fun x3 w4 H locs h hW hS => ?_)
    refine rb_if_ne (tgt := 16) hx hb h dX9_carry_11 (by decide) (fun h => ?_) (fun h => ?_)
    · refine lv_aload_n hx hb dX9_carry_16 rfl (lv_at hl 0 rfl) ?_
      refine lv_iload_n hx hb dX9_carry_17 rfl (lv_at hl 1 rfl) ?_
      refine rc_Vi (k := 99) (As := [.int p1]) (rest := []) S hW hS h (kX9_cubesOf l E p1 w4) (cwV 1 hts gX9_carry_X9_cubesOf rfl rfl rfl hdX9_cubesOf ⟨Nat.le_of_ble_eq_true rfl, Nat.le_of_ble_eq_true rfl⟩) (fl 99 rfl) rfl rfl rfl rfl hl.1 rfl (Nat.le_of_ble_eq_true rfl) ⟨Nat.zero_le _, Nat.zero_le _⟩ dX9_carry_18 (fun x5 w6 H locs h hW hS => ?_)
      refine lv_aload_n hx hb dX9_carry_21 rfl (lv_at hl 0 rfl) ?_
      refine lv_iload_n hx hb dX9_carry_22 rfl (lv_at hl 2 rfl) ?_
      refine rc_Vi (k := 99) (As := [.int p2]) (rest := [.int x5]) S hW hS h (kX9_cubesOf l E p2 w6) (cwV 1 hts gX9_carry_X9_cubesOf rfl rfl rfl hdX9_cubesOf ⟨Nat.le_of_ble_eq_true rfl, Nat.le_of_ble_eq_true rfl⟩) (fl 99 rfl) rfl rfl rfl rfl hl.1 rfl (Nat.le_of_ble_eq_true rfl) ⟨Nat.zero_le _, Nat.zero_le _⟩ dX9_carry_23 (fun x7 w8 H locs h hW hS => ?_)
      refine rb_icmp_eq (tgt := 32) hx hb h dX9_carry_26 (by decide) (fun h => ?_) (fun h => ?_)
      · refine lv_iconst (v := (0 : Int32)) hx hb dX9_carry_32 (by decide) ?_
        refine lv_istore_n (lv' := [(3, .int (0 : Int32)), (0, .ref (E.2.1 99)), (1, .int p1), (2, .int p2)]) hx hb dX9_carry_33 rfl hl (by decide) rfl (fun ls hl => ?_)
        exact J34 _ _ _ _ _ _ h hW hS (lv_sub hl [1, 2, 3, 0] rfl)
      · refine lv_bipush (v := (-9 : Int32)) hx hb dX9_carry_29 (by decide) ?_
        exact rrI hQ hW hS h dX9_carry_31
    · refine lv_iconst (v := (-1 : Int32)) hx hb dX9_carry_14 (by decide) ?_
      exact rrI hQ hW hS h dX9_carry_15
noncomputable def jX9_mayTurn_17 (p1 : Int32)  (w : Wd) : Option (Int32 × Wd) :=
  zr (1 : Int32) w
noncomputable def fX9_mayTurn (p1 : Int32) (w : Wd) : Option (Int32 × Wd) :=
  (rmI p1 (2 : Int32)).bind fun x1 => if x1 = 0 then jX9_mayTurn_17 p1 w else if (w.1 99 0) = (w.1 99 1) then jX9_mayTurn_17 p1 w else zr (0 : Int32) w
abbrev rmX9_mayTurn : Room := { frames := 0, cells := 0, slots := 0, locals := 0 }
set_option maxHeartbeats 4000000 in
set_option maxRecDepth 100000 in
theorem kX9_mayTurn (l : Launch) (E : Ev) (p1 : Int32) (w : Wd) (q : Int32 × Wd) (h : fX9_mayTurn p1 w = some q) : CtI l yX9_mayTurn wsX9_mayTurn rmX9_mayTurn E full [.ref (E.2.1 99), .int p1] w q := by
  refine mkZ (cc := cX9_mayTurn) (maxL := 2) (by decide) rfl (Nat.le_of_ble_eq_true rfl) ?_
  intro p e s m args below meth c Q S hW hQ ls hl
  obtain ⟨hx, hb, hml, hown, hts⟩ := id S
  have hW0 := hW
  have hS : va_S (wA E full) s.heap s.heap [] := va_S.rf
  have hl : lv_has ls 2 [(0, .ref (E.2.1 99)), (1, .int p1)] := hl
  have iX9 : ∀ w ∈ wsX90, w ∈ wsX9_mayTurn := by decide +kernel
  have e85 := hts (.fieldLink RX9 85 "CubeHeapsModel" "wide" "I") (by decide +kernel)
  have e88 := hts (.fieldLink RX9 88 "CubeHeapsModel" "tall" "I") (by decide +kernel)
  have J17 : ∀  (w : Wd) (H : Heap) (locs : List Loc) (ls : Array Slot), jX9_mayTurn_17 p1 w = some q → World E full w s H → va_S (wA E full) s.heap H locs → lv_has ls 2 [] → W p l e rmX9_mayTurn s m args below meth c H locs 0 0 Q (F0 m 17 ls []) := by
    intro  w H locs ls h hW hS hl
    unfold jX9_mayTurn_17 at h
    refine lv_iconst (v := (1 : Int32)) hx hb dX9_mayTurn_17 (by decide) ?_
    refine lv_goto (tgt := 22) hx hb dX9_mayTurn_18 (by decide) ?_
    exact rrZ hQ hW hS h dX9_mayTurn_22
  unfold fX9_mayTurn at h
  refine lv_iload_n hx hb dX9_mayTurn_0 rfl (lv_at hl 1 rfl) ?_
  refine lv_iconst (v := (2 : Int32)) hx hb dX9_mayTurn_1 (by decide) ?_
  refine rb_rem hx hb h dX9_mayTurn_2 (fun x1 h => ?_)
  refine rb_if_eq (tgt := 17) hx hb h dX9_mayTurn_3 (by decide) (fun h => ?_) (fun h => ?_)
  · exact J17  _ _ _ _ h hW hS (lv_sub hl [] rfl)
  · refine lv_aload_n hx hb dX9_mayTurn_6 rfl (lv_at hl 0 rfl) ?_
    refine rw_get hx hb hts iX9 hown hW (fl 99 rfl) rfl rfl 0 (by decide) e85 rfl (v := .int (w.1 99 0)) rfl dX9_mayTurn_7 ?_
    refine lv_aload_n hx hb dX9_mayTurn_10 rfl (lv_at hl 0 rfl) ?_
    refine rw_get hx hb hts iX9 hown hW (fl 99 rfl) rfl rfl 1 (by decide) e88 rfl (v := .int (w.1 99 1)) rfl dX9_mayTurn_11 ?_
    refine rb_icmp_ne (tgt := 21) hx hb h dX9_mayTurn_14 (by decide) (fun h => ?_) (fun h => ?_)
    · refine lv_iconst (v := (0 : Int32)) hx hb dX9_mayTurn_21 (by decide) ?_
      exact rrZ hQ hW hS h dX9_mayTurn_22
    · exact J17  _ _ _ _ h hW hS (lv_sub hl [] rfl)
noncomputable def jX9_comesTo_27 (p1 : Int32) (p2 : Int32) (s0 : Int32)  (w : Wd) : Option (Int32 × Wd) :=
  (dvI p1 (w.1 99 0)).bind fun x3 => (rmI p2 (4 : Int32)).bind fun x4 => if x4 = 0 then some (((x3 * (w.1 99 0)) + s0), w) else if x4 = 1 then some (((((s0 * (w.1 99 0)) + (w.1 99 1)) - (1 : Int32)) - x3), w) else if x4 = 2 then some ((((((((w.1 99 1) - (1 : Int32)) - x3) * (w.1 99 0)) + (w.1 99 0)) - (1 : Int32)) - s0), w) else some ((((((w.1 99 0) - (1 : Int32)) - s0) * (w.1 99 0)) + x3), w)
noncomputable def fX9_comesTo (p1 : Int32) (p2 : Int32) (w : Wd) : Option (Int32 × Wd) :=
  if p2 ≤ (3 : Int32) then (rmI p1 (w.1 99 0)).bind fun x1 => jX9_comesTo_27 p1 p2 x1 w else (rmI p1 (w.1 99 0)).bind fun x2 => jX9_comesTo_27 p1 p2 (((w.1 99 0) - (1 : Int32)) - x2) w
abbrev rmX9_comesTo : Room := { frames := 0, cells := 0, slots := 0, locals := 0 }
set_option maxHeartbeats 4000000 in
set_option maxRecDepth 100000 in
theorem kX9_comesTo (l : Launch) (E : Ev) (p1 : Int32) (p2 : Int32) (w : Wd) (q : Int32 × Wd) (h : fX9_comesTo p1 p2 w = some q) : CtI l yX9_comesTo wsX9_comesTo rmX9_comesTo E full [.ref (E.2.1 99), .int p1, .int p2] w q := by
  refine mkI (cc := cX9_comesTo) (maxL := 5) (by decide) rfl (Nat.le_of_ble_eq_true rfl) ?_
  intro p e s m args below meth c Q S hW hQ ls hl
  obtain ⟨hx, hb, hml, hown, hts⟩ := id S
  have hW0 := hW
  have hS : va_S (wA E full) s.heap s.heap [] := va_S.rf
  have hl : lv_has ls 5 [(0, .ref (E.2.1 99)), (1, .int p1), (2, .int p2)] := hl
  have iX9 : ∀ w ∈ wsX90, w ∈ wsX9_comesTo := by decide +kernel
  have e85 := hts (.fieldLink RX9 85 "CubeHeapsModel" "wide" "I") (by decide +kernel)
  have e88 := hts (.fieldLink RX9 88 "CubeHeapsModel" "tall" "I") (by decide +kernel)
  have J27 : ∀ (s0 : Int32) (w : Wd) (H : Heap) (locs : List Loc) (ls : Array Slot), jX9_comesTo_27 p1 p2 s0 w = some q → World E full w s H → va_S (wA E full) s.heap H locs → lv_has ls 5 [(0, .ref (E.2.1 99)), (1, .int p1), (2, .int p2)] → W p l e rmX9_comesTo s m args below meth c H locs 0 0 Q (F0 m 27 ls [.int s0]) := by
    intro s0 w H locs ls h hW hS hl
    unfold jX9_comesTo_27 at h
    refine lv_istore_n (lv' := [(3, .int s0), (0, .ref (E.2.1 99)), (1, .int p1), (2, .int p2)]) hx hb dX9_comesTo_27 rfl hl (by decide) rfl (fun ls hl => ?_)
    refine lv_iload_n hx hb dX9_comesTo_28 rfl (lv_at hl 2 rfl) ?_
    refine lv_aload_n hx hb dX9_comesTo_29 rfl (lv_at hl 1 rfl) ?_
    refine rw_get hx hb hts iX9 hown hW (fl 99 rfl) rfl rfl 0 (by decide) e85 rfl (v := .int (w.1 99 0)) rfl dX9_comesTo_30 ?_
    refine rb_div hx hb h dX9_comesTo_33 (fun x3 h => ?_)
    refine lv_istore (lv' := [(4, .int x3), (3, .int s0), (0, .ref (E.2.1 99)), (1, .int p1), (2, .int p2)]) hx hb dX9_comesTo_34 hl (by decide) rfl (fun ls hl => ?_)
    refine lv_iload_n hx hb dX9_comesTo_36 rfl (lv_at hl 4 rfl) ?_
    refine lv_iconst (v := (4 : Int32)) hx hb dX9_comesTo_37 (by decide) ?_
    refine rb_rem hx hb h dX9_comesTo_38 (fun x4 h => ?_)
    by_cases c0 : x4 = 0
    · rw [if_pos c0] at h
      refine lv_tableIn (off := 25) (tgt := 64) hx hb dX9_comesTo_39 (by rw [c0]; decide) (by rw [c0]; decide) (by rw [c0]; rfl) (by decide) ?_
      refine lv_iload hx hb dX9_comesTo_64 (lv_at hl 0 rfl) ?_
      refine lv_aload_n hx hb dX9_comesTo_66 rfl (lv_at hl 2 rfl) ?_
      refine rw_get hx hb hts iX9 hown hW (fl 99 rfl) rfl rfl 0 (by decide) e85 rfl (v := .int (w.1 99 0)) rfl dX9_comesTo_67 ?_
      refine lv_imul hx hb dX9_comesTo_70 ?_
      refine lv_iload_n hx hb dX9_comesTo_71 rfl (lv_at hl 1 rfl) ?_
      refine lv_iadd hx hb dX9_comesTo_72 ?_
      exact rrI hQ hW hS h dX9_comesTo_73
    rw [if_neg c0] at h
    by_cases c1 : x4 = 1
    · rw [if_pos c1] at h
      refine lv_tableIn (off := 35) (tgt := 74) hx hb dX9_comesTo_39 (by rw [c1]; decide) (by rw [c1]; decide) (by rw [c1]; rfl) (by decide) ?_
      refine lv_iload_n hx hb dX9_comesTo_74 rfl (lv_at hl 1 rfl) ?_
      refine lv_aload_n hx hb dX9_comesTo_75 rfl (lv_at hl 2 rfl) ?_
      refine rw_get hx hb hts iX9 hown hW (fl 99 rfl) rfl rfl 0 (by decide) e85 rfl (v := .int (w.1 99 0)) rfl dX9_comesTo_76 ?_
      refine lv_imul hx hb dX9_comesTo_79 ?_
      refine lv_aload_n hx hb dX9_comesTo_80 rfl (lv_at hl 2 rfl) ?_
      refine rw_get hx hb hts iX9 hown hW (fl 99 rfl) rfl rfl 1 (by decide) e88 rfl (v := .int (w.1 99 1)) rfl dX9_comesTo_81 ?_
      refine lv_iadd hx hb dX9_comesTo_84 ?_
      refine lv_iconst (v := (1 : Int32)) hx hb dX9_comesTo_85 (by decide) ?_
      refine lv_isub hx hb dX9_comesTo_86 ?_
      refine lv_iload hx hb dX9_comesTo_87 (lv_at hl 0 rfl) ?_
      refine lv_isub hx hb dX9_comesTo_89 ?_
      exact rrI hQ hW hS h dX9_comesTo_90
    rw [if_neg c1] at h
    by_cases c2 : x4 = 2
    · rw [if_pos c2] at h
      refine lv_tableIn (off := 52) (tgt := 91) hx hb dX9_comesTo_39 (by rw [c2]; decide) (by rw [c2]; decide) (by rw [c2]; rfl) (by decide) ?_
      refine lv_aload_n hx hb dX9_comesTo_91 rfl (lv_at hl 2 rfl) ?_
      refine rw_get hx hb hts iX9 hown hW (fl 99 rfl) rfl rfl 1 (by decide) e88 rfl (v := .int (w.1 99 1)) rfl dX9_comesTo_92 ?_
      refine lv_iconst (v := (1 : Int32)) hx hb dX9_comesTo_95 (by decide) ?_
      refine lv_isub hx hb dX9_comesTo_96 ?_
      refine lv_iload hx hb dX9_comesTo_97 (lv_at hl 0 rfl) ?_
      refine lv_isub hx hb dX9_comesTo_99 ?_
      refine lv_aload_n hx hb dX9_comesTo_100 rfl (lv_at hl 2 rfl) ?_
      refine rw_get hx hb hts iX9 hown hW (fl 99 rfl) rfl rfl 0 (by decide) e85 rfl (v := .int (w.1 99 0)) rfl dX9_comesTo_101 ?_
      refine lv_imul hx hb dX9_comesTo_104 ?_
      refine lv_aload_n hx hb dX9_comesTo_105 rfl (lv_at hl 2 rfl) ?_
      refine rw_get hx hb hts iX9 hown hW (fl 99 rfl) rfl rfl 0 (by decide) e85 rfl (v := .int (w.1 99 0)) rfl dX9_comesTo_106 ?_
      refine lv_iadd hx hb dX9_comesTo_109 ?_
      refine lv_iconst (v := (1 : Int32)) hx hb dX9_comesTo_110 (by decide) ?_
      refine lv_isub hx hb dX9_comesTo_111 ?_
      refine lv_iload_n hx hb dX9_comesTo_112 rfl (lv_at hl 1 rfl) ?_
      refine lv_isub hx hb dX9_comesTo_113 ?_
      exact rrI hQ hW hS h dX9_comesTo_114
    rw [if_neg c2] at h
    refine lv_tableOut (tgt := 115) hx hb dX9_comesTo_39 (by have z0 := lv_neT c0 (a := 0) (by decide); have z1 := lv_neT c1 (a := 1) (by decide); have z2 := lv_neT c2 (a := 2) (by decide); omega) (by decide) ?_
    refine lv_aload_n hx hb dX9_comesTo_115 rfl (lv_at hl 2 rfl) ?_
    refine rw_get hx hb hts iX9 hown hW (fl 99 rfl) rfl rfl 0 (by decide) e85 rfl (v := .int (w.1 99 0)) rfl dX9_comesTo_116 ?_
    refine lv_iconst (v := (1 : Int32)) hx hb dX9_comesTo_119 (by decide) ?_
    refine lv_isub hx hb dX9_comesTo_120 ?_
    refine lv_iload_n hx hb dX9_comesTo_121 rfl (lv_at hl 1 rfl) ?_
    refine lv_isub hx hb dX9_comesTo_122 ?_
    refine lv_aload_n hx hb dX9_comesTo_123 rfl (lv_at hl 2 rfl) ?_
    refine rw_get hx hb hts iX9 hown hW (fl 99 rfl) rfl rfl 0 (by decide) e85 rfl (v := .int (w.1 99 0)) rfl dX9_comesTo_124 ?_
    refine lv_imul hx hb dX9_comesTo_127 ?_
    refine lv_iload hx hb dX9_comesTo_128 (lv_at hl 0 rfl) ?_
    refine lv_iadd hx hb dX9_comesTo_130 ?_
    exact rrI hQ hW hS h dX9_comesTo_131
  unfold fX9_comesTo at h
  refine lv_iload_n hx hb dX9_comesTo_0 rfl (lv_at hl 2 rfl) ?_
  refine lv_iconst (v := (3 : Int32)) hx hb dX9_comesTo_1 (by decide) ?_
  refine rb_icmp_le (tgt := 21) hx hb h dX9_comesTo_2 (by decide) (fun h => ?_) (fun h => ?_)
  · refine lv_iload_n hx hb dX9_comesTo_21 rfl (lv_at hl 1 rfl) ?_
    refine lv_aload_n hx hb dX9_comesTo_22 rfl (lv_at hl 0 rfl) ?_
    refine rw_get hx hb hts iX9 hown hW (fl 99 rfl) rfl rfl 0 (by decide) e85 rfl (v := .int (w.1 99 0)) rfl dX9_comesTo_23 ?_
    refine rb_rem hx hb h dX9_comesTo_26 (fun x1 h => ?_)
    exact J27 _ _ _ _ _ h hW hS (hl)
  · refine lv_aload_n hx hb dX9_comesTo_5 rfl (lv_at hl 0 rfl) ?_
    refine rw_get hx hb hts iX9 hown hW (fl 99 rfl) rfl rfl 0 (by decide) e85 rfl (v := .int (w.1 99 0)) rfl dX9_comesTo_6 ?_
    refine lv_iconst (v := (1 : Int32)) hx hb dX9_comesTo_9 (by decide) ?_
    refine lv_isub hx hb dX9_comesTo_10 ?_
    refine lv_iload_n hx hb dX9_comesTo_11 rfl (lv_at hl 1 rfl) ?_
    refine lv_aload_n hx hb dX9_comesTo_12 rfl (lv_at hl 0 rfl) ?_
    refine rw_get hx hb hts iX9 hown hW (fl 99 rfl) rfl rfl 0 (by decide) e85 rfl (v := .int (w.1 99 0)) rfl dX9_comesTo_13 ?_
    refine rb_rem hx hb h dX9_comesTo_16 (fun x2 h => ?_)
    refine lv_isub hx hb dX9_comesTo_17 ?_
    refine lv_goto (tgt := 27) hx hb dX9_comesTo_18 (by decide) ?_
    exact J27 _ _ _ _ _ h hW hS (hl)
noncomputable def bX9_layTurned_2 (p1 : Int32) (p2 : Int32) (k2 : Int32 → Wd → Option (Unit × Wd)) (v3 : Int32)  (w : Wd) : Option (Unit × Wd) :=
  bnd (fX9_cells w) fun x1 w2 => if x1 ≤ v3 then some ((), w2) else bnd (fX9_comesTo v3 p2 w2) fun x3 w4 => (gI w4 100 (((25 : Int32) * p1) + v3)).bind fun x5 => (sI w4 120 x3 x5).bind fun w6 => k2 (v3 + (1 : Int32)) w6
noncomputable def fX9_layTurned (p1 : Int32) (p2 : Int32) (w : Wd) : Option (Unit × Wd) :=
  lp (fun _ _ => none) (bX9_layTurned_2 p1 p2) G (0 : Int32) w
abbrev rmX9_layTurned : Room := { frames := 1, cells := 0, slots := 0, locals := 24 }
set_option maxHeartbeats 4000000 in
set_option maxRecDepth 100000 in
theorem kX9_layTurned (l : Launch) (E : Ev) (p1 : Int32) (p2 : Int32) (w : Wd) (q : Unit × Wd) (h : fX9_layTurned p1 p2 w = some q) : CtV l yX9_layTurned wsX9_layTurned rmX9_layTurned E full [.ref (E.2.1 99), .int p1, .int p2] w q := by
  refine mkV (cc := cX9_layTurned) (maxL := 4) (by decide) rfl (Nat.le_of_ble_eq_true rfl) ?_
  intro p e s m args below meth c Q S hW hQ ls hl
  obtain ⟨hx, hb, hml, hown, hts⟩ := id S
  have hW0 := hW
  have hS : va_S (wA E full) s.heap s.heap [] := va_S.rf
  have hl : lv_has ls 4 [(0, .ref (E.2.1 99)), (1, .int p1), (2, .int p2)] := hl
  have iX9 : ∀ w ∈ wsX90, w ∈ wsX9_layTurned := by decide +kernel
  have e7 := hts (.fieldLink RX9 7 "CubeHeapsModel" "heap" "[I") (by decide +kernel)
  have e75 := hts (.fieldLink RX9 75 "CubeHeapsModel" "turned" "[I") (by decide +kernel)
  have J2 : ∀ (n : Nat) (v3 : Int32) (w : Wd) (H : Heap) (locs : List Loc) (ls : Array Slot), lp (fun _ _ => none) (bX9_layTurned_2 p1 p2) n v3 w = some q → World E full w s H → va_S (wA E full) s.heap H locs → lv_has ls 4 [(0, .ref (E.2.1 99)), (1, .int p1), (2, .int p2), (3, .int v3)] → W p l e rmX9_layTurned s m args below meth c H locs 0 0 Q (F0 m 2 ls []) := by
    intro n
    induction n with
    | zero =>
      intro v3 w H locs ls h hW hS hl
      exact absurd (show (none : Option (Unit × Wd)) = some q from h) (fun z => by cases z)
    | succ n ih2 =>
      intro v3 w H locs ls h hW hS hl
      have h : bX9_layTurned_2 p1 p2 (lp (fun _ _ => none) (bX9_layTurned_2 p1 p2) n) v3 w = some q := h
      generalize lp (fun _ _ => none) (bX9_layTurned_2 p1 p2) n = k2 at h ih2
      unfold bX9_layTurned_2 at h
      refine lv_iload_n hx hb dX9_layTurned_2 rfl (lv_at hl 3 rfl) ?_
      refine lv_aload_n hx hb dX9_layTurned_3 rfl (lv_at hl 0 rfl) ?_
      refine rc_Vi (k := 99) (As := []) (rest := [.int v3]) S hW hS h (kX9_cells l E  w) (cwV 0 hts gX9_layTurned_X9_cells rfl rfl rfl hdX9_cells ⟨Nat.le_of_ble_eq_true rfl, Nat.le_of_ble_eq_true rfl⟩) (fl 99 rfl) rfl rfl rfl rfl hl.1 rfl (Nat.le_of_ble_eq_true rfl) ⟨Nat.zero_le _, Nat.zero_le _⟩ dX9_layTurned_4 (fun x1 w2 H locs h hW hS => ?_)
      refine rb_icmp_ge (tgt := 38) hx hb h dX9_layTurned_7 (by decide) (fun h => ?_) (fun h => ?_)
      · exact rrV hQ hW hS h dX9_layTurned_38
      · refine lv_aload_n hx hb dX9_layTurned_10 rfl (lv_at hl 0 rfl) ?_
        refine rw_get hx hb hts iX9 hown hW (fl 99 rfl) rfl rfl 24 (by decide) e75 rfl (v := .ref (E.2.1 120)) rfl dX9_layTurned_11 ?_
        refine lv_aload_n hx hb dX9_layTurned_14 rfl (lv_at hl 0 rfl) ?_
        refine lv_iload_n hx hb dX9_layTurned_15 rfl (lv_at hl 3 rfl) ?_
        refine lv_iload_n hx hb dX9_layTurned_16 rfl (lv_at hl 2 rfl) ?_
        refine rc_Vi (k := 99) (As := [.int v3, .int p2]) (rest := [.ref (E.2.1 120)]) S hW hS h (kX9_comesTo l E v3 p2 w2) (cwV 2 hts gX9_layTurned_X9_comesTo rfl rfl rfl hdX9_comesTo ⟨Nat.le_of_ble_eq_true rfl, Nat.le_of_ble_eq_true rfl⟩) (fl 99 rfl) rfl rfl rfl rfl hl.1 rfl (Nat.le_of_ble_eq_true rfl) ⟨Nat.zero_le _, Nat.zero_le _⟩ dX9_layTurned_17 (fun x3 w4 H locs h hW hS => ?_)
        refine lv_aload_n hx hb dX9_layTurned_20 rfl (lv_at hl 0 rfl) ?_
        refine rw_get hx hb hts iX9 hown hW (fl 99 rfl) rfl rfl 2 (by decide) e7 rfl (v := .ref (E.2.1 100)) rfl dX9_layTurned_21 ?_
        refine lv_bipush (v := (25 : Int32)) hx hb dX9_layTurned_24 (by decide) ?_
        refine lv_iload_n hx hb dX9_layTurned_26 rfl (lv_at hl 1 rfl) ?_
        refine lv_imul hx hb dX9_layTurned_27 ?_
        refine lv_iload_n hx hb dX9_layTurned_28 rfl (lv_at hl 3 rfl) ?_
        refine lv_iadd hx hb dX9_layTurned_29 ?_
        refine rw_iald hx hb hW (fun _ => (fl 100 rfl)) h dX9_layTurned_30 (fun x5 h => ?_)
        refine rw_iast hx hb hW hS (fun _ => (fl 120 rfl)) h dX9_layTurned_31 (fun w6 H locs h hW hS => ?_)
        refine lv_iinc (v := (v3 + (1 : Int32))) (lv' := [(3, .int (v3 + (1 : Int32))), (0, .ref (E.2.1 99)), (1, .int p1), (2, .int p2)]) hx hb dX9_layTurned_32 hl (k := 3) rfl rfl (by decide) rfl (fun ls hl => ?_)
        refine lv_goto (tgt := 2) hx hb dX9_layTurned_35 (by decide) ?_
        exact ih2 _ _ _ _ _ h hW hS (lv_sub hl [1, 2, 3, 0] rfl)
  unfold fX9_layTurned at h
  refine lv_iconst (v := (0 : Int32)) hx hb dX9_layTurned_0 (by decide) ?_
  refine lv_istore_n (lv' := [(3, .int (0 : Int32)), (0, .ref (E.2.1 99)), (1, .int p1), (2, .int p2)]) hx hb dX9_layTurned_1 rfl hl (by decide) rfl (fun ls hl => ?_)
  exact J2 _ _ _ _ _ _ h hW hS (lv_sub hl [1, 2, 3, 0] rfl)
noncomputable def jX9_unlikeTurned_38 (p1 : Int32) (k4 : Int32 → Int32 → Wd → Option (Int32 × Wd)) (v3 : Int32) (s0 : Int32) (s1 : Int32)  (w : Wd) : Option (Int32 × Wd) :=
  k4 (s1 + s0) (v3 + (1 : Int32)) w
noncomputable def bX9_unlikeTurned_4 (p1 : Int32) (k4 : Int32 → Int32 → Wd → Option (Int32 × Wd)) (v2 : Int32) (v3 : Int32)  (w : Wd) : Option (Int32 × Wd) :=
  bnd (fX9_cells w) fun x1 w2 => if x1 ≤ v3 then some (v2, w2) else (gI w2 120 v3).bind fun x3 => (gI w2 100 (((25 : Int32) * p1) + v3)).bind fun x4 => if x3 = x4 then jX9_unlikeTurned_38 p1 k4 v3 (0 : Int32) v2 w2 else jX9_unlikeTurned_38 p1 k4 v3 (1 : Int32) v2 w2
noncomputable def fX9_unlikeTurned (p1 : Int32) (w : Wd) : Option (Int32 × Wd) :=
  lp (fun _ _ _ => none) (bX9_unlikeTurned_4 p1) G (0 : Int32) (0 : Int32) w
abbrev rmX9_unlikeTurned : Room := { frames := 1, cells := 0, slots := 0, locals := 20 }
set_option maxHeartbeats 4000000 in
set_option maxRecDepth 100000 in
theorem kX9_unlikeTurned (l : Launch) (E : Ev) (p1 : Int32) (w : Wd) (q : Int32 × Wd) (h : fX9_unlikeTurned p1 w = some q) : CtI l yX9_unlikeTurned wsX9_unlikeTurned rmX9_unlikeTurned E full [.ref (E.2.1 99), .int p1] w q := by
  refine mkI (cc := cX9_unlikeTurned) (maxL := 4) (by decide) rfl (Nat.le_of_ble_eq_true rfl) ?_
  intro p e s m args below meth c Q S hW hQ ls hl
  obtain ⟨hx, hb, hml, hown, hts⟩ := id S
  have hW0 := hW
  have hS : va_S (wA E full) s.heap s.heap [] := va_S.rf
  have hl : lv_has ls 4 [(0, .ref (E.2.1 99)), (1, .int p1)] := hl
  have iX9 : ∀ w ∈ wsX90, w ∈ wsX9_unlikeTurned := by decide +kernel
  have e7 := hts (.fieldLink RX9 7 "CubeHeapsModel" "heap" "[I") (by decide +kernel)
  have e75 := hts (.fieldLink RX9 75 "CubeHeapsModel" "turned" "[I") (by decide +kernel)
  have J4 : ∀ (n : Nat) (v2 : Int32) (v3 : Int32) (w : Wd) (H : Heap) (locs : List Loc) (ls : Array Slot), lp (fun _ _ _ => none) (bX9_unlikeTurned_4 p1) n v2 v3 w = some q → World E full w s H → va_S (wA E full) s.heap H locs → lv_has ls 4 [(0, .ref (E.2.1 99)), (1, .int p1), (2, .int v2), (3, .int v3)] → W p l e rmX9_unlikeTurned s m args below meth c H locs 0 0 Q (F0 m 4 ls []) := by
    intro n
    induction n with
    | zero =>
      intro v2 v3 w H locs ls h hW hS hl
      exact absurd (show (none : Option (Int32 × Wd)) = some q from h) (fun z => by cases z)
    | succ n ih4 =>
      intro v2 v3 w H locs ls h hW hS hl
      have h : bX9_unlikeTurned_4 p1 (lp (fun _ _ _ => none) (bX9_unlikeTurned_4 p1) n) v2 v3 w = some q := h
      generalize lp (fun _ _ _ => none) (bX9_unlikeTurned_4 p1) n = k4 at h ih4
      have J38 : ∀ (v3 : Int32) (s0 : Int32) (s1 : Int32) (w : Wd) (H : Heap) (locs : List Loc) (ls : Array Slot), jX9_unlikeTurned_38 p1 k4 v3 s0 s1 w = some q → World E full w s H → va_S (wA E full) s.heap H locs → lv_has ls 4 [(0, .ref (E.2.1 99)), (1, .int p1), (3, .int v3)] → W p l e rmX9_unlikeTurned s m args below meth c H locs 0 0 Q (F0 m 38 ls [.int s0, .int s1]) := by
        intro v3 s0 s1 w H locs ls h hW hS hl
        unfold jX9_unlikeTurned_38 at h
        refine lv_iadd hx hb dX9_unlikeTurned_38 ?_
        refine lv_istore_n (lv' := [(2, .int (s1 + s0)), (0, .ref (E.2.1 99)), (1, .int p1), (3, .int v3)]) hx hb dX9_unlikeTurned_39 rfl hl (by decide) rfl (fun ls hl => ?_)
        refine lv_iinc (v := (v3 + (1 : Int32))) (lv' := [(3, .int (v3 + (1 : Int32))), (2, .int (s1 + s0)), (0, .ref (E.2.1 99)), (1, .int p1)]) hx hb dX9_unlikeTurned_40 hl (k := 3) rfl rfl (by decide) rfl (fun ls hl => ?_)
        refine lv_goto (tgt := 4) hx hb dX9_unlikeTurned_43 (by decide) ?_
        exact ih4 _ _ _ _ _ _ h hW hS (lv_sub hl [2, 3, 1, 0] rfl)
      unfold bX9_unlikeTurned_4 at h
      refine lv_iload_n hx hb dX9_unlikeTurned_4 rfl (lv_at hl 3 rfl) ?_
      refine lv_aload_n hx hb dX9_unlikeTurned_5 rfl (lv_at hl 0 rfl) ?_
      refine rc_Vi (k := 99) (As := []) (rest := [.int v3]) S hW hS h (kX9_cells l E  w) (cwV 0 hts gX9_unlikeTurned_X9_cells rfl rfl rfl hdX9_cells ⟨Nat.le_of_ble_eq_true rfl, Nat.le_of_ble_eq_true rfl⟩) (fl 99 rfl) rfl rfl rfl rfl hl.1 rfl (Nat.le_of_ble_eq_true rfl) ⟨Nat.zero_le _, Nat.zero_le _⟩ dX9_unlikeTurned_6 (fun x1 w2 H locs h hW hS => ?_)
      refine rb_icmp_ge (tgt := 46) hx hb h dX9_unlikeTurned_9 (by decide) (fun h => ?_) (fun h => ?_)
      · refine lv_iload_n hx hb dX9_unlikeTurned_46 rfl (lv_at hl 2 rfl) ?_
        exact rrI hQ hW hS h dX9_unlikeTurned_47
      · refine lv_iload_n hx hb dX9_unlikeTurned_12 rfl (lv_at hl 2 rfl) ?_
        refine lv_aload_n hx hb dX9_unlikeTurned_13 rfl (lv_at hl 0 rfl) ?_
        refine rw_get hx hb hts iX9 hown hW (fl 99 rfl) rfl rfl 24 (by decide) e75 rfl (v := .ref (E.2.1 120)) rfl dX9_unlikeTurned_14 ?_
        refine lv_iload_n hx hb dX9_unlikeTurned_17 rfl (lv_at hl 3 rfl) ?_
        refine rw_iald hx hb hW (fun _ => (fl 120 rfl)) h dX9_unlikeTurned_18 (fun x3 h => ?_)
        refine lv_aload_n hx hb dX9_unlikeTurned_19 rfl (lv_at hl 0 rfl) ?_
        refine rw_get hx hb hts iX9 hown hW (fl 99 rfl) rfl rfl 2 (by decide) e7 rfl (v := .ref (E.2.1 100)) rfl dX9_unlikeTurned_20 ?_
        refine lv_bipush (v := (25 : Int32)) hx hb dX9_unlikeTurned_23 (by decide) ?_
        refine lv_iload_n hx hb dX9_unlikeTurned_25 rfl (lv_at hl 1 rfl) ?_
        refine lv_imul hx hb dX9_unlikeTurned_26 ?_
        refine lv_iload_n hx hb dX9_unlikeTurned_27 rfl (lv_at hl 3 rfl) ?_
        refine lv_iadd hx hb dX9_unlikeTurned_28 ?_
        refine rw_iald hx hb hW (fun _ => (fl 100 rfl)) h dX9_unlikeTurned_29 (fun x4 h => ?_)
        refine rb_icmp_eq (tgt := 37) hx hb h dX9_unlikeTurned_30 (by decide) (fun h => ?_) (fun h => ?_)
        · refine lv_iconst (v := (0 : Int32)) hx hb dX9_unlikeTurned_37 (by decide) ?_
          exact J38 _ _ _ _ _ _ _ h hW hS (lv_sub hl [0, 1, 3] rfl)
        · refine lv_iconst (v := (1 : Int32)) hx hb dX9_unlikeTurned_33 (by decide) ?_
          refine lv_goto (tgt := 38) hx hb dX9_unlikeTurned_34 (by decide) ?_
          exact J38 _ _ _ _ _ _ _ h hW hS (lv_sub hl [0, 1, 3] rfl)
  unfold fX9_unlikeTurned at h
  refine lv_iconst (v := (0 : Int32)) hx hb dX9_unlikeTurned_0 (by decide) ?_
  refine lv_istore_n (lv' := [(2, .int (0 : Int32)), (0, .ref (E.2.1 99)), (1, .int p1)]) hx hb dX9_unlikeTurned_1 rfl hl (by decide) rfl (fun ls hl => ?_)
  refine lv_iconst (v := (0 : Int32)) hx hb dX9_unlikeTurned_2 (by decide) ?_
  refine lv_istore_n (lv' := [(3, .int (0 : Int32)), (2, .int (0 : Int32)), (0, .ref (E.2.1 99)), (1, .int p1)]) hx hb dX9_unlikeTurned_3 rfl hl (by decide) rfl (fun ls hl => ?_)
  exact J4 _ _ _ _ _ _ _ h hW hS (lv_sub hl [2, 3, 1, 0] rfl)
noncomputable def bX9_turn_50 (p1 : Int32) (p2 : Int32) (k50 : Int32 → Int32 → Wd → Option (Int32 × Wd)) (v3 : Int32) (v4 : Int32)  (w : Wd) : Option (Int32 × Wd) :=
  bnd (fX9_cells w) fun x10 w11 => if x10 ≤ v4 then some (v3, w11) else (gI w11 120 v4).bind fun x12 => (sI w11 100 (((25 : Int32) * p1) + v4) x12).bind fun w13 => k50 v3 (v4 + (1 : Int32)) w13
noncomputable def fX9_turn (p1 : Int32) (p2 : Int32) (w : Wd) : Option (Int32 × Wd) :=
  bnd (fX9_isSlot p1 w) fun x1 w2 => if x1 = 0 then some ((-1 : Int32), w2) else bnd (fX9_in (p2.toInt64) (0 : Int64) (7 : Int64) w2) fun x3 w4 => if x3 = 0 then some ((-2 : Int32), w4) else bnd (fX9_mayTurn p2 w4) fun x5 w6 => if x5 = 0 then some ((-3 : Int32), w6) else bnd (fX9_layTurned p1 p2 w6) fun _ w7 => bnd (fX9_unlikeTurned p1 w7) fun x8 w9 => lp (fun _ _ _ => none) (bX9_turn_50 p1 p2) G x8 (0 : Int32) w9
abbrev rmX9_turn : Room := { frames := 2, cells := 0, slots := 0, locals := 47 }
set_option maxHeartbeats 4000000 in
set_option maxRecDepth 100000 in
theorem kX9_turn (l : Launch) (E : Ev) (p1 : Int32) (p2 : Int32) (w : Wd) (q : Int32 × Wd) (h : fX9_turn p1 p2 w = some q) : CtI l yX9_turn wsX9_turn rmX9_turn E full [.ref (E.2.1 99), .int p1, .int p2] w q := by
  refine mkI (cc := cX9_turn) (maxL := 5) (by decide) rfl (Nat.le_of_ble_eq_true rfl) ?_
  intro p e s m args below meth c Q S hW hQ ls hl
  obtain ⟨hx, hb, hml, hown, hts⟩ := id S
  have hW0 := hW
  have hS : va_S (wA E full) s.heap s.heap [] := va_S.rf
  have hl : lv_has ls 5 [(0, .ref (E.2.1 99)), (1, .int p1), (2, .int p2)] := hl
  have iX9 : ∀ w ∈ wsX90, w ∈ wsX9_turn := by decide +kernel
  have e7 := hts (.fieldLink RX9 7 "CubeHeapsModel" "heap" "[I") (by decide +kernel)
  have e75 := hts (.fieldLink RX9 75 "CubeHeapsModel" "turned" "[I") (by decide +kernel)
  have J50 : ∀ (n : Nat) (v3 : Int32) (v4 : Int32) (w : Wd) (H : Heap) (locs : List Loc) (ls : Array Slot), lp (fun _ _ _ => none) (bX9_turn_50 p1 p2) n v3 v4 w = some q → World E full w s H → va_S (wA E full) s.heap H locs → lv_has ls 5 [(0, .ref (E.2.1 99)), (1, .int p1), (3, .int v3), (4, .int v4)] → W p l e rmX9_turn s m args below meth c H locs 0 0 Q (F0 m 50 ls []) := by
    intro n
    induction n with
    | zero =>
      intro v3 v4 w H locs ls h hW hS hl
      exact absurd (show (none : Option (Int32 × Wd)) = some q from h) (fun z => by cases z)
    | succ n ih50 =>
      intro v3 v4 w H locs ls h hW hS hl
      have h : bX9_turn_50 p1 p2 (lp (fun _ _ _ => none) (bX9_turn_50 p1 p2) n) v3 v4 w = some q := h
      generalize lp (fun _ _ _ => none) (bX9_turn_50 p1 p2) n = k50 at h ih50
      unfold bX9_turn_50 at h
      refine lv_iload hx hb dX9_turn_50 (lv_at hl 3 rfl) ?_
      refine lv_aload_n hx hb dX9_turn_52 rfl (lv_at hl 0 rfl) ?_
      refine rc_Vi (k := 99) (As := []) (rest := [.int v4]) S hW hS h (kX9_cells l E  w) (cwV 0 hts gX9_turn_X9_cells rfl rfl rfl hdX9_cells ⟨Nat.le_of_ble_eq_true rfl, Nat.le_of_ble_eq_true rfl⟩) (fl 99 rfl) rfl rfl rfl rfl hl.1 rfl (Nat.le_of_ble_eq_true rfl) ⟨Nat.zero_le _, Nat.zero_le _⟩ dX9_turn_53 (fun x10 w11 H locs h hW hS => ?_)
      refine rb_icmp_ge (tgt := 84) hx hb h dX9_turn_56 (by decide) (fun h => ?_) (fun h => ?_)
      · refine lv_iload_n hx hb dX9_turn_84 rfl (lv_at hl 2 rfl) ?_
        exact rrI hQ hW hS h dX9_turn_85
      · refine lv_aload_n hx hb dX9_turn_59 rfl (lv_at hl 0 rfl) ?_
        refine rw_get hx hb hts iX9 hown hW (fl 99 rfl) rfl rfl 2 (by decide) e7 rfl (v := .ref (E.2.1 100)) rfl dX9_turn_60 ?_
        refine lv_bipush (v := (25 : Int32)) hx hb dX9_turn_63 (by decide) ?_
        refine lv_iload_n hx hb dX9_turn_65 rfl (lv_at hl 1 rfl) ?_
        refine lv_imul hx hb dX9_turn_66 ?_
        refine lv_iload hx hb dX9_turn_67 (lv_at hl 3 rfl) ?_
        refine lv_iadd hx hb dX9_turn_69 ?_
        refine lv_aload_n hx hb dX9_turn_70 rfl (lv_at hl 0 rfl) ?_
        refine rw_get hx hb hts iX9 hown hW (fl 99 rfl) rfl rfl 24 (by decide) e75 rfl (v := .ref (E.2.1 120)) rfl dX9_turn_71 ?_
        refine lv_iload hx hb dX9_turn_74 (lv_at hl 3 rfl) ?_
        refine rw_iald hx hb hW (fun _ => (fl 120 rfl)) h dX9_turn_76 (fun x12 h => ?_)
        refine rw_iast hx hb hW hS (fun _ => (fl 100 rfl)) h dX9_turn_77 (fun w13 H locs h hW hS => ?_)
        refine lv_iinc (v := (v4 + (1 : Int32))) (lv' := [(4, .int (v4 + (1 : Int32))), (0, .ref (E.2.1 99)), (1, .int p1), (3, .int v3)]) hx hb dX9_turn_78 hl (k := 3) rfl rfl (by decide) rfl (fun ls hl => ?_)
        refine lv_goto (tgt := 50) hx hb dX9_turn_81 (by decide) ?_
        exact ih50 _ _ _ _ _ _ h hW hS (lv_sub hl [1, 2, 3, 0] rfl)
  unfold fX9_turn at h
  refine lv_iload_n hx hb dX9_turn_0 rfl (lv_at hl 1 rfl) ?_
  refine rc_Si (As := [.int p1]) (rest := []) S hW hS h (kX9_isSlot l E p1 w) (va_cwS 1 hts gX9_turn_X9_isSlot rfl rfl rfl hdX9_isSlot ⟨Nat.le_of_ble_eq_true rfl, Nat.le_of_ble_eq_true rfl⟩) rfl hl.1 rfl (Nat.le_of_ble_eq_true rfl) ⟨Nat.zero_le _, Nat.zero_le _⟩ dX9_turn_1 (fun x1 w2 H locs h hW hS => ?_)
  refine rb_if_ne (tgt := 9) hx hb h dX9_turn_4 (by decide) (fun h => ?_) (fun h => ?_)
  · refine lv_iload_n hx hb dX9_turn_9 rfl (lv_at hl 2 rfl) ?_
    refine lv_i2l (v := (p2.toInt64)) hx hb dX9_turn_10 rfl ?_
    refine lv_lconst (v := (0 : Int64)) hx hb dX9_turn_11 (by decide) ?_
    refine lv_ldc2 (own := RX9) (v := (7 : Int64)) hx hb hown (hts _ (by decide +kernel)) dX9_turn_12 ?_
    refine rc_Si (As := [.long (p2.toInt64), .long (0 : Int64), .long (7 : Int64)]) (rest := []) S hW hS h (kX9_in l E (p2.toInt64) (0 : Int64) (7 : Int64) w2) (va_cwS 3 hts gX9_turn_X9_in rfl rfl rfl hdX9_in ⟨Nat.le_of_ble_eq_true rfl, Nat.le_of_ble_eq_true rfl⟩) rfl hl.1 rfl (Nat.le_of_ble_eq_true rfl) ⟨Nat.zero_le _, Nat.zero_le _⟩ dX9_turn_15 (fun x3 w4 H locs h hW hS => ?_)
    refine rb_if_ne (tgt := 24) hx hb h dX9_turn_18 (by decide) (fun h => ?_) (fun h => ?_)
    · refine lv_aload_n hx hb dX9_turn_24 rfl (lv_at hl 0 rfl) ?_
      refine lv_iload_n hx hb dX9_turn_25 rfl (lv_at hl 2 rfl) ?_
      refine rc_Vi (k := 99) (As := [.int p2]) (rest := []) S hW hS h (kX9_mayTurn l E p2 w4) (cwV 1 hts gX9_turn_X9_mayTurn rfl rfl rfl hdX9_mayTurn ⟨Nat.le_of_ble_eq_true rfl, Nat.le_of_ble_eq_true rfl⟩) (fl 99 rfl) rfl rfl rfl rfl hl.1 rfl (Nat.le_of_ble_eq_true rfl) ⟨Nat.zero_le _, Nat.zero_le _⟩ dX9_turn_26 (fun x5 w6 H locs h hW hS => ?_)
      refine rb_if_ne (tgt := 35) hx hb h dX9_turn_29 (by decide) (fun h => ?_) (fun h => ?_)
      · refine lv_aload_n hx hb dX9_turn_35 rfl (lv_at hl 0 rfl) ?_
        refine lv_iload_n hx hb dX9_turn_36 rfl (lv_at hl 1 rfl) ?_
        refine lv_iload_n hx hb dX9_turn_37 rfl (lv_at hl 2 rfl) ?_
        refine rc_Vv (k := 99) (As := [.int p1, .int p2]) (rest := []) S hW hS h (kX9_layTurned l E p1 p2 w6) (cwV 2 hts gX9_turn_X9_layTurned rfl rfl rfl hdX9_layTurned ⟨Nat.le_of_ble_eq_true rfl, Nat.le_of_ble_eq_true rfl⟩) (fl 99 rfl) rfl rfl rfl rfl hl.1 rfl (Nat.le_of_ble_eq_true rfl) ⟨Nat.zero_le _, Nat.zero_le _⟩ dX9_turn_38 (fun _ w7 H locs h hW hS => ?_)
        refine lv_aload_n hx hb dX9_turn_41 rfl (lv_at hl 0 rfl) ?_
        refine lv_iload_n hx hb dX9_turn_42 rfl (lv_at hl 1 rfl) ?_
        refine rc_Vi (k := 99) (As := [.int p1]) (rest := []) S hW hS h (kX9_unlikeTurned l E p1 w7) (cwV 1 hts gX9_turn_X9_unlikeTurned rfl rfl rfl hdX9_unlikeTurned ⟨Nat.le_of_ble_eq_true rfl, Nat.le_of_ble_eq_true rfl⟩) (fl 99 rfl) rfl rfl rfl rfl hl.1 rfl (Nat.le_of_ble_eq_true rfl) ⟨Nat.zero_le _, Nat.zero_le _⟩ dX9_turn_43 (fun x8 w9 H locs h hW hS => ?_)
        refine lv_istore_n (lv' := [(3, .int x8), (0, .ref (E.2.1 99)), (1, .int p1), (2, .int p2)]) hx hb dX9_turn_46 rfl hl (by decide) rfl (fun ls hl => ?_)
        refine lv_iconst (v := (0 : Int32)) hx hb dX9_turn_47 (by decide) ?_
        refine lv_istore (lv' := [(4, .int (0 : Int32)), (3, .int x8), (0, .ref (E.2.1 99)), (1, .int p1), (2, .int p2)]) hx hb dX9_turn_48 hl (by decide) rfl (fun ls hl => ?_)
        exact J50 _ _ _ _ _ _ _ h hW hS (lv_sub hl [2, 3, 1, 0] rfl)
      · refine lv_bipush (v := (-3 : Int32)) hx hb dX9_turn_32 (by decide) ?_
        exact rrI hQ hW hS h dX9_turn_34
    · refine lv_bipush (v := (-2 : Int32)) hx hb dX9_turn_21 (by decide) ?_
      exact rrI hQ hW hS h dX9_turn_23
  · refine lv_iconst (v := (-1 : Int32)) hx hb dX9_turn_7 (by decide) ?_
    exact rrI hQ hW hS h dX9_turn_8
noncomputable def jX9_alike_62 (p1 : Int32) (p2 : Int32) (k21 : Int32 → Int32 → Wd → Option (Int32 × Wd)) (v3 : Int32) (v4 : Int32)  (w : Wd) : Option (Int32 × Wd) :=
  k21 v3 (v4 + (1 : Int32)) w
noncomputable def jX9_alike_61 (p1 : Int32) (p2 : Int32) (k21 : Int32 → Int32 → Wd → Option (Int32 × Wd)) (v4 : Int32) (s0 : Int32)  (w : Wd) : Option (Int32 × Wd) :=
  jX9_alike_62 p1 p2 k21 s0 v4 w
noncomputable def jX9_alike_56 (p1 : Int32) (p2 : Int32) (k21 : Int32 → Int32 → Wd → Option (Int32 × Wd)) (v4 : Int32)  (w : Wd) : Option (Int32 × Wd) :=
  jX9_alike_61 p1 p2 k21 v4 (1 : Int32) w
noncomputable def bX9_alike_21 (p1 : Int32) (p2 : Int32) (k21 : Int32 → Int32 → Wd → Option (Int32 × Wd)) (v3 : Int32) (v4 : Int32)  (w : Wd) : Option (Int32 × Wd) :=
  if (8 : Int32) ≤ v4 then if v3 = 0 then some ((0 : Int32), w) else some ((1 : Int32), w) else bnd (fX9_mayTurn v4 w) fun x5 w6 => if x5 = 0 then jX9_alike_62 p1 p2 k21 v3 v4 w6 else bnd (fX9_layTurned p1 v4 w6) fun _ w7 => if v3 = 0 then bnd (fX9_unlikeTurned p2 w7) fun x8 w9 => if x8 = 0 then jX9_alike_56 p1 p2 k21 v4 w9 else jX9_alike_61 p1 p2 k21 v4 (0 : Int32) w9 else jX9_alike_56 p1 p2 k21 v4 w7
noncomputable def fX9_alike (p1 : Int32) (p2 : Int32) (w : Wd) : Option (Int32 × Wd) :=
  bnd (fX9_isSlot p1 w) fun x1 w2 => if x1 = 0 then some ((-1 : Int32), w2) else bnd (fX9_isSlot p2 w2) fun x3 w4 => if x3 = 0 then some ((-1 : Int32), w4) else lp (fun _ _ _ => none) (bX9_alike_21 p1 p2) G (0 : Int32) (0 : Int32) w4
abbrev rmX9_alike : Room := { frames := 2, cells := 0, slots := 0, locals := 47 }
set_option maxHeartbeats 4000000 in
set_option maxRecDepth 100000 in
theorem kX9_alike (l : Launch) (E : Ev) (p1 : Int32) (p2 : Int32) (w : Wd) (q : Int32 × Wd) (h : fX9_alike p1 p2 w = some q) : CtI l yX9_alike wsX9_alike rmX9_alike E full [.ref (E.2.1 99), .int p1, .int p2] w q := by
  refine mkI (cc := cX9_alike) (maxL := 5) (by decide) rfl (Nat.le_of_ble_eq_true rfl) ?_
  intro p e s m args below meth c Q S hW hQ ls hl
  obtain ⟨hx, hb, hml, hown, hts⟩ := id S
  have hW0 := hW
  have hS : va_S (wA E full) s.heap s.heap [] := va_S.rf
  have hl : lv_has ls 5 [(0, .ref (E.2.1 99)), (1, .int p1), (2, .int p2)] := hl
  have J21 : ∀ (n : Nat) (v3 : Int32) (v4 : Int32) (w : Wd) (H : Heap) (locs : List Loc) (ls : Array Slot), lp (fun _ _ _ => none) (bX9_alike_21 p1 p2) n v3 v4 w = some q → World E full w s H → va_S (wA E full) s.heap H locs → lv_has ls 5 [(0, .ref (E.2.1 99)), (1, .int p1), (2, .int p2), (3, .int v3), (4, .int v4)] → W p l e rmX9_alike s m args below meth c H locs 0 0 Q (F0 m 21 ls []) := by
    intro n
    induction n with
    | zero =>
      intro v3 v4 w H locs ls h hW hS hl
      exact absurd (show (none : Option (Int32 × Wd)) = some q from h) (fun z => by cases z)
    | succ n ih21 =>
      intro v3 v4 w H locs ls h hW hS hl
      have h : bX9_alike_21 p1 p2 (lp (fun _ _ _ => none) (bX9_alike_21 p1 p2) n) v3 v4 w = some q := h
      generalize lp (fun _ _ _ => none) (bX9_alike_21 p1 p2) n = k21 at h ih21
      have J62 : ∀ (v3 : Int32) (v4 : Int32) (w : Wd) (H : Heap) (locs : List Loc) (ls : Array Slot), jX9_alike_62 p1 p2 k21 v3 v4 w = some q → World E full w s H → va_S (wA E full) s.heap H locs → lv_has ls 5 [(0, .ref (E.2.1 99)), (1, .int p1), (2, .int p2), (3, .int v3), (4, .int v4)] → W p l e rmX9_alike s m args below meth c H locs 0 0 Q (F0 m 62 ls []) := by
        intro v3 v4 w H locs ls h hW hS hl
        unfold jX9_alike_62 at h
        refine lv_iinc (v := (v4 + (1 : Int32))) (lv' := [(4, .int (v4 + (1 : Int32))), (0, .ref (E.2.1 99)), (1, .int p1), (2, .int p2), (3, .int v3)]) hx hb dX9_alike_62 hl (k := 4) rfl rfl (by decide) rfl (fun ls hl => ?_)
        refine lv_goto (tgt := 21) hx hb dX9_alike_65 (by decide) ?_
        exact ih21 _ _ _ _ _ _ h hW hS (lv_sub hl [1, 2, 3, 4, 0] rfl)
      have J61 : ∀ (v4 : Int32) (s0 : Int32) (w : Wd) (H : Heap) (locs : List Loc) (ls : Array Slot), jX9_alike_61 p1 p2 k21 v4 s0 w = some q → World E full w s H → va_S (wA E full) s.heap H locs → lv_has ls 5 [(0, .ref (E.2.1 99)), (1, .int p1), (2, .int p2), (4, .int v4)] → W p l e rmX9_alike s m args below meth c H locs 0 0 Q (F0 m 61 ls [.int s0]) := by
        intro v4 s0 w H locs ls h hW hS hl
        unfold jX9_alike_61 at h
        refine lv_istore_n (lv' := [(3, .int s0), (0, .ref (E.2.1 99)), (1, .int p1), (2, .int p2), (4, .int v4)]) hx hb dX9_alike_61 rfl hl (by decide) rfl (fun ls hl => ?_)
        exact J62 _ _ _ _ _ _ h hW hS (lv_sub hl [1, 2, 3, 0, 4] rfl)
      have J56 : ∀ (v4 : Int32) (w : Wd) (H : Heap) (locs : List Loc) (ls : Array Slot), jX9_alike_56 p1 p2 k21 v4 w = some q → World E full w s H → va_S (wA E full) s.heap H locs → lv_has ls 5 [(0, .ref (E.2.1 99)), (1, .int p1), (2, .int p2), (4, .int v4)] → W p l e rmX9_alike s m args below meth c H locs 0 0 Q (F0 m 56 ls []) := by
        intro v4 w H locs ls h hW hS hl
        unfold jX9_alike_56 at h
        refine lv_iconst (v := (1 : Int32)) hx hb dX9_alike_56 (by decide) ?_
        refine lv_goto (tgt := 61) hx hb dX9_alike_57 (by decide) ?_
        exact J61 _ _ _ _ _ _ h hW hS (hl)
      unfold bX9_alike_21 at h
      refine lv_iload hx hb dX9_alike_21 (lv_at hl 4 rfl) ?_
      refine lv_bipush (v := (8 : Int32)) hx hb dX9_alike_23 (by decide) ?_
      refine rb_icmp_ge (tgt := 68) hx hb h dX9_alike_25 (by decide) (fun h => ?_) (fun h => ?_)
      · refine lv_iload_n hx hb dX9_alike_68 rfl (lv_at hl 3 rfl) ?_
        refine rb_if_eq (tgt := 76) hx hb h dX9_alike_69 (by decide) (fun h => ?_) (fun h => ?_)
        · refine lv_iconst (v := (0 : Int32)) hx hb dX9_alike_76 (by decide) ?_
          exact rrI hQ hW hS h dX9_alike_77
        · refine lv_iconst (v := (1 : Int32)) hx hb dX9_alike_72 (by decide) ?_
          refine lv_goto (tgt := 77) hx hb dX9_alike_73 (by decide) ?_
          exact rrI hQ hW hS h dX9_alike_77
      · refine lv_aload_n hx hb dX9_alike_28 rfl (lv_at hl 0 rfl) ?_
        refine lv_iload hx hb dX9_alike_29 (lv_at hl 4 rfl) ?_
        refine rc_Vi (k := 99) (As := [.int v4]) (rest := []) S hW hS h (kX9_mayTurn l E v4 w) (cwV 1 hts gX9_alike_X9_mayTurn rfl rfl rfl hdX9_mayTurn ⟨Nat.le_of_ble_eq_true rfl, Nat.le_of_ble_eq_true rfl⟩) (fl 99 rfl) rfl rfl rfl rfl hl.1 rfl (Nat.le_of_ble_eq_true rfl) ⟨Nat.zero_le _, Nat.zero_le _⟩ dX9_alike_31 (fun x5 w6 H locs h hW hS => ?_)
        refine rb_if_eq (tgt := 62) hx hb h dX9_alike_34 (by decide) (fun h => ?_) (fun h => ?_)
        · exact J62 _ _ _ _ _ _ h hW hS (hl)
        · refine lv_aload_n hx hb dX9_alike_37 rfl (lv_at hl 0 rfl) ?_
          refine lv_iload_n hx hb dX9_alike_38 rfl (lv_at hl 1 rfl) ?_
          refine lv_iload hx hb dX9_alike_39 (lv_at hl 4 rfl) ?_
          refine rc_Vv (k := 99) (As := [.int p1, .int v4]) (rest := []) S hW hS h (kX9_layTurned l E p1 v4 w6) (cwV 2 hts gX9_alike_X9_layTurned rfl rfl rfl hdX9_layTurned ⟨Nat.le_of_ble_eq_true rfl, Nat.le_of_ble_eq_true rfl⟩) (fl 99 rfl) rfl rfl rfl rfl hl.1 rfl (Nat.le_of_ble_eq_true rfl) ⟨Nat.zero_le _, Nat.zero_le _⟩ dX9_alike_41 (fun _ w7 H locs h hW hS => ?_)
          refine lv_iload_n hx hb dX9_alike_44 rfl (lv_at hl 3 rfl) ?_
          refine rb_if_ne (tgt := 56) hx hb h dX9_alike_45 (by decide) (fun h => ?_) (fun h => ?_)
          · exact J56 _ _ _ _ _ h hW hS (lv_sub hl [0, 1, 2, 4] rfl)
          · refine lv_aload_n hx hb dX9_alike_48 rfl (lv_at hl 0 rfl) ?_
            refine lv_iload_n hx hb dX9_alike_49 rfl (lv_at hl 2 rfl) ?_
            refine rc_Vi (k := 99) (As := [.int p2]) (rest := []) S hW hS h (kX9_unlikeTurned l E p2 w7) (cwV 1 hts gX9_alike_X9_unlikeTurned rfl rfl rfl hdX9_unlikeTurned ⟨Nat.le_of_ble_eq_true rfl, Nat.le_of_ble_eq_true rfl⟩) (fl 99 rfl) rfl rfl rfl rfl hl.1 rfl (Nat.le_of_ble_eq_true rfl) ⟨Nat.zero_le _, Nat.zero_le _⟩ dX9_alike_50 (fun x8 w9 H locs h hW hS => ?_)
            refine rb_if_ne (tgt := 60) hx hb h dX9_alike_53 (by decide) (fun h => ?_) (fun h => ?_)
            · refine lv_iconst (v := (0 : Int32)) hx hb dX9_alike_60 (by decide) ?_
              exact J61 _ _ _ _ _ _ h hW hS (lv_sub hl [0, 1, 2, 4] rfl)
            · exact J56 _ _ _ _ _ h hW hS (lv_sub hl [0, 1, 2, 4] rfl)
  unfold fX9_alike at h
  refine lv_iload_n hx hb dX9_alike_0 rfl (lv_at hl 1 rfl) ?_
  refine rc_Si (As := [.int p1]) (rest := []) S hW hS h (kX9_isSlot l E p1 w) (va_cwS 1 hts gX9_alike_X9_isSlot rfl rfl rfl hdX9_isSlot ⟨Nat.le_of_ble_eq_true rfl, Nat.le_of_ble_eq_true rfl⟩) rfl hl.1 rfl (Nat.le_of_ble_eq_true rfl) ⟨Nat.zero_le _, Nat.zero_le _⟩ dX9_alike_1 (fun x1 w2 H locs h hW hS => ?_)
  refine rb_if_eq (tgt := 14) hx hb h dX9_alike_4 (by decide) (fun h => ?_) (fun h => ?_)
  · refine lv_iconst (v := (-1 : Int32)) hx hb dX9_alike_14 (by decide) ?_
    exact rrI hQ hW hS h dX9_alike_15
  · refine lv_iload_n hx hb dX9_alike_7 rfl (lv_at hl 2 rfl) ?_
    refine rc_Si (As := [.int p2]) (rest := []) S hW hS h (kX9_isSlot l E p2 w2) (va_cwS 1 hts gX9_alike_X9_isSlot rfl rfl rfl hdX9_isSlot ⟨Nat.le_of_ble_eq_true rfl, Nat.le_of_ble_eq_true rfl⟩) rfl hl.1 rfl (Nat.le_of_ble_eq_true rfl) ⟨Nat.zero_le _, Nat.zero_le _⟩ dX9_alike_8 (fun x3 w4 H locs h hW hS => ?_)
    refine rb_if_ne (tgt := 16) hx hb h dX9_alike_11 (by decide) (fun h => ?_) (fun h => ?_)
    · refine lv_iconst (v := (0 : Int32)) hx hb dX9_alike_16 (by decide) ?_
      refine lv_istore_n (lv' := [(3, .int (0 : Int32)), (0, .ref (E.2.1 99)), (1, .int p1), (2, .int p2)]) hx hb dX9_alike_17 rfl hl (by decide) rfl (fun ls hl => ?_)
      refine lv_iconst (v := (0 : Int32)) hx hb dX9_alike_18 (by decide) ?_
      refine lv_istore (lv' := [(4, .int (0 : Int32)), (3, .int (0 : Int32)), (0, .ref (E.2.1 99)), (1, .int p1), (2, .int p2)]) hx hb dX9_alike_19 hl (by decide) rfl (fun ls hl => ?_)
      exact J21 _ _ _ _ _ _ _ h hW hS (lv_sub hl [2, 3, 4, 1, 0] rfl)
    · refine lv_iconst (v := (-1 : Int32)) hx hb dX9_alike_14 (by decide) ?_
      exact rrI hQ hW hS h dX9_alike_15
noncomputable def jX9_same_49 (p1 : Int32) (k13 : Int32 → Int32 → Wd → Option (Int32 × Wd)) (v2 : Int32) (v3 : Int32)  (w : Wd) : Option (Int32 × Wd) :=
  k13 v2 (v3 + (1 : Int32)) w
noncomputable def jX9_same_47 (p1 : Int32) (k13 : Int32 → Int32 → Wd → Option (Int32 × Wd)) (v3 : Int32) (s0 : Int32) (s1 : Int32)  (w : Wd) : Option (Int32 × Wd) :=
  jX9_same_49 p1 k13 (s1 + s0) v3 w
noncomputable def bX9_same_13 (p1 : Int32) (k13 : Int32 → Int32 → Wd → Option (Int32 × Wd)) (v2 : Int32) (v3 : Int32)  (w : Wd) : Option (Int32 × Wd) :=
  if (8 : Int32) ≤ v3 then some (v2, w) else bnd (fX9_mayTurn v3 w) fun x3 w4 => if x3 = 0 then jX9_same_49 p1 k13 v2 v3 w4 else bnd (fX9_layTurned p1 v3 w4) fun _ w5 => bnd (fX9_unlikeTurned p1 w5) fun x6 w7 => if x6 = 0 then jX9_same_47 p1 k13 v3 (1 : Int32) v2 w7 else jX9_same_47 p1 k13 v3 (0 : Int32) v2 w7
noncomputable def fX9_same (p1 : Int32) (w : Wd) : Option (Int32 × Wd) :=
  bnd (fX9_isSlot p1 w) fun x1 w2 => if x1 = 0 then some ((-1 : Int32), w2) else lp (fun _ _ _ => none) (bX9_same_13 p1) G (0 : Int32) (0 : Int32) w2
abbrev rmX9_same : Room := { frames := 2, cells := 0, slots := 0, locals := 47 }
set_option maxHeartbeats 4000000 in
set_option maxRecDepth 100000 in
theorem kX9_same (l : Launch) (E : Ev) (p1 : Int32) (w : Wd) (q : Int32 × Wd) (h : fX9_same p1 w = some q) : CtI l yX9_same wsX9_same rmX9_same E full [.ref (E.2.1 99), .int p1] w q := by
  refine mkI (cc := cX9_same) (maxL := 4) (by decide) rfl (Nat.le_of_ble_eq_true rfl) ?_
  intro p e s m args below meth c Q S hW hQ ls hl
  obtain ⟨hx, hb, hml, hown, hts⟩ := id S
  have hW0 := hW
  have hS : va_S (wA E full) s.heap s.heap [] := va_S.rf
  have hl : lv_has ls 4 [(0, .ref (E.2.1 99)), (1, .int p1)] := hl
  have J13 : ∀ (n : Nat) (v2 : Int32) (v3 : Int32) (w : Wd) (H : Heap) (locs : List Loc) (ls : Array Slot), lp (fun _ _ _ => none) (bX9_same_13 p1) n v2 v3 w = some q → World E full w s H → va_S (wA E full) s.heap H locs → lv_has ls 4 [(0, .ref (E.2.1 99)), (1, .int p1), (2, .int v2), (3, .int v3)] → W p l e rmX9_same s m args below meth c H locs 0 0 Q (F0 m 13 ls []) := by
    intro n
    induction n with
    | zero =>
      intro v2 v3 w H locs ls h hW hS hl
      exact absurd (show (none : Option (Int32 × Wd)) = some q from h) (fun z => by cases z)
    | succ n ih13 =>
      intro v2 v3 w H locs ls h hW hS hl
      have h : bX9_same_13 p1 (lp (fun _ _ _ => none) (bX9_same_13 p1) n) v2 v3 w = some q := h
      generalize lp (fun _ _ _ => none) (bX9_same_13 p1) n = k13 at h ih13
      have J49 : ∀ (v2 : Int32) (v3 : Int32) (w : Wd) (H : Heap) (locs : List Loc) (ls : Array Slot), jX9_same_49 p1 k13 v2 v3 w = some q → World E full w s H → va_S (wA E full) s.heap H locs → lv_has ls 4 [(0, .ref (E.2.1 99)), (1, .int p1), (2, .int v2), (3, .int v3)] → W p l e rmX9_same s m args below meth c H locs 0 0 Q (F0 m 49 ls []) := by
        intro v2 v3 w H locs ls h hW hS hl
        unfold jX9_same_49 at h
        refine lv_iinc (v := (v3 + (1 : Int32))) (lv' := [(3, .int (v3 + (1 : Int32))), (0, .ref (E.2.1 99)), (1, .int p1), (2, .int v2)]) hx hb dX9_same_49 hl (k := 3) rfl rfl (by decide) rfl (fun ls hl => ?_)
        refine lv_goto (tgt := 13) hx hb dX9_same_52 (by decide) ?_
        exact ih13 _ _ _ _ _ _ h hW hS (lv_sub hl [1, 2, 3, 0] rfl)
      have J47 : ∀ (v3 : Int32) (s0 : Int32) (s1 : Int32) (w : Wd) (H : Heap) (locs : List Loc) (ls : Array Slot), jX9_same_47 p1 k13 v3 s0 s1 w = some q → World E full w s H → va_S (wA E full) s.heap H locs → lv_has ls 4 [(0, .ref (E.2.1 99)), (1, .int p1), (3, .int v3)] → W p l e rmX9_same s m args below meth c H locs 0 0 Q (F0 m 47 ls [.int s0, .int s1]) := by
        intro v3 s0 s1 w H locs ls h hW hS hl
        unfold jX9_same_47 at h
        refine lv_iadd hx hb dX9_same_47 ?_
        refine lv_istore_n (lv' := [(2, .int (s1 + s0)), (0, .ref (E.2.1 99)), (1, .int p1), (3, .int v3)]) hx hb dX9_same_48 rfl hl (by decide) rfl (fun ls hl => ?_)
        exact J49 _ _ _ _ _ _ h hW hS (lv_sub hl [1, 2, 0, 3] rfl)
      unfold bX9_same_13 at h
      refine lv_iload_n hx hb dX9_same_13 rfl (lv_at hl 3 rfl) ?_
      refine lv_bipush (v := (8 : Int32)) hx hb dX9_same_14 (by decide) ?_
      refine rb_icmp_ge (tgt := 55) hx hb h dX9_same_16 (by decide) (fun h => ?_) (fun h => ?_)
      · refine lv_iload_n hx hb dX9_same_55 rfl (lv_at hl 2 rfl) ?_
        exact rrI hQ hW hS h dX9_same_56
      · refine lv_aload_n hx hb dX9_same_19 rfl (lv_at hl 0 rfl) ?_
        refine lv_iload_n hx hb dX9_same_20 rfl (lv_at hl 3 rfl) ?_
        refine rc_Vi (k := 99) (As := [.int v3]) (rest := []) S hW hS h (kX9_mayTurn l E v3 w) (cwV 1 hts gX9_same_X9_mayTurn rfl rfl rfl hdX9_mayTurn ⟨Nat.le_of_ble_eq_true rfl, Nat.le_of_ble_eq_true rfl⟩) (fl 99 rfl) rfl rfl rfl rfl hl.1 rfl (Nat.le_of_ble_eq_true rfl) ⟨Nat.zero_le _, Nat.zero_le _⟩ dX9_same_21 (fun x3 w4 H locs h hW hS => ?_)
        refine rb_if_eq (tgt := 49) hx hb h dX9_same_24 (by decide) (fun h => ?_) (fun h => ?_)
        · exact J49 _ _ _ _ _ _ h hW hS (hl)
        · refine lv_aload_n hx hb dX9_same_27 rfl (lv_at hl 0 rfl) ?_
          refine lv_iload_n hx hb dX9_same_28 rfl (lv_at hl 1 rfl) ?_
          refine lv_iload_n hx hb dX9_same_29 rfl (lv_at hl 3 rfl) ?_
          refine rc_Vv (k := 99) (As := [.int p1, .int v3]) (rest := []) S hW hS h (kX9_layTurned l E p1 v3 w4) (cwV 2 hts gX9_same_X9_layTurned rfl rfl rfl hdX9_layTurned ⟨Nat.le_of_ble_eq_true rfl, Nat.le_of_ble_eq_true rfl⟩) (fl 99 rfl) rfl rfl rfl rfl hl.1 rfl (Nat.le_of_ble_eq_true rfl) ⟨Nat.zero_le _, Nat.zero_le _⟩ dX9_same_30 (fun _ w5 H locs h hW hS => ?_)
          refine lv_iload_n hx hb dX9_same_33 rfl (lv_at hl 2 rfl) ?_
          refine lv_aload_n hx hb dX9_same_34 rfl (lv_at hl 0 rfl) ?_
          refine lv_iload_n hx hb dX9_same_35 rfl (lv_at hl 1 rfl) ?_
          refine rc_Vi (k := 99) (As := [.int p1]) (rest := [.int v2]) S hW hS h (kX9_unlikeTurned l E p1 w5) (cwV 1 hts gX9_same_X9_unlikeTurned rfl rfl rfl hdX9_unlikeTurned ⟨Nat.le_of_ble_eq_true rfl, Nat.le_of_ble_eq_true rfl⟩) (fl 99 rfl) rfl rfl rfl rfl hl.1 rfl (Nat.le_of_ble_eq_true rfl) ⟨Nat.zero_le _, Nat.zero_le _⟩ dX9_same_36 (fun x6 w7 H locs h hW hS => ?_)
          refine rb_if_ne (tgt := 46) hx hb h dX9_same_39 (by decide) (fun h => ?_) (fun h => ?_)
          · refine lv_iconst (v := (0 : Int32)) hx hb dX9_same_46 (by decide) ?_
            exact J47 _ _ _ _ _ _ _ h hW hS (lv_sub hl [0, 1, 3] rfl)
          · refine lv_iconst (v := (1 : Int32)) hx hb dX9_same_42 (by decide) ?_
            refine lv_goto (tgt := 47) hx hb dX9_same_43 (by decide) ?_
            exact J47 _ _ _ _ _ _ _ h hW hS (lv_sub hl [0, 1, 3] rfl)
  unfold fX9_same at h
  refine lv_iload_n hx hb dX9_same_0 rfl (lv_at hl 1 rfl) ?_
  refine rc_Si (As := [.int p1]) (rest := []) S hW hS h (kX9_isSlot l E p1 w) (va_cwS 1 hts gX9_same_X9_isSlot rfl rfl rfl hdX9_isSlot ⟨Nat.le_of_ble_eq_true rfl, Nat.le_of_ble_eq_true rfl⟩) rfl hl.1 rfl (Nat.le_of_ble_eq_true rfl) ⟨Nat.zero_le _, Nat.zero_le _⟩ dX9_same_1 (fun x1 w2 H locs h hW hS => ?_)
  refine rb_if_ne (tgt := 9) hx hb h dX9_same_4 (by decide) (fun h => ?_) (fun h => ?_)
  · refine lv_iconst (v := (0 : Int32)) hx hb dX9_same_9 (by decide) ?_
    refine lv_istore_n (lv' := [(2, .int (0 : Int32)), (0, .ref (E.2.1 99)), (1, .int p1)]) hx hb dX9_same_10 rfl hl (by decide) rfl (fun ls hl => ?_)
    refine lv_iconst (v := (0 : Int32)) hx hb dX9_same_11 (by decide) ?_
    refine lv_istore_n (lv' := [(3, .int (0 : Int32)), (2, .int (0 : Int32)), (0, .ref (E.2.1 99)), (1, .int p1)]) hx hb dX9_same_12 rfl hl (by decide) rfl (fun ls hl => ?_)
    exact J13 _ _ _ _ _ _ _ h hW hS (lv_sub hl [2, 3, 1, 0] rfl)
  · refine lv_iconst (v := (-1 : Int32)) hx hb dX9_same_7 (by decide) ?_
    exact rrI hQ hW hS h dX9_same_8
noncomputable def bX9_isTurnedAhead_2 (k2 : Int32 → Wd → Option (Int32 × Wd)) (v1 : Int32)  (w : Wd) : Option (Int32 × Wd) :=
  bnd (fX9_cells w) fun x1 w2 => if x1 ≤ v1 then zr (0 : Int32) w2 else (gI w2 120 v1).bind fun x3 => (gI w2 121 v1).bind fun x4 => if x3 = x4 then k2 (v1 + (1 : Int32)) w2 else (gI w2 120 v1).bind fun x5 => (gI w2 121 v1).bind fun x6 => if x6 ≤ x5 then zr (0 : Int32) w2 else zr (1 : Int32) w2
noncomputable def fX9_isTurnedAhead  (w : Wd) : Option (Int32 × Wd) :=
  lp (fun _ _ => none) (bX9_isTurnedAhead_2) G (0 : Int32) w
abbrev rmX9_isTurnedAhead : Room := { frames := 1, cells := 0, slots := 0, locals := 20 }
set_option maxHeartbeats 4000000 in
set_option maxRecDepth 100000 in
theorem kX9_isTurnedAhead (l : Launch) (E : Ev)  (w : Wd) (q : Int32 × Wd) (h : fX9_isTurnedAhead w = some q) : CtI l yX9_isTurnedAhead wsX9_isTurnedAhead rmX9_isTurnedAhead E full [.ref (E.2.1 99)] w q := by
  refine mkZ (cc := cX9_isTurnedAhead) (maxL := 2) (by decide) rfl (Nat.le_of_ble_eq_true rfl) ?_
  intro p e s m args below meth c Q S hW hQ ls hl
  obtain ⟨hx, hb, hml, hown, hts⟩ := id S
  have hW0 := hW
  have hS : va_S (wA E full) s.heap s.heap [] := va_S.rf
  have hl : lv_has ls 2 [(0, .ref (E.2.1 99))] := hl
  have iX9 : ∀ w ∈ wsX90, w ∈ wsX9_isTurnedAhead := by decide +kernel
  have e75 := hts (.fieldLink RX9 75 "CubeHeapsModel" "turned" "[I") (by decide +kernel)
  have e78 := hts (.fieldLink RX9 78 "CubeHeapsModel" "leastHeap" "[I") (by decide +kernel)
  have J2 : ∀ (n : Nat) (v1 : Int32) (w : Wd) (H : Heap) (locs : List Loc) (ls : Array Slot), lp (fun _ _ => none) (bX9_isTurnedAhead_2) n v1 w = some q → World E full w s H → va_S (wA E full) s.heap H locs → lv_has ls 2 [(0, .ref (E.2.1 99)), (1, .int v1)] → W p l e rmX9_isTurnedAhead s m args below meth c H locs 0 0 Q (F0 m 2 ls []) := by
    intro n
    induction n with
    | zero =>
      intro v1 w H locs ls h hW hS hl
      exact absurd (show (none : Option (Int32 × Wd)) = some q from h) (fun z => by cases z)
    | succ n ih2 =>
      intro v1 w H locs ls h hW hS hl
      have h : bX9_isTurnedAhead_2 (lp (fun _ _ => none) (bX9_isTurnedAhead_2) n) v1 w = some q := h
      generalize lp (fun _ _ => none) (bX9_isTurnedAhead_2) n = k2 at h ih2
      unfold bX9_isTurnedAhead_2 at h
      refine lv_iload_n hx hb dX9_isTurnedAhead_2 rfl (lv_at hl 1 rfl) ?_
      refine lv_aload_n hx hb dX9_isTurnedAhead_3 rfl (lv_at hl 0 rfl) ?_
      refine rc_Vi (k := 99) (As := []) (rest := [.int v1]) S hW hS h (kX9_cells l E  w) (cwV 0 hts gX9_isTurnedAhead_X9_cells rfl rfl rfl hdX9_cells ⟨Nat.le_of_ble_eq_true rfl, Nat.le_of_ble_eq_true rfl⟩) (fl 99 rfl) rfl rfl rfl rfl hl.1 rfl (Nat.le_of_ble_eq_true rfl) ⟨Nat.zero_le _, Nat.zero_le _⟩ dX9_isTurnedAhead_4 (fun x1 w2 H locs h hW hS => ?_)
      refine rb_icmp_ge (tgt := 52) hx hb h dX9_isTurnedAhead_7 (by decide) (fun h => ?_) (fun h => ?_)
      · refine lv_iconst (v := (0 : Int32)) hx hb dX9_isTurnedAhead_52 (by decide) ?_
        exact rrZ hQ hW hS h dX9_isTurnedAhead_53
      · refine lv_aload_n hx hb dX9_isTurnedAhead_10 rfl (lv_at hl 0 rfl) ?_
        refine rw_get hx hb hts iX9 hown hW (fl 99 rfl) rfl rfl 24 (by decide) e75 rfl (v := .ref (E.2.1 120)) rfl dX9_isTurnedAhead_11 ?_
        refine lv_iload_n hx hb dX9_isTurnedAhead_14 rfl (lv_at hl 1 rfl) ?_
        refine rw_iald hx hb hW (fun _ => (fl 120 rfl)) h dX9_isTurnedAhead_15 (fun x3 h => ?_)
        refine lv_aload_n hx hb dX9_isTurnedAhead_16 rfl (lv_at hl 0 rfl) ?_
        refine rw_get hx hb hts iX9 hown hW (fl 99 rfl) rfl rfl 25 (by decide) e78 rfl (v := .ref (E.2.1 121)) rfl dX9_isTurnedAhead_17 ?_
        refine lv_iload_n hx hb dX9_isTurnedAhead_20 rfl (lv_at hl 1 rfl) ?_
        refine rw_iald hx hb hW (fun _ => (fl 121 rfl)) h dX9_isTurnedAhead_21 (fun x4 h => ?_)
        refine rb_icmp_eq (tgt := 46) hx hb h dX9_isTurnedAhead_22 (by decide) (fun h => ?_) (fun h => ?_)
        · refine lv_iinc (v := (v1 + (1 : Int32))) (lv' := [(1, .int (v1 + (1 : Int32))), (0, .ref (E.2.1 99))]) hx hb dX9_isTurnedAhead_46 hl (k := 1) rfl rfl (by decide) rfl (fun ls hl => ?_)
          refine lv_goto (tgt := 2) hx hb dX9_isTurnedAhead_49 (by decide) ?_
          exact ih2 _ _ _ _ _ h hW hS (lv_sub hl [1, 0] rfl)
        · refine lv_aload_n hx hb dX9_isTurnedAhead_25 rfl (lv_at hl 0 rfl) ?_
          refine rw_get hx hb hts iX9 hown hW (fl 99 rfl) rfl rfl 24 (by decide) e75 rfl (v := .ref (E.2.1 120)) rfl dX9_isTurnedAhead_26 ?_
          refine lv_iload_n hx hb dX9_isTurnedAhead_29 rfl (lv_at hl 1 rfl) ?_
          refine rw_iald hx hb hW (fun _ => (fl 120 rfl)) h dX9_isTurnedAhead_30 (fun x5 h => ?_)
          refine lv_aload_n hx hb dX9_isTurnedAhead_31 rfl (lv_at hl 0 rfl) ?_
          refine rw_get hx hb hts iX9 hown hW (fl 99 rfl) rfl rfl 25 (by decide) e78 rfl (v := .ref (E.2.1 121)) rfl dX9_isTurnedAhead_32 ?_
          refine lv_iload_n hx hb dX9_isTurnedAhead_35 rfl (lv_at hl 1 rfl) ?_
          refine rw_iald hx hb hW (fun _ => (fl 121 rfl)) h dX9_isTurnedAhead_36 (fun x6 h => ?_)
          refine rb_icmp_ge (tgt := 44) hx hb h dX9_isTurnedAhead_37 (by decide) (fun h => ?_) (fun h => ?_)
          · refine lv_iconst (v := (0 : Int32)) hx hb dX9_isTurnedAhead_44 (by decide) ?_
            exact rrZ hQ hW hS h dX9_isTurnedAhead_45
          · refine lv_iconst (v := (1 : Int32)) hx hb dX9_isTurnedAhead_40 (by decide) ?_
            refine lv_goto (tgt := 45) hx hb dX9_isTurnedAhead_41 (by decide) ?_
            exact rrZ hQ hW hS h dX9_isTurnedAhead_45
  unfold fX9_isTurnedAhead at h
  refine lv_iconst (v := (0 : Int32)) hx hb dX9_isTurnedAhead_0 (by decide) ?_
  refine lv_istore_n (lv' := [(1, .int (0 : Int32)), (0, .ref (E.2.1 99))]) hx hb dX9_isTurnedAhead_1 rfl hl (by decide) rfl (fun ls hl => ?_)
  exact J2 _ _ _ _ _ _ h hW hS (lv_sub hl [1, 0] rfl)
noncomputable def bX9_least_89 (p1 : Int32) (k89 : Int32 → Int32 → Wd → Option (Int32 × Wd)) (v2 : Int32) (v3 : Int32)  (w : Wd) : Option (Int32 × Wd) :=
  bnd (fX9_cells w) fun x8 w9 => if x8 ≤ v3 then some (v2, w9) else (gI w9 121 v3).bind fun x10 => (sI w9 100 (((25 : Int32) * p1) + v3) x10).bind fun w11 => k89 v2 (v3 + (1 : Int32)) w11
noncomputable def jX9_least_81 (p1 : Int32) (k14 : Int32 → Int32 → Wd → Option (Int32 × Wd)) (v2 : Int32) (v3 : Int32)  (w : Wd) : Option (Int32 × Wd) :=
  k14 v2 (v3 + (1 : Int32)) w
noncomputable def bX9_least_52 (p1 : Int32) (k14 : Int32 → Int32 → Wd → Option (Int32 × Wd)) (k52 : Int32 → Int32 → Int32 → Wd → Option (Int32 × Wd)) (v2 : Int32) (v3 : Int32) (v4 : Int32)  (w : Wd) : Option (Int32 × Wd) :=
  bnd (fX9_cells w) fun x12 w13 => if x12 ≤ v4 then jX9_least_81 p1 k14 v2 v3 w13 else (gI w13 120 v4).bind fun x14 => (sI w13 121 v4 x14).bind fun w15 => k52 v2 v3 (v4 + (1 : Int32)) w15
noncomputable def jX9_least_47 (p1 : Int32) (k14 : Int32 → Int32 → Wd → Option (Int32 × Wd)) (v3 : Int32)  (w : Wd) : Option (Int32 × Wd) :=
  lp (fun _ _ _ _ => none) (bX9_least_52 p1 k14) G v3 v3 (0 : Int32) w
noncomputable def bX9_least_14 (p1 : Int32) (k14 : Int32 → Int32 → Wd → Option (Int32 × Wd)) (v2 : Int32) (v3 : Int32)  (w : Wd) : Option (Int32 × Wd) :=
  if (8 : Int32) ≤ v3 then lp (fun _ _ _ => none) (bX9_least_89 p1) G v2 (0 : Int32) w else bnd (fX9_mayTurn v3 w) fun x3 w4 => if x3 = 0 then jX9_least_81 p1 k14 v2 v3 w4 else bnd (fX9_layTurned p1 v3 w4) fun _ w5 => if v2 = (-9 : Int32) then jX9_least_47 p1 k14 v3 w5 else bnd (fX9_isTurnedAhead w5) fun x6 w7 => if x6 = 0 then jX9_least_81 p1 k14 v2 v3 w7 else jX9_least_47 p1 k14 v3 w7
noncomputable def fX9_least (p1 : Int32) (w : Wd) : Option (Int32 × Wd) :=
  bnd (fX9_isSlot p1 w) fun x1 w2 => if x1 = 0 then some ((-1 : Int32), w2) else lp (fun _ _ _ => none) (bX9_least_14 p1) G (-9 : Int32) (0 : Int32) w2
abbrev rmX9_least : Room := { frames := 2, cells := 0, slots := 0, locals := 47 }
set_option maxHeartbeats 4000000 in
set_option maxRecDepth 100000 in
theorem kX9_least (l : Launch) (E : Ev) (p1 : Int32) (w : Wd) (q : Int32 × Wd) (h : fX9_least p1 w = some q) : CtI l yX9_least wsX9_least rmX9_least E full [.ref (E.2.1 99), .int p1] w q := by
  refine mkI (cc := cX9_least) (maxL := 5) (by decide) rfl (Nat.le_of_ble_eq_true rfl) ?_
  intro p e s m args below meth c Q S hW hQ ls hl
  obtain ⟨hx, hb, hml, hown, hts⟩ := id S
  have hW0 := hW
  have hS : va_S (wA E full) s.heap s.heap [] := va_S.rf
  have hl : lv_has ls 5 [(0, .ref (E.2.1 99)), (1, .int p1)] := hl
  have iX9 : ∀ w ∈ wsX90, w ∈ wsX9_least := by decide +kernel
  have e7 := hts (.fieldLink RX9 7 "CubeHeapsModel" "heap" "[I") (by decide +kernel)
  have e75 := hts (.fieldLink RX9 75 "CubeHeapsModel" "turned" "[I") (by decide +kernel)
  have e78 := hts (.fieldLink RX9 78 "CubeHeapsModel" "leastHeap" "[I") (by decide +kernel)
  have J89 : ∀ (n : Nat) (v2 : Int32) (v3 : Int32) (w : Wd) (H : Heap) (locs : List Loc) (ls : Array Slot), lp (fun _ _ _ => none) (bX9_least_89 p1) n v2 v3 w = some q → World E full w s H → va_S (wA E full) s.heap H locs → lv_has ls 5 [(0, .ref (E.2.1 99)), (1, .int p1), (2, .int v2), (3, .int v3)] → W p l e rmX9_least s m args below meth c H locs 0 0 Q (F0 m 89 ls []) := by
    intro n
    induction n with
    | zero =>
      intro v2 v3 w H locs ls h hW hS hl
      exact absurd (show (none : Option (Int32 × Wd)) = some q from h) (fun z => by cases z)
    | succ n ih89 =>
      intro v2 v3 w H locs ls h hW hS hl
      have h : bX9_least_89 p1 (lp (fun _ _ _ => none) (bX9_least_89 p1) n) v2 v3 w = some q := h
      generalize lp (fun _ _ _ => none) (bX9_least_89 p1) n = k89 at h ih89
      unfold bX9_least_89 at h
      refine lv_iload_n hx hb dX9_least_89 rfl (lv_at hl 3 rfl) ?_
      refine lv_aload_n hx hb dX9_least_90 rfl (lv_at hl 0 rfl) ?_
      refine rc_Vi (k := 99) (As := []) (rest := [.int v3]) S hW hS h (kX9_cells l E  w) (cwV 0 hts gX9_least_X9_cells rfl rfl rfl hdX9_cells ⟨Nat.le_of_ble_eq_true rfl, Nat.le_of_ble_eq_true rfl⟩) (fl 99 rfl) rfl rfl rfl rfl hl.1 rfl (Nat.le_of_ble_eq_true rfl) ⟨Nat.zero_le _, Nat.zero_le _⟩ dX9_least_91 (fun x8 w9 H locs h hW hS => ?_)
      refine rb_icmp_ge (tgt := 120) hx hb h dX9_least_94 (by decide) (fun h => ?_) (fun h => ?_)
      · refine lv_iload_n hx hb dX9_least_120 rfl (lv_at hl 2 rfl) ?_
        exact rrI hQ hW hS h dX9_least_121
      · refine lv_aload_n hx hb dX9_least_97 rfl (lv_at hl 0 rfl) ?_
        refine rw_get hx hb hts iX9 hown hW (fl 99 rfl) rfl rfl 2 (by decide) e7 rfl (v := .ref (E.2.1 100)) rfl dX9_least_98 ?_
        refine lv_bipush (v := (25 : Int32)) hx hb dX9_least_101 (by decide) ?_
        refine lv_iload_n hx hb dX9_least_103 rfl (lv_at hl 1 rfl) ?_
        refine lv_imul hx hb dX9_least_104 ?_
        refine lv_iload_n hx hb dX9_least_105 rfl (lv_at hl 3 rfl) ?_
        refine lv_iadd hx hb dX9_least_106 ?_
        refine lv_aload_n hx hb dX9_least_107 rfl (lv_at hl 0 rfl) ?_
        refine rw_get hx hb hts iX9 hown hW (fl 99 rfl) rfl rfl 25 (by decide) e78 rfl (v := .ref (E.2.1 121)) rfl dX9_least_108 ?_
        refine lv_iload_n hx hb dX9_least_111 rfl (lv_at hl 3 rfl) ?_
        refine rw_iald hx hb hW (fun _ => (fl 121 rfl)) h dX9_least_112 (fun x10 h => ?_)
        refine rw_iast hx hb hW hS (fun _ => (fl 100 rfl)) h dX9_least_113 (fun w11 H locs h hW hS => ?_)
        refine lv_iinc (v := (v3 + (1 : Int32))) (lv' := [(3, .int (v3 + (1 : Int32))), (0, .ref (E.2.1 99)), (1, .int p1), (2, .int v2)]) hx hb dX9_least_114 hl (k := 3) rfl rfl (by decide) rfl (fun ls hl => ?_)
        refine lv_goto (tgt := 89) hx hb dX9_least_117 (by decide) ?_
        exact ih89 _ _ _ _ _ _ h hW hS (lv_sub hl [1, 2, 3, 0] rfl)
  have J14 : ∀ (n : Nat) (v2 : Int32) (v3 : Int32) (w : Wd) (H : Heap) (locs : List Loc) (ls : Array Slot), lp (fun _ _ _ => none) (bX9_least_14 p1) n v2 v3 w = some q → World E full w s H → va_S (wA E full) s.heap H locs → lv_has ls 5 [(0, .ref (E.2.1 99)), (1, .int p1), (2, .int v2), (3, .int v3)] → W p l e rmX9_least s m args below meth c H locs 0 0 Q (F0 m 14 ls []) := by
    intro n
    induction n with
    | zero =>
      intro v2 v3 w H locs ls h hW hS hl
      exact absurd (show (none : Option (Int32 × Wd)) = some q from h) (fun z => by cases z)
    | succ n ih14 =>
      intro v2 v3 w H locs ls h hW hS hl
      have h : bX9_least_14 p1 (lp (fun _ _ _ => none) (bX9_least_14 p1) n) v2 v3 w = some q := h
      generalize lp (fun _ _ _ => none) (bX9_least_14 p1) n = k14 at h ih14
      have J81 : ∀ (v2 : Int32) (v3 : Int32) (w : Wd) (H : Heap) (locs : List Loc) (ls : Array Slot), jX9_least_81 p1 k14 v2 v3 w = some q → World E full w s H → va_S (wA E full) s.heap H locs → lv_has ls 5 [(0, .ref (E.2.1 99)), (1, .int p1), (2, .int v2), (3, .int v3)] → W p l e rmX9_least s m args below meth c H locs 0 0 Q (F0 m 81 ls []) := by
        intro v2 v3 w H locs ls h hW hS hl
        unfold jX9_least_81 at h
        refine lv_iinc (v := (v3 + (1 : Int32))) (lv' := [(3, .int (v3 + (1 : Int32))), (0, .ref (E.2.1 99)), (1, .int p1), (2, .int v2)]) hx hb dX9_least_81 hl (k := 3) rfl rfl (by decide) rfl (fun ls hl => ?_)
        refine lv_goto (tgt := 14) hx hb dX9_least_84 (by decide) ?_
        exact ih14 _ _ _ _ _ _ h hW hS (lv_sub hl [1, 2, 3, 0] rfl)
      have J52 : ∀ (n : Nat) (v2 : Int32) (v3 : Int32) (v4 : Int32) (w : Wd) (H : Heap) (locs : List Loc) (ls : Array Slot), lp (fun _ _ _ _ => none) (bX9_least_52 p1 k14) n v2 v3 v4 w = some q → World E full w s H → va_S (wA E full) s.heap H locs → lv_has ls 5 [(0, .ref (E.2.1 99)), (1, .int p1), (2, .int v2), (3, .int v3), (4, .int v4)] → W p l e rmX9_least s m args below meth c H locs 0 0 Q (F0 m 52 ls []) := by
        intro n
        induction n with
        | zero =>
          intro v2 v3 v4 w H locs ls h hW hS hl
          exact absurd (show (none : Option (Int32 × Wd)) = some q from h) (fun z => by cases z)
        | succ n ih52 =>
          intro v2 v3 v4 w H locs ls h hW hS hl
          have h : bX9_least_52 p1 k14 (lp (fun _ _ _ _ => none) (bX9_least_52 p1 k14) n) v2 v3 v4 w = some q := h
          generalize lp (fun _ _ _ _ => none) (bX9_least_52 p1 k14) n = k52 at h ih52
          unfold bX9_least_52 at h
          refine lv_iload hx hb dX9_least_52 (lv_at hl 4 rfl) ?_
          refine lv_aload_n hx hb dX9_least_54 rfl (lv_at hl 0 rfl) ?_
          refine rc_Vi (k := 99) (As := []) (rest := [.int v4]) S hW hS h (kX9_cells l E  w) (cwV 0 hts gX9_least_X9_cells rfl rfl rfl hdX9_cells ⟨Nat.le_of_ble_eq_true rfl, Nat.le_of_ble_eq_true rfl⟩) (fl 99 rfl) rfl rfl rfl rfl hl.1 rfl (Nat.le_of_ble_eq_true rfl) ⟨Nat.zero_le _, Nat.zero_le _⟩ dX9_least_55 (fun x12 w13 H locs h hW hS => ?_)
          refine rb_icmp_ge (tgt := 81) hx hb h dX9_least_58 (by decide) (fun h => ?_) (fun h => ?_)
          · exact J81 _ _ _ _ _ _ h hW hS (lv_sub hl [0, 1, 2, 3] rfl)
          · refine lv_aload_n hx hb dX9_least_61 rfl (lv_at hl 0 rfl) ?_
            refine rw_get hx hb hts iX9 hown hW (fl 99 rfl) rfl rfl 25 (by decide) e78 rfl (v := .ref (E.2.1 121)) rfl dX9_least_62 ?_
            refine lv_iload hx hb dX9_least_65 (lv_at hl 4 rfl) ?_
            refine lv_aload_n hx hb dX9_least_67 rfl (lv_at hl 0 rfl) ?_
            refine rw_get hx hb hts iX9 hown hW (fl 99 rfl) rfl rfl 24 (by decide) e75 rfl (v := .ref (E.2.1 120)) rfl dX9_least_68 ?_
            refine lv_iload hx hb dX9_least_71 (lv_at hl 4 rfl) ?_
            refine rw_iald hx hb hW (fun _ => (fl 120 rfl)) h dX9_least_73 (fun x14 h => ?_)
            refine rw_iast hx hb hW hS (fun _ => (fl 121 rfl)) h dX9_least_74 (fun w15 H locs h hW hS => ?_)
            refine lv_iinc (v := (v4 + (1 : Int32))) (lv' := [(4, .int (v4 + (1 : Int32))), (0, .ref (E.2.1 99)), (1, .int p1), (2, .int v2), (3, .int v3)]) hx hb dX9_least_75 hl (k := 4) rfl rfl (by decide) rfl (fun ls hl => ?_)
            refine lv_goto (tgt := 52) hx hb dX9_least_78 (by decide) ?_
            exact ih52 _ _ _ _ _ _ _ h hW hS (lv_sub hl [1, 2, 3, 4, 0] rfl)
      have J47 : ∀ (v3 : Int32) (w : Wd) (H : Heap) (locs : List Loc) (ls : Array Slot), jX9_least_47 p1 k14 v3 w = some q → World E full w s H → va_S (wA E full) s.heap H locs → lv_has ls 5 [(0, .ref (E.2.1 99)), (1, .int p1), (3, .int v3)] → W p l e rmX9_least s m args below meth c H locs 0 0 Q (F0 m 47 ls []) := by
        intro v3 w H locs ls h hW hS hl
        unfold jX9_least_47 at h
        refine lv_iload_n hx hb dX9_least_47 rfl (lv_at hl 2 rfl) ?_
        refine lv_istore_n (lv' := [(2, .int v3), (0, .ref (E.2.1 99)), (1, .int p1), (3, .int v3)]) hx hb dX9_least_48 rfl hl (by decide) rfl (fun ls hl => ?_)
        refine lv_iconst (v := (0 : Int32)) hx hb dX9_least_49 (by decide) ?_
        refine lv_istore (lv' := [(4, .int (0 : Int32)), (2, .int v3), (0, .ref (E.2.1 99)), (1, .int p1), (3, .int v3)]) hx hb dX9_least_50 hl (by decide) rfl (fun ls hl => ?_)
        exact J52 _ _ _ _ _ _ _ _ h hW hS (lv_sub hl [2, 3, 1, 4, 0] rfl)
      unfold bX9_least_14 at h
      refine lv_iload_n hx hb dX9_least_14 rfl (lv_at hl 3 rfl) ?_
      refine lv_bipush (v := (8 : Int32)) hx hb dX9_least_15 (by decide) ?_
      refine rb_icmp_ge (tgt := 87) hx hb h dX9_least_17 (by decide) (fun h => ?_) (fun h => ?_)
      · refine lv_iconst (v := (0 : Int32)) hx hb dX9_least_87 (by decide) ?_
        refine lv_istore_n (lv' := [(3, .int (0 : Int32)), (0, .ref (E.2.1 99)), (1, .int p1), (2, .int v2)]) hx hb dX9_least_88 rfl hl (by decide) rfl (fun ls hl => ?_)
        exact J89 _ _ _ _ _ _ _ h hW hS (lv_sub hl [1, 2, 3, 0] rfl)
      · refine lv_aload_n hx hb dX9_least_20 rfl (lv_at hl 0 rfl) ?_
        refine lv_iload_n hx hb dX9_least_21 rfl (lv_at hl 3 rfl) ?_
        refine rc_Vi (k := 99) (As := [.int v3]) (rest := []) S hW hS h (kX9_mayTurn l E v3 w) (cwV 1 hts gX9_least_X9_mayTurn rfl rfl rfl hdX9_mayTurn ⟨Nat.le_of_ble_eq_true rfl, Nat.le_of_ble_eq_true rfl⟩) (fl 99 rfl) rfl rfl rfl rfl hl.1 rfl (Nat.le_of_ble_eq_true rfl) ⟨Nat.zero_le _, Nat.zero_le _⟩ dX9_least_22 (fun x3 w4 H locs h hW hS => ?_)
        refine rb_if_eq (tgt := 81) hx hb h dX9_least_25 (by decide) (fun h => ?_) (fun h => ?_)
        · exact J81 _ _ _ _ _ _ h hW hS (hl)
        · refine lv_aload_n hx hb dX9_least_28 rfl (lv_at hl 0 rfl) ?_
          refine lv_iload_n hx hb dX9_least_29 rfl (lv_at hl 1 rfl) ?_
          refine lv_iload_n hx hb dX9_least_30 rfl (lv_at hl 3 rfl) ?_
          refine rc_Vv (k := 99) (As := [.int p1, .int v3]) (rest := []) S hW hS h (kX9_layTurned l E p1 v3 w4) (cwV 2 hts gX9_least_X9_layTurned rfl rfl rfl hdX9_layTurned ⟨Nat.le_of_ble_eq_true rfl, Nat.le_of_ble_eq_true rfl⟩) (fl 99 rfl) rfl rfl rfl rfl hl.1 rfl (Nat.le_of_ble_eq_true rfl) ⟨Nat.zero_le _, Nat.zero_le _⟩ dX9_least_31 (fun _ w5 H locs h hW hS => ?_)
          refine lv_iload_n hx hb dX9_least_34 rfl (lv_at hl 2 rfl) ?_
          refine lv_bipush (v := (-9 : Int32)) hx hb dX9_least_35 (by decide) ?_
          refine rb_icmp_eq (tgt := 47) hx hb h dX9_least_37 (by decide) (fun h => ?_) (fun h => ?_)
          · exact J47 _ _ _ _ _ h hW hS (lv_sub hl [0, 1, 3] rfl)
          · refine lv_aload_n hx hb dX9_least_40 rfl (lv_at hl 0 rfl) ?_
            refine rc_Vi (k := 99) (As := []) (rest := []) S hW hS h (kX9_isTurnedAhead l E  w5) (cwV 0 hts gX9_least_X9_isTurnedAhead rfl rfl rfl hdX9_isTurnedAhead ⟨Nat.le_of_ble_eq_true rfl, Nat.le_of_ble_eq_true rfl⟩) (fl 99 rfl) rfl rfl rfl rfl hl.1 rfl (Nat.le_of_ble_eq_true rfl) ⟨Nat.zero_le _, Nat.zero_le _⟩ dX9_least_41 (fun x6 w7 H locs h hW hS => ?_)
            refine rb_if_eq (tgt := 81) hx hb h dX9_least_44 (by decide) (fun h => ?_) (fun h => ?_)
            · exact J81 _ _ _ _ _ _ h hW hS (hl)
            · exact J47 _ _ _ _ _ h hW hS (lv_sub hl [0, 1, 3] rfl)
  unfold fX9_least at h
  refine lv_iload_n hx hb dX9_least_0 rfl (lv_at hl 1 rfl) ?_
  refine rc_Si (As := [.int p1]) (rest := []) S hW hS h (kX9_isSlot l E p1 w) (va_cwS 1 hts gX9_least_X9_isSlot rfl rfl rfl hdX9_isSlot ⟨Nat.le_of_ble_eq_true rfl, Nat.le_of_ble_eq_true rfl⟩) rfl hl.1 rfl (Nat.le_of_ble_eq_true rfl) ⟨Nat.zero_le _, Nat.zero_le _⟩ dX9_least_1 (fun x1 w2 H locs h hW hS => ?_)
  refine rb_if_ne (tgt := 9) hx hb h dX9_least_4 (by decide) (fun h => ?_) (fun h => ?_)
  · refine lv_bipush (v := (-9 : Int32)) hx hb dX9_least_9 (by decide) ?_
    refine lv_istore_n (lv' := [(2, .int (-9 : Int32)), (0, .ref (E.2.1 99)), (1, .int p1)]) hx hb dX9_least_11 rfl hl (by decide) rfl (fun ls hl => ?_)
    refine lv_iconst (v := (0 : Int32)) hx hb dX9_least_12 (by decide) ?_
    refine lv_istore_n (lv' := [(3, .int (0 : Int32)), (2, .int (-9 : Int32)), (0, .ref (E.2.1 99)), (1, .int p1)]) hx hb dX9_least_13 rfl hl (by decide) rfl (fun ls hl => ?_)
    exact J14 _ _ _ _ _ _ _ h hW hS (lv_sub hl [2, 3, 1, 0] rfl)
  · refine lv_iconst (v := (-1 : Int32)) hx hb dX9_least_7 (by decide) ?_
    exact rrI hQ hW hS h dX9_least_8
noncomputable def jX9_about_105 (p1 : Int32) (k78 : Int32 → Int32 → Int32 → Wd → Option (Int32 × Wd)) (v2 : Int32) (v4 : Int32) (s0 : Int32) (s1 : Int32)  (w : Wd) : Option (Int32 × Wd) :=
  k78 v2 (s1 + s0) (v4 + (1 : Int32)) w
noncomputable def bX9_about_78 (p1 : Int32) (k78 : Int32 → Int32 → Int32 → Wd → Option (Int32 × Wd)) (v2 : Int32) (v3 : Int32) (v4 : Int32)  (w : Wd) : Option (Int32 × Wd) :=
  bnd (fX9_cells w) fun x2 w3 => if x2 ≤ v4 then if p1 = 0 then some ((w3.1 99 0), w3) else if p1 = 1 then some ((w3.1 99 1), w3) else if p1 = 2 then some (v2, w3) else if p1 = 3 then some (v3, w3) else if p1 = 4 then bnd (fX9_cells w3) fun x4 w5 => some (x4, w5) else some ((-2 : Int32), w3) else (gI w3 103 v4).bind fun x6 => if x6 = (-9 : Int32) then jX9_about_105 p1 k78 v2 v4 (0 : Int32) v3 w3 else jX9_about_105 p1 k78 v2 v4 (1 : Int32) v3 w3
noncomputable def jX9_about_66 (p1 : Int32) (k7 : Int32 → Int32 → Int32 → Wd → Option (Int32 × Wd)) (v3 : Int32) (v4 : Int32) (s0 : Int32) (s1 : Int32) (s2 : Int32)  (w : Wd) : Option (Int32 × Wd) :=
  k7 (s2 + (s1 + s0)) v3 (v4 + (1 : Int32)) w
noncomputable def jX9_about_65 (p1 : Int32) (k7 : Int32 → Int32 → Int32 → Wd → Option (Int32 × Wd)) (v3 : Int32) (v4 : Int32) (s0 : Int32) (s1 : Int32)  (w : Wd) : Option (Int32 × Wd) :=
  jX9_about_66 p1 k7 v3 v4 (0 : Int32) s0 s1 w
noncomputable def jX9_about_40 (p1 : Int32) (k7 : Int32 → Int32 → Int32 → Wd → Option (Int32 × Wd)) (v3 : Int32) (v4 : Int32) (s0 : Int32) (s1 : Int32)  (w : Wd) : Option (Int32 × Wd) :=
  if (w.1 99 1) ≤ v4 then jX9_about_65 p1 k7 v3 v4 s0 s1 w else (gI w 102 v4).bind fun x7 => if x7 = (-9 : Int32) then jX9_about_65 p1 k7 v3 v4 s0 s1 w else jX9_about_66 p1 k7 v3 v4 (1 : Int32) s0 s1 w
noncomputable def jX9_about_39 (p1 : Int32) (k7 : Int32 → Int32 → Int32 → Wd → Option (Int32 × Wd)) (v3 : Int32) (v4 : Int32) (s0 : Int32)  (w : Wd) : Option (Int32 × Wd) :=
  jX9_about_40 p1 k7 v3 v4 (0 : Int32) s0 w
noncomputable def bX9_about_7 (p1 : Int32) (k7 : Int32 → Int32 → Int32 → Wd → Option (Int32 × Wd)) (v2 : Int32) (v3 : Int32) (v4 : Int32)  (w : Wd) : Option (Int32 × Wd) :=
  if (5 : Int32) ≤ v4 then lp (fun _ _ _ _ => none) (bX9_about_78 p1) G v2 v3 (0 : Int32) w else if (w.1 99 0) ≤ v4 then jX9_about_39 p1 k7 v3 v4 v2 w else (gI w 101 v4).bind fun x1 => if x1 = (-9 : Int32) then jX9_about_39 p1 k7 v3 v4 v2 w else jX9_about_40 p1 k7 v3 v4 (1 : Int32) v2 w
noncomputable def fX9_about (p1 : Int32) (w : Wd) : Option (Int32 × Wd) :=
  lp (fun _ _ _ _ => none) (bX9_about_7 p1) G (0 : Int32) (0 : Int32) (0 : Int32) w
abbrev rmX9_about : Room := { frames := 1, cells := 0, slots := 0, locals := 20 }
set_option maxHeartbeats 4000000 in
set_option maxRecDepth 100000 in
theorem kX9_about (l : Launch) (E : Ev) (p1 : Int32) (w : Wd) (q : Int32 × Wd) (h : fX9_about p1 w = some q) : CtI l yX9_about wsX9_about rmX9_about E full [.ref (E.2.1 99), .int p1] w q := by
  refine mkI (cc := cX9_about) (maxL := 5) (by decide) rfl (Nat.le_of_ble_eq_true rfl) ?_
  intro p e s m args below meth c Q S hW hQ ls hl
  obtain ⟨hx, hb, hml, hown, hts⟩ := id S
  have hW0 := hW
  have hS : va_S (wA E full) s.heap s.heap [] := va_S.rf
  have hl : lv_has ls 5 [(0, .ref (E.2.1 99)), (1, .int p1)] := hl
  have iX9 : ∀ w ∈ wsX90, w ∈ wsX9_about := by decide +kernel
  have e13 := hts (.fieldLink RX9 13 "CubeHeapsModel" "fronts" "[I") (by decide +kernel)
  have e16 := hts (.fieldLink RX9 16 "CubeHeapsModel" "sides" "[I") (by decide +kernel)
  have e19 := hts (.fieldLink RX9 19 "CubeHeapsModel" "tops" "[I") (by decide +kernel)
  have e85 := hts (.fieldLink RX9 85 "CubeHeapsModel" "wide" "I") (by decide +kernel)
  have e88 := hts (.fieldLink RX9 88 "CubeHeapsModel" "tall" "I") (by decide +kernel)
  have J78 : ∀ (n : Nat) (v2 : Int32) (v3 : Int32) (v4 : Int32) (w : Wd) (H : Heap) (locs : List Loc) (ls : Array Slot), lp (fun _ _ _ _ => none) (bX9_about_78 p1) n v2 v3 v4 w = some q → World E full w s H → va_S (wA E full) s.heap H locs → lv_has ls 5 [(0, .ref (E.2.1 99)), (1, .int p1), (2, .int v2), (3, .int v3), (4, .int v4)] → W p l e rmX9_about s m args below meth c H locs 0 0 Q (F0 m 78 ls []) := by
    intro n
    induction n with
    | zero =>
      intro v2 v3 v4 w H locs ls h hW hS hl
      exact absurd (show (none : Option (Int32 × Wd)) = some q from h) (fun z => by cases z)
    | succ n ih78 =>
      intro v2 v3 v4 w H locs ls h hW hS hl
      have h : bX9_about_78 p1 (lp (fun _ _ _ _ => none) (bX9_about_78 p1) n) v2 v3 v4 w = some q := h
      generalize lp (fun _ _ _ _ => none) (bX9_about_78 p1) n = k78 at h ih78
      have J105 : ∀ (v2 : Int32) (v4 : Int32) (s0 : Int32) (s1 : Int32) (w : Wd) (H : Heap) (locs : List Loc) (ls : Array Slot), jX9_about_105 p1 k78 v2 v4 s0 s1 w = some q → World E full w s H → va_S (wA E full) s.heap H locs → lv_has ls 5 [(0, .ref (E.2.1 99)), (1, .int p1), (2, .int v2), (4, .int v4)] → W p l e rmX9_about s m args below meth c H locs 0 0 Q (F0 m 105 ls [.int s0, .int s1]) := by
        intro v2 v4 s0 s1 w H locs ls h hW hS hl
        unfold jX9_about_105 at h
        refine lv_iadd hx hb dX9_about_105 ?_
        refine lv_istore_n (lv' := [(3, .int (s1 + s0)), (0, .ref (E.2.1 99)), (1, .int p1), (2, .int v2), (4, .int v4)]) hx hb dX9_about_106 rfl hl (by decide) rfl (fun ls hl => ?_)
        refine lv_iinc (v := (v4 + (1 : Int32))) (lv' := [(4, .int (v4 + (1 : Int32))), (3, .int (s1 + s0)), (0, .ref (E.2.1 99)), (1, .int p1), (2, .int v2)]) hx hb dX9_about_107 hl (k := 4) rfl rfl (by decide) rfl (fun ls hl => ?_)
        refine lv_goto (tgt := 78) hx hb dX9_about_110 (by decide) ?_
        exact ih78 _ _ _ _ _ _ _ h hW hS (lv_sub hl [2, 3, 4, 1, 0] rfl)
      unfold bX9_about_78 at h
      refine lv_iload hx hb dX9_about_78 (lv_at hl 4 rfl) ?_
      refine lv_aload_n hx hb dX9_about_80 rfl (lv_at hl 0 rfl) ?_
      refine rc_Vi (k := 99) (As := []) (rest := [.int v4]) S hW hS h (kX9_cells l E  w) (cwV 0 hts gX9_about_X9_cells rfl rfl rfl hdX9_cells ⟨Nat.le_of_ble_eq_true rfl, Nat.le_of_ble_eq_true rfl⟩) (fl 99 rfl) rfl rfl rfl rfl hl.1 rfl (Nat.le_of_ble_eq_true rfl) ⟨Nat.zero_le _, Nat.zero_le _⟩ dX9_about_81 (fun x2 w3 H locs h hW hS => ?_)
      refine rb_icmp_ge (tgt := 113) hx hb h dX9_about_84 (by decide) (fun h => ?_) (fun h => ?_)
      · refine lv_iload_n hx hb dX9_about_113 rfl (lv_at hl 1 rfl) ?_
        by_cases c0 : p1 = 0
        · rw [if_pos c0] at h
          refine lv_tableIn (off := 34) (tgt := 148) hx hb dX9_about_114 (by rw [c0]; decide) (by rw [c0]; decide) (by rw [c0]; rfl) (by decide) ?_
          refine lv_aload_n hx hb dX9_about_148 rfl (lv_at hl 0 rfl) ?_
          refine rw_get hx hb hts iX9 hown hW (fl 99 rfl) rfl rfl 0 (by decide) e85 rfl (v := .int (w3.1 99 0)) rfl dX9_about_149 ?_
          exact rrI hQ hW hS h dX9_about_152
        rw [if_neg c0] at h
        by_cases c1 : p1 = 1
        · rw [if_pos c1] at h
          refine lv_tableIn (off := 39) (tgt := 153) hx hb dX9_about_114 (by rw [c1]; decide) (by rw [c1]; decide) (by rw [c1]; rfl) (by decide) ?_
          refine lv_aload_n hx hb dX9_about_153 rfl (lv_at hl 0 rfl) ?_
          refine rw_get hx hb hts iX9 hown hW (fl 99 rfl) rfl rfl 1 (by decide) e88 rfl (v := .int (w3.1 99 1)) rfl dX9_about_154 ?_
          exact rrI hQ hW hS h dX9_about_157
        rw [if_neg c1] at h
        by_cases c2 : p1 = 2
        · rw [if_pos c2] at h
          refine lv_tableIn (off := 44) (tgt := 158) hx hb dX9_about_114 (by rw [c2]; decide) (by rw [c2]; decide) (by rw [c2]; rfl) (by decide) ?_
          refine lv_iload_n hx hb dX9_about_158 rfl (lv_at hl 2 rfl) ?_
          exact rrI hQ hW hS h dX9_about_159
        rw [if_neg c2] at h
        by_cases c3 : p1 = 3
        · rw [if_pos c3] at h
          refine lv_tableIn (off := 46) (tgt := 160) hx hb dX9_about_114 (by rw [c3]; decide) (by rw [c3]; decide) (by rw [c3]; rfl) (by decide) ?_
          refine lv_iload_n hx hb dX9_about_160 rfl (lv_at hl 3 rfl) ?_
          exact rrI hQ hW hS h dX9_about_161
        rw [if_neg c3] at h
        by_cases c4 : p1 = 4
        · rw [if_pos c4] at h
          refine lv_tableIn (off := 48) (tgt := 162) hx hb dX9_about_114 (by rw [c4]; decide) (by rw [c4]; decide) (by rw [c4]; rfl) (by decide) ?_
          refine lv_aload_n hx hb dX9_about_162 rfl (lv_at hl 0 rfl) ?_
          refine rc_Vi (k := 99) (As := []) (rest := []) S hW hS h (kX9_cells l E  w3) (cwV 0 hts gX9_about_X9_cells rfl rfl rfl hdX9_cells ⟨Nat.le_of_ble_eq_true rfl, Nat.le_of_ble_eq_true rfl⟩) (fl 99 rfl) rfl rfl rfl rfl hl.1 rfl (Nat.le_of_ble_eq_true rfl) ⟨Nat.zero_le _, Nat.zero_le _⟩ dX9_about_163 (fun x4 w5 H locs h hW hS => ?_)
          exact rrI hQ hW hS h dX9_about_166
        rw [if_neg c4] at h
        refine lv_tableOut (tgt := 167) hx hb dX9_about_114 (by have z0 := lv_neT c0 (a := 0) (by decide); have z1 := lv_neT c1 (a := 1) (by decide); have z2 := lv_neT c2 (a := 2) (by decide); have z3 := lv_neT c3 (a := 3) (by decide); have z4 := lv_neT c4 (a := 4) (by decide); omega) (by decide) ?_
        refine lv_bipush (v := (-2 : Int32)) hx hb dX9_about_167 (by decide) ?_
        exact rrI hQ hW hS h dX9_about_169
      · refine lv_iload_n hx hb dX9_about_87 rfl (lv_at hl 3 rfl) ?_
        refine lv_aload_n hx hb dX9_about_88 rfl (lv_at hl 0 rfl) ?_
        refine rw_get hx hb hts iX9 hown hW (fl 99 rfl) rfl rfl 5 (by decide) e19 rfl (v := .ref (E.2.1 103)) rfl dX9_about_89 ?_
        refine lv_iload hx hb dX9_about_92 (lv_at hl 4 rfl) ?_
        refine rw_iald hx hb hW (fun _ => (fl 103 rfl)) h dX9_about_94 (fun x6 h => ?_)
        refine lv_bipush (v := (-9 : Int32)) hx hb dX9_about_95 (by decide) ?_
        refine rb_icmp_eq (tgt := 104) hx hb h dX9_about_97 (by decide) (fun h => ?_) (fun h => ?_)
        · refine lv_iconst (v := (0 : Int32)) hx hb dX9_about_104 (by decide) ?_
          exact J105 _ _ _ _ _ _ _ _ h hW hS (lv_sub hl [0, 1, 2, 4] rfl)
        · refine lv_iconst (v := (1 : Int32)) hx hb dX9_about_100 (by decide) ?_
          refine lv_goto (tgt := 105) hx hb dX9_about_101 (by decide) ?_
          exact J105 _ _ _ _ _ _ _ _ h hW hS (lv_sub hl [0, 1, 2, 4] rfl)
  have J7 : ∀ (n : Nat) (v2 : Int32) (v3 : Int32) (v4 : Int32) (w : Wd) (H : Heap) (locs : List Loc) (ls : Array Slot), lp (fun _ _ _ _ => none) (bX9_about_7 p1) n v2 v3 v4 w = some q → World E full w s H → va_S (wA E full) s.heap H locs → lv_has ls 5 [(0, .ref (E.2.1 99)), (1, .int p1), (2, .int v2), (3, .int v3), (4, .int v4)] → W p l e rmX9_about s m args below meth c H locs 0 0 Q (F0 m 7 ls []) := by
    intro n
    induction n with
    | zero =>
      intro v2 v3 v4 w H locs ls h hW hS hl
      exact absurd (show (none : Option (Int32 × Wd)) = some q from h) (fun z => by cases z)
    | succ n ih7 =>
      intro v2 v3 v4 w H locs ls h hW hS hl
      have h : bX9_about_7 p1 (lp (fun _ _ _ _ => none) (bX9_about_7 p1) n) v2 v3 v4 w = some q := h
      generalize lp (fun _ _ _ _ => none) (bX9_about_7 p1) n = k7 at h ih7
      have J66 : ∀ (v3 : Int32) (v4 : Int32) (s0 : Int32) (s1 : Int32) (s2 : Int32) (w : Wd) (H : Heap) (locs : List Loc) (ls : Array Slot), jX9_about_66 p1 k7 v3 v4 s0 s1 s2 w = some q → World E full w s H → va_S (wA E full) s.heap H locs → lv_has ls 5 [(0, .ref (E.2.1 99)), (1, .int p1), (3, .int v3), (4, .int v4)] → W p l e rmX9_about s m args below meth c H locs 0 0 Q (F0 m 66 ls [.int s0, .int s1, .int s2]) := by
        intro v3 v4 s0 s1 s2 w H locs ls h hW hS hl
        unfold jX9_about_66 at h
        refine lv_iadd hx hb dX9_about_66 ?_
        refine lv_iadd hx hb dX9_about_67 ?_
        refine lv_istore_n (lv' := [(2, .int (s2 + (s1 + s0))), (0, .ref (E.2.1 99)), (1, .int p1), (3, .int v3), (4, .int v4)]) hx hb dX9_about_68 rfl hl (by decide) rfl (fun ls hl => ?_)
        refine lv_iinc (v := (v4 + (1 : Int32))) (lv' := [(4, .int (v4 + (1 : Int32))), (2, .int (s2 + (s1 + s0))), (0, .ref (E.2.1 99)), (1, .int p1), (3, .int v3)]) hx hb dX9_about_69 hl (k := 4) rfl rfl (by decide) rfl (fun ls hl => ?_)
        refine lv_goto (tgt := 7) hx hb dX9_about_72 (by decide) ?_
        exact ih7 _ _ _ _ _ _ _ h hW hS (lv_sub hl [2, 3, 1, 4, 0] rfl)
      have J65 : ∀ (v3 : Int32) (v4 : Int32) (s0 : Int32) (s1 : Int32) (w : Wd) (H : Heap) (locs : List Loc) (ls : Array Slot), jX9_about_65 p1 k7 v3 v4 s0 s1 w = some q → World E full w s H → va_S (wA E full) s.heap H locs → lv_has ls 5 [(0, .ref (E.2.1 99)), (1, .int p1), (3, .int v3), (4, .int v4)] → W p l e rmX9_about s m args below meth c H locs 0 0 Q (F0 m 65 ls [.int s0, .int s1]) := by
        intro v3 v4 s0 s1 w H locs ls h hW hS hl
        unfold jX9_about_65 at h
        refine lv_iconst (v := (0 : Int32)) hx hb dX9_about_65 (by decide) ?_
        exact J66 _ _ _ _ _ _ _ _ _ h hW hS (hl)
      have J40 : ∀ (v3 : Int32) (v4 : Int32) (s0 : Int32) (s1 : Int32) (w : Wd) (H : Heap) (locs : List Loc) (ls : Array Slot), jX9_about_40 p1 k7 v3 v4 s0 s1 w = some q → World E full w s H → va_S (wA E full) s.heap H locs → lv_has ls 5 [(0, .ref (E.2.1 99)), (1, .int p1), (3, .int v3), (4, .int v4)] → W p l e rmX9_about s m args below meth c H locs 0 0 Q (F0 m 40 ls [.int s0, .int s1]) := by
        intro v3 v4 s0 s1 w H locs ls h hW hS hl
        unfold jX9_about_40 at h
        refine lv_iload hx hb dX9_about_40 (lv_at hl 3 rfl) ?_
        refine lv_aload_n hx hb dX9_about_42 rfl (lv_at hl 0 rfl) ?_
        refine rw_get hx hb hts iX9 hown hW (fl 99 rfl) rfl rfl 1 (by decide) e88 rfl (v := .int (w.1 99 1)) rfl dX9_about_43 ?_
        refine rb_icmp_ge (tgt := 65) hx hb h dX9_about_46 (by decide) (fun h => ?_) (fun h => ?_)
        · exact J65 _ _ _ _ _ _ _ _ h hW hS (hl)
        · refine lv_aload_n hx hb dX9_about_49 rfl (lv_at hl 0 rfl) ?_
          refine rw_get hx hb hts iX9 hown hW (fl 99 rfl) rfl rfl 4 (by decide) e16 rfl (v := .ref (E.2.1 102)) rfl dX9_about_50 ?_
          refine lv_iload hx hb dX9_about_53 (lv_at hl 3 rfl) ?_
          refine rw_iald hx hb hW (fun _ => (fl 102 rfl)) h dX9_about_55 (fun x7 h => ?_)
          refine lv_bipush (v := (-9 : Int32)) hx hb dX9_about_56 (by decide) ?_
          refine rb_icmp_eq (tgt := 65) hx hb h dX9_about_58 (by decide) (fun h => ?_) (fun h => ?_)
          · exact J65 _ _ _ _ _ _ _ _ h hW hS (hl)
          · refine lv_iconst (v := (1 : Int32)) hx hb dX9_about_61 (by decide) ?_
            refine lv_goto (tgt := 66) hx hb dX9_about_62 (by decide) ?_
            exact J66 _ _ _ _ _ _ _ _ _ h hW hS (hl)
      have J39 : ∀ (v3 : Int32) (v4 : Int32) (s0 : Int32) (w : Wd) (H : Heap) (locs : List Loc) (ls : Array Slot), jX9_about_39 p1 k7 v3 v4 s0 w = some q → World E full w s H → va_S (wA E full) s.heap H locs → lv_has ls 5 [(0, .ref (E.2.1 99)), (1, .int p1), (3, .int v3), (4, .int v4)] → W p l e rmX9_about s m args below meth c H locs 0 0 Q (F0 m 39 ls [.int s0]) := by
        intro v3 v4 s0 w H locs ls h hW hS hl
        unfold jX9_about_39 at h
        refine lv_iconst (v := (0 : Int32)) hx hb dX9_about_39 (by decide) ?_
        exact J40 _ _ _ _ _ _ _ _ h hW hS (hl)
      unfold bX9_about_7 at h
      refine lv_iload hx hb dX9_about_7 (lv_at hl 4 rfl) ?_
      refine lv_iconst (v := (5 : Int32)) hx hb dX9_about_9 (by decide) ?_
      refine rb_icmp_ge (tgt := 75) hx hb h dX9_about_10 (by decide) (fun h => ?_) (fun h => ?_)
      · refine lv_iconst (v := (0 : Int32)) hx hb dX9_about_75 (by decide) ?_
        refine lv_istore (lv' := [(4, .int (0 : Int32)), (0, .ref (E.2.1 99)), (1, .int p1), (2, .int v2), (3, .int v3)]) hx hb dX9_about_76 hl (by decide) rfl (fun ls hl => ?_)
        exact J78 _ _ _ _ _ _ _ _ h hW hS (lv_sub hl [1, 2, 3, 4, 0] rfl)
      · refine lv_iload_n hx hb dX9_about_13 rfl (lv_at hl 2 rfl) ?_
        refine lv_iload hx hb dX9_about_14 (lv_at hl 4 rfl) ?_
        refine lv_aload_n hx hb dX9_about_16 rfl (lv_at hl 0 rfl) ?_
        refine rw_get hx hb hts iX9 hown hW (fl 99 rfl) rfl rfl 0 (by decide) e85 rfl (v := .int (w.1 99 0)) rfl dX9_about_17 ?_
        refine rb_icmp_ge (tgt := 39) hx hb h dX9_about_20 (by decide) (fun h => ?_) (fun h => ?_)
        · exact J39 _ _ _ _ _ _ _ h hW hS (lv_sub hl [0, 1, 3, 4] rfl)
        · refine lv_aload_n hx hb dX9_about_23 rfl (lv_at hl 0 rfl) ?_
          refine rw_get hx hb hts iX9 hown hW (fl 99 rfl) rfl rfl 3 (by decide) e13 rfl (v := .ref (E.2.1 101)) rfl dX9_about_24 ?_
          refine lv_iload hx hb dX9_about_27 (lv_at hl 4 rfl) ?_
          refine rw_iald hx hb hW (fun _ => (fl 101 rfl)) h dX9_about_29 (fun x1 h => ?_)
          refine lv_bipush (v := (-9 : Int32)) hx hb dX9_about_30 (by decide) ?_
          refine rb_icmp_eq (tgt := 39) hx hb h dX9_about_32 (by decide) (fun h => ?_) (fun h => ?_)
          · exact J39 _ _ _ _ _ _ _ h hW hS (lv_sub hl [0, 1, 3, 4] rfl)
          · refine lv_iconst (v := (1 : Int32)) hx hb dX9_about_35 (by decide) ?_
            refine lv_goto (tgt := 40) hx hb dX9_about_36 (by decide) ?_
            exact J40 _ _ _ _ _ _ _ _ h hW hS (lv_sub hl [0, 1, 3, 4] rfl)
  unfold fX9_about at h
  refine lv_iconst (v := (0 : Int32)) hx hb dX9_about_0 (by decide) ?_
  refine lv_istore_n (lv' := [(2, .int (0 : Int32)), (0, .ref (E.2.1 99)), (1, .int p1)]) hx hb dX9_about_1 rfl hl (by decide) rfl (fun ls hl => ?_)
  refine lv_iconst (v := (0 : Int32)) hx hb dX9_about_2 (by decide) ?_
  refine lv_istore_n (lv' := [(3, .int (0 : Int32)), (2, .int (0 : Int32)), (0, .ref (E.2.1 99)), (1, .int p1)]) hx hb dX9_about_3 rfl hl (by decide) rfl (fun ls hl => ?_)
  refine lv_iconst (v := (0 : Int32)) hx hb dX9_about_4 (by decide) ?_
  refine lv_istore (lv' := [(4, .int (0 : Int32)), (3, .int (0 : Int32)), (2, .int (0 : Int32)), (0, .ref (E.2.1 99)), (1, .int p1)]) hx hb dX9_about_5 hl (by decide) rfl (fun ls hl => ?_)
  exact J7 _ _ _ _ _ _ _ _ h hW hS (lv_sub hl [3, 4, 2, 1, 0] rfl)
