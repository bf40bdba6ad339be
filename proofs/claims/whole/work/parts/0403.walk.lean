noncomputable def jX1_addFewest_110 (p1 : Int32) (p2 : Int32) (k42 : Int32 → Int32 → Int32 → Int32 → Int32 → Wd → Option (Unit × Wd)) (v4 : Int32) (v5 : Int32) (v6 : Int32) (v7 : Int32) (v8 : Int32)  (w : Wd) : Option (Unit × Wd) :=
  k42 v4 v5 v6 v7 (v8 + (1 : Int32)) w
noncomputable def bX1_addFewest_42 (p1 : Int32) (p2 : Int32) (k42 : Int32 → Int32 → Int32 → Int32 → Int32 → Wd → Option (Unit × Wd)) (v4 : Int32) (v5 : Int32) (v6 : Int32) (v7 : Int32) (v8 : Int32)  (w : Wd) : Option (Unit × Wd) :=
  if v7 ≤ v8 then some ((), w) else (gI w (rl (w.1 19 7)) v8).bind fun x11 => if x11 = (1000 : Int32) then jX1_addFewest_110 p1 p2 k42 v4 v5 v6 v7 v8 w else bnd (fX1_after (v8 ||| v5) v6 w) fun x12 w13 => if x12 = (-1 : Int32) then jX1_addFewest_110 p1 p2 k42 v4 v5 v6 v7 v8 w13 else (gI w13 (rl (w13.1 19 8)) x12).bind fun x14 => (gI w13 (rl (w13.1 19 7)) v8).bind fun x15 => (sI w13 (rl (w13.1 19 8)) x12 (if (x15 + v4) < x14 then (x15 + v4) else x14)).bind fun w16 => jX1_addFewest_110 p1 p2 k42 v4 v5 v6 v7 v8 w16
noncomputable def fX1_addFewest (p1 : Int32) (p2 : Int32) (w : Wd) : Option (Unit × Wd) :=
  bnd (fX1_heightsOf p1 p2 w) fun x1 w2 => if x1 = 0 then some ((), w2) else bnd (fJ6_numberOfTrailingZeros_0f7a4 x1 w2) fun x3 w4 => bnd (fX1_linesMet p1 p2 w4) fun x5 w6 => bnd (fX1_endsRow p1 w6) fun x7 w8 => bnd (fX1_states w8) fun x9 w10 => lp (fun _ _ _ _ _ _ => none) (bX1_addFewest_42 p1 p2) G x3 x5 x7 x9 (0 : Int32) w10
abbrev rmX1_addFewest : Room := { frames := 2, cells := 0, slots := 0, locals := 43 }
set_option maxHeartbeats 4000000 in
set_option maxRecDepth 100000 in
theorem kX1_addFewest (l : Launch) (E : Ev) (p1 : Int32) (p2 : Int32) (w : Wd) (q : Unit × Wd) (h : fX1_addFewest p1 p2 w = some q) : CtV l yX1_addFewest wsX1_addFewest rmX1_addFewest E full [.ref (E.2.1 19), .int p1, .int p2] w q := by
  refine mkV (cc := cX1_addFewest) (maxL := 10) (by decide) rfl (Nat.le_of_ble_eq_true rfl) ?_
  intro p e s m args below meth c Q S hW hQ ls hl
  obtain ⟨hx, hb, hml, hown, hts⟩ := id S
  have hW0 := hW
  have hS : va_S (wA E full) s.heap s.heap [] := va_S.rf
  have hl : lv_has ls 10 [(0, .ref (E.2.1 19)), (1, .int p1), (2, .int p2)] := hl
  have iX1 : ∀ w ∈ wsX10, w ∈ wsX1_addFewest := by decide +kernel
  have e29 := hts (.fieldLink RX1 29 "CubeHeaps$Fitting" "fewest" "[I") (by decide +kernel)
  have e32 := hts (.fieldLink RX1 32 "CubeHeaps$Fitting" "fewestNext" "[I") (by decide +kernel)
  have J42 : ∀ (n : Nat) (v4 : Int32) (v5 : Int32) (v6 : Int32) (v7 : Int32) (v8 : Int32) (w : Wd) (H : Heap) (locs : List Loc) (ls : Array Slot), lp (fun _ _ _ _ _ _ => none) (bX1_addFewest_42 p1 p2) n v4 v5 v6 v7 v8 w = some q → World E full w s H → va_S (wA E full) s.heap H locs → lv_has ls 10 [(0, .ref (E.2.1 19)), (4, .int v4), (5, .int v5), (6, .int v6), (7, .int v7), (8, .int v8)] → W p l e rmX1_addFewest s m args below meth c H locs 0 0 Q (F0 m 42 ls []) := by
    intro n
    induction n with
    | zero =>
      intro v4 v5 v6 v7 v8 w H locs ls h hW hS hl
      exact absurd (show (none : Option (Unit × Wd)) = some q from h) (fun z => by cases z)
    | succ n ih42 =>
      intro v4 v5 v6 v7 v8 w H locs ls h hW hS hl
      have h : bX1_addFewest_42 p1 p2 (lp (fun _ _ _ _ _ _ => none) (bX1_addFewest_42 p1 p2) n) v4 v5 v6 v7 v8 w = some q := h
      generalize lp (fun _ _ _ _ _ _ => none) (bX1_addFewest_42 p1 p2) n = k42 at h ih42
      have J110 : ∀ (v4 : Int32) (v5 : Int32) (v6 : Int32) (v7 : Int32) (v8 : Int32) (w : Wd) (H : Heap) (locs : List Loc) (ls : Array Slot), jX1_addFewest_110 p1 p2 k42 v4 v5 v6 v7 v8 w = some q → World E full w s H → va_S (wA E full) s.heap H locs → lv_has ls 10 [(0, .ref (E.2.1 19)), (4, .int v4), (5, .int v5), (6, .int v6), (7, .int v7), (8, .int v8)] → W p l e rmX1_addFewest s m args below meth c H locs 0 0 Q (F0 m 110 ls []) := by
        intro v4 v5 v6 v7 v8 w H locs ls h hW hS hl
        unfold jX1_addFewest_110 at h
        refine lv_iinc (v := (v8 + (1 : Int32))) (lv' := [(8, .int (v8 + (1 : Int32))), (0, .ref (E.2.1 19)), (4, .int v4), (5, .int v5), (6, .int v6), (7, .int v7)]) hx hb dX1_addFewest_110 hl (k := 5) rfl rfl (by decide) rfl (fun ls hl => ?_)
        refine lv_goto (tgt := 42) hx hb dX1_addFewest_113 (by decide) ?_
        exact ih42 _ _ _ _ _ _ _ _ _ h hW hS (lv_sub hl [1, 2, 3, 4, 5, 0] rfl)
      unfold bX1_addFewest_42 at h
      refine lv_iload hx hb dX1_addFewest_42 (lv_at hl 5 rfl) ?_
      refine lv_iload hx hb dX1_addFewest_44 (lv_at hl 4 rfl) ?_
      refine rb_icmp_ge (tgt := 116) hx hb h dX1_addFewest_46 (by decide) (fun h => ?_) (fun h => ?_)
      · exact rrV hQ hW hS h dX1_addFewest_116
      · refine lv_aload_n hx hb dX1_addFewest_49 rfl (lv_at hl 0 rfl) ?_
        refine rw_get hx hb hts iX1 hown hW (fl 19 rfl) rfl rfl 7 (by decide) e29 rfl (v := .ref (E.2.1 (rl (w.1 19 7)))) rfl dX1_addFewest_50 ?_
        refine lv_iload hx hb dX1_addFewest_53 (lv_at hl 5 rfl) ?_
        refine rw_iald hx hb hW LI_full h dX1_addFewest_55 (fun x11 h => ?_)
        refine lv_sipush (v := (1000 : Int32)) hx hb dX1_addFewest_56 (by decide) ?_
        refine rb_icmp_ne (tgt := 65) hx hb h dX1_addFewest_59 (by decide) (fun h => ?_) (fun h => ?_)
        · refine lv_iload hx hb dX1_addFewest_65 (lv_at hl 5 rfl) ?_
          refine lv_iload hx hb dX1_addFewest_67 (lv_at hl 2 rfl) ?_
          refine lv_ior hx hb dX1_addFewest_69 ?_
          refine lv_iload hx hb dX1_addFewest_70 (lv_at hl 3 rfl) ?_
          refine rc_Si (As := [.int (v8 ||| v5), .int v6]) (rest := []) S hW hS h (kX1_after l E (v8 ||| v5) v6 w) (va_cwS 2 hts gX1_addFewest_X1_after rfl rfl rfl hdX1_after ⟨Nat.le_of_ble_eq_true rfl, Nat.le_of_ble_eq_true rfl⟩) rfl hl.1 rfl (Nat.le_of_ble_eq_true rfl) ⟨Nat.zero_le _, Nat.zero_le _⟩ dX1_addFewest_72 (fun x12 w13 H locs h hW hS => ?_)
          refine lv_istore (lv' := [(9, .int x12), (0, .ref (E.2.1 19)), (4, .int v4), (5, .int v5), (6, .int v6), (7, .int v7), (8, .int v8)]) hx hb dX1_addFewest_75 hl (by decide) rfl (fun ls hl => ?_)
          refine lv_iload hx hb dX1_addFewest_77 (lv_at hl 0 rfl) ?_
          refine lv_iconst (v := (-1 : Int32)) hx hb dX1_addFewest_79 (by decide) ?_
          refine rb_icmp_eq (tgt := 110) hx hb h dX1_addFewest_80 (by decide) (fun h => ?_) (fun h => ?_)
          · exact J110 _ _ _ _ _ _ _ _ _ h hW hS (lv_sub hl [1, 2, 3, 4, 5, 6] rfl)
          · refine lv_aload_n hx hb dX1_addFewest_83 rfl (lv_at hl 1 rfl) ?_
            refine rw_get hx hb hts iX1 hown hW (fl 19 rfl) rfl rfl 8 (by decide) e32 rfl (v := .ref (E.2.1 (rl (w13.1 19 8)))) rfl dX1_addFewest_84 ?_
            refine lv_iload hx hb dX1_addFewest_87 (lv_at hl 0 rfl) ?_
            refine lv_aload_n hx hb dX1_addFewest_89 rfl (lv_at hl 1 rfl) ?_
            refine rw_get hx hb hts iX1 hown hW (fl 19 rfl) rfl rfl 8 (by decide) e32 rfl (v := .ref (E.2.1 (rl (w13.1 19 8)))) rfl dX1_addFewest_90 ?_
            refine lv_iload hx hb dX1_addFewest_93 (lv_at hl 0 rfl) ?_
            refine rw_iald hx hb hW LI_full h dX1_addFewest_95 (fun x14 h => ?_)
            refine lv_aload_n hx hb dX1_addFewest_96 rfl (lv_at hl 1 rfl) ?_
            refine rw_get hx hb hts iX1 hown hW (fl 19 rfl) rfl rfl 7 (by decide) e29 rfl (v := .ref (E.2.1 (rl (w13.1 19 7)))) rfl dX1_addFewest_97 ?_
            refine lv_iload hx hb dX1_addFewest_100 (lv_at hl 6 rfl) ?_
            refine rw_iald hx hb hW LI_full h dX1_addFewest_102 (fun x15 h => ?_)
            refine lv_iload hx hb dX1_addFewest_103 (lv_at hl 2 rfl) ?_
            refine lv_iadd hx hb dX1_addFewest_105 ?_
            refine va_mmin hx hb (hml.trans hl.1.symm) (own := RX1) hown (hts (.methodLink RX1 117 Lib.Math.min.name) (by decide +kernel)) (hts (.static Lib.Math.min.name) (by decide +kernel)) (hts (.initialized "java/lang/Math") (by decide +kernel)) (hts (.code Lib.Math.min.name Lib.Math.min.code 2 (some .int)) (by decide +kernel)) (Nat.le_of_ble_eq_true rfl) (Nat.le_of_ble_eq_true rfl) (Nat.zero_le _) (Nat.zero_le _) dX1_addFewest_106 ?_
            refine rw_iast hx hb hW hS LI_full h dX1_addFewest_109 (fun w16 H locs h hW hS => ?_)
            exact J110 _ _ _ _ _ _ _ _ _ h hW hS (lv_sub hl [1, 2, 3, 4, 5, 6] rfl)
        · refine lv_goto (tgt := 110) hx hb dX1_addFewest_62 (by decide) ?_
          exact J110 _ _ _ _ _ _ _ _ _ h hW hS (hl)
  unfold fX1_addFewest at h
  refine lv_aload_n hx hb dX1_addFewest_0 rfl (lv_at hl 0 rfl) ?_
  refine lv_iload_n hx hb dX1_addFewest_1 rfl (lv_at hl 1 rfl) ?_
  refine lv_iload_n hx hb dX1_addFewest_2 rfl (lv_at hl 2 rfl) ?_
  refine rc_Vi (k := 19) (As := [.int p1, .int p2]) (rest := []) S hW hS h (kX1_heightsOf l E p1 p2 w) (cwV 2 hts gX1_addFewest_X1_heightsOf rfl rfl rfl hdX1_heightsOf ⟨Nat.le_of_ble_eq_true rfl, Nat.le_of_ble_eq_true rfl⟩) (fl 19 rfl) rfl rfl rfl rfl hl.1 rfl (Nat.le_of_ble_eq_true rfl) ⟨Nat.zero_le _, Nat.zero_le _⟩ dX1_addFewest_3 (fun x1 w2 H locs h hW hS => ?_)
  refine lv_istore_n (lv' := [(3, .int x1), (0, .ref (E.2.1 19)), (1, .int p1), (2, .int p2)]) hx hb dX1_addFewest_6 rfl hl (by decide) rfl (fun ls hl => ?_)
  refine lv_iload_n hx hb dX1_addFewest_7 rfl (lv_at hl 0 rfl) ?_
  refine rb_if_ne (tgt := 12) hx hb h dX1_addFewest_8 (by decide) (fun h => ?_) (fun h => ?_)
  · refine lv_iload_n hx hb dX1_addFewest_12 rfl (lv_at hl 0 rfl) ?_
    refine rc_Si (As := [.int x1]) (rest := []) S hW hS h (kJ6_numberOfTrailingZeros_0f7a4 l E x1 w2) (va_cwS 1 hts gX1_addFewest_J6_numberOfTrailingZeros_0f7a4 rfl rfl rfl hdJ6_numberOfTrailingZeros_0f7a4 ⟨Nat.le_of_ble_eq_true rfl, Nat.le_of_ble_eq_true rfl⟩) rfl hl.1 rfl (Nat.le_of_ble_eq_true rfl) ⟨Nat.zero_le _, Nat.zero_le _⟩ dX1_addFewest_13 (fun x3 w4 H locs h hW hS => ?_)
    refine lv_istore (lv' := [(4, .int x3), (3, .int x1), (0, .ref (E.2.1 19)), (1, .int p1), (2, .int p2)]) hx hb dX1_addFewest_16 hl (by decide) rfl (fun ls hl => ?_)
    refine lv_aload_n hx hb dX1_addFewest_18 rfl (lv_at hl 2 rfl) ?_
    refine lv_iload_n hx hb dX1_addFewest_19 rfl (lv_at hl 3 rfl) ?_
    refine lv_iload_n hx hb dX1_addFewest_20 rfl (lv_at hl 4 rfl) ?_
    refine rc_Vi (k := 19) (As := [.int p1, .int p2]) (rest := []) S hW hS h (kX1_linesMet l E p1 p2 w4) (cwV 2 hts gX1_addFewest_X1_linesMet rfl rfl rfl hdX1_linesMet ⟨Nat.le_of_ble_eq_true rfl, Nat.le_of_ble_eq_true rfl⟩) (fl 19 rfl) rfl rfl rfl rfl hl.1 rfl (Nat.le_of_ble_eq_true rfl) ⟨Nat.zero_le _, Nat.zero_le _⟩ dX1_addFewest_21 (fun x5 w6 H locs h hW hS => ?_)
    refine lv_istore (lv' := [(5, .int x5), (4, .int x3), (3, .int x1), (0, .ref (E.2.1 19)), (1, .int p1), (2, .int p2)]) hx hb dX1_addFewest_24 hl (by decide) rfl (fun ls hl => ?_)
    refine lv_aload_n hx hb dX1_addFewest_26 rfl (lv_at hl 3 rfl) ?_
    refine lv_iload_n hx hb dX1_addFewest_27 rfl (lv_at hl 4 rfl) ?_
    refine rc_Vi (k := 19) (As := [.int p1]) (rest := []) S hW hS h (kX1_endsRow l E p1 w6) (cwV 1 hts gX1_addFewest_X1_endsRow rfl rfl rfl hdX1_endsRow ⟨Nat.le_of_ble_eq_true rfl, Nat.le_of_ble_eq_true rfl⟩) (fl 19 rfl) rfl rfl rfl rfl hl.1 rfl (Nat.le_of_ble_eq_true rfl) ⟨Nat.zero_le _, Nat.zero_le _⟩ dX1_addFewest_28 (fun x7 w8 H locs h hW hS => ?_)
    refine lv_istore (lv' := [(6, .int x7), (5, .int x5), (4, .int x3), (3, .int x1), (0, .ref (E.2.1 19)), (1, .int p1), (2, .int p2)]) hx hb dX1_addFewest_31 hl (by decide) rfl (fun ls hl => ?_)
    refine lv_aload_n hx hb dX1_addFewest_33 rfl (lv_at hl 4 rfl) ?_
    refine rc_Vi (k := 19) (As := []) (rest := []) S hW hS h (kX1_states l E  w8) (cwV 0 hts gX1_addFewest_X1_states rfl rfl rfl hdX1_states ⟨Nat.le_of_ble_eq_true rfl, Nat.le_of_ble_eq_true rfl⟩) (fl 19 rfl) rfl rfl rfl rfl hl.1 rfl (Nat.le_of_ble_eq_true rfl) ⟨Nat.zero_le _, Nat.zero_le _⟩ dX1_addFewest_34 (fun x9 w10 H locs h hW hS => ?_)
    refine lv_istore (lv' := [(7, .int x9), (6, .int x7), (5, .int x5), (4, .int x3), (3, .int x1), (0, .ref (E.2.1 19)), (1, .int p1), (2, .int p2)]) hx hb dX1_addFewest_37 hl (by decide) rfl (fun ls hl => ?_)
    refine lv_iconst (v := (0 : Int32)) hx hb dX1_addFewest_39 (by decide) ?_
    refine lv_istore (lv' := [(8, .int (0 : Int32)), (7, .int x9), (6, .int x7), (5, .int x5), (4, .int x3), (3, .int x1), (0, .ref (E.2.1 19)), (1, .int p1), (2, .int p2)]) hx hb dX1_addFewest_40 hl (by decide) rfl (fun ls hl => ?_)
    exact J42 _ _ _ _ _ _ _ _ _ _ h hW hS (lv_sub hl [6, 4, 3, 2, 1, 0] rfl)
  · exact rrV hQ hW hS h dX1_addFewest_11
noncomputable def bX1_fewestCubes_42 (k19 : Int32 → Wd → Option (Int32 × Wd)) (k42 : Int32 → Int32 → Wd → Option (Int32 × Wd)) (v1 : Int32) (v2 : Int32)  (w : Wd) : Option (Int32 × Wd) :=
  if (4 : Int32) ≤ v2 then k19 (v1 + (1 : Int32)) (uI (uI w 19 7 (w.1 19 8)) 19 8 (w.1 19 7)) else bnd (fX1_addFewest v1 v2 w) fun _ w9 => k42 v1 (v2 + (1 : Int32)) w9
noncomputable def bX1_fewestCubes_19 (k19 : Int32 → Wd → Option (Int32 × Wd)) (v1 : Int32)  (w : Wd) : Option (Int32 × Wd) :=
  bnd (fX2_cells w) fun x3 w4 => if x3 ≤ v1 then bnd (fX1_allMet w4) fun x5 w6 => (gI w6 (rl (w4.1 19 7)) x5).bind fun x7 => some (x7, w6) else bnd (fJ7_fill_53178 (rl (w4.1 19 8)) (1000 : Int32) w4) fun _ w8 => lp (fun _ _ _ => none) (bX1_fewestCubes_42 k19) G v1 (0 : Int32) w8
noncomputable def fX1_fewestCubes  (w : Wd) : Option (Int32 × Wd) :=
  bnd (fJ7_fill_53178 (rl (w.1 19 7)) (1000 : Int32) w) fun _ w1 => (sI w1 (rl (w1.1 19 7)) (0 : Int32) (0 : Int32)).bind fun w2 => lp (fun _ _ => none) (bX1_fewestCubes_19) G (0 : Int32) w2
abbrev rmX1_fewestCubes : Room := { frames := 3, cells := 0, slots := 0, locals := 72 }
set_option maxHeartbeats 4000000 in
set_option maxRecDepth 100000 in
theorem kX1_fewestCubes (l : Launch) (E : Ev)  (w : Wd) (q : Int32 × Wd) (h : fX1_fewestCubes w = some q) : CtI l yX1_fewestCubes wsX1_fewestCubes rmX1_fewestCubes E full [.ref (E.2.1 19)] w q := by
  refine mkI (cc := cX1_fewestCubes) (maxL := 3) (by decide) rfl (Nat.le_of_ble_eq_true rfl) ?_
  intro p e s m args below meth c Q S hW hQ ls hl
  obtain ⟨hx, hb, hml, hown, hts⟩ := id S
  have hW0 := hW
  have hS : va_S (wA E full) s.heap s.heap [] := va_S.rf
  have hl : lv_has ls 3 [(0, .ref (E.2.1 19))] := hl
  have iX1 : ∀ w ∈ wsX10, w ∈ wsX1_fewestCubes := by decide +kernel
  have e29 := hts (.fieldLink RX1 29 "CubeHeaps$Fitting" "fewest" "[I") (by decide +kernel)
  have e32 := hts (.fieldLink RX1 32 "CubeHeaps$Fitting" "fewestNext" "[I") (by decide +kernel)
  have e39 := hts (.fieldLink RX1 39 "CubeHeaps$Fitting" "ground" "LCubeHeaps$Ground;") (by decide +kernel)
  have J19 : ∀ (n : Nat) (v1 : Int32) (w : Wd) (H : Heap) (locs : List Loc) (ls : Array Slot), lp (fun _ _ => none) (bX1_fewestCubes_19) n v1 w = some q → World E full w s H → va_S (wA E full) s.heap H locs → lv_has ls 3 [(0, .ref (E.2.1 19)), (1, .int v1)] → W p l e rmX1_fewestCubes s m args below meth c H locs 0 0 Q (F0 m 19 ls []) := by
    intro n
    induction n with
    | zero =>
      intro v1 w H locs ls h hW hS hl
      exact absurd (show (none : Option (Int32 × Wd)) = some q from h) (fun z => by cases z)
    | succ n ih19 =>
      intro v1 w H locs ls h hW hS hl
      have h : bX1_fewestCubes_19 (lp (fun _ _ => none) (bX1_fewestCubes_19) n) v1 w = some q := h
      generalize lp (fun _ _ => none) (bX1_fewestCubes_19) n = k19 at h ih19
      have J42 : ∀ (n : Nat) (v1 : Int32) (v2 : Int32) (w : Wd) (H : Heap) (locs : List Loc) (ls : Array Slot), lp (fun _ _ _ => none) (bX1_fewestCubes_42 k19) n v1 v2 w = some q → World E full w s H → va_S (wA E full) s.heap H locs → lv_has ls 3 [(0, .ref (E.2.1 19)), (1, .int v1), (2, .int v2)] → W p l e rmX1_fewestCubes s m args below meth c H locs 0 0 Q (F0 m 42 ls []) := by
        intro n
        induction n with
        | zero =>
          intro v1 v2 w H locs ls h hW hS hl
          exact absurd (show (none : Option (Int32 × Wd)) = some q from h) (fun z => by cases z)
        | succ n ih42 =>
          intro v1 v2 w H locs ls h hW hS hl
          have h : bX1_fewestCubes_42 k19 (lp (fun _ _ _ => none) (bX1_fewestCubes_42 k19) n) v1 v2 w = some q := h
          generalize lp (fun _ _ _ => none) (bX1_fewestCubes_42 k19) n = k42 at h ih42
          unfold bX1_fewestCubes_42 at h
          refine lv_iload_n hx hb dX1_fewestCubes_42 rfl (lv_at hl 2 rfl) ?_
          refine lv_iconst (v := (4 : Int32)) hx hb dX1_fewestCubes_43 (by decide) ?_
          refine rb_icmp_ge (tgt := 59) hx hb h dX1_fewestCubes_44 (by decide) (fun h => ?_) (fun h => ?_)
          · refine lv_aload_n hx hb dX1_fewestCubes_59 rfl (lv_at hl 0 rfl) ?_
            refine rw_get hx hb hts iX1 hown hW (fl 19 rfl) rfl rfl 7 (by decide) e29 rfl (v := .ref (E.2.1 (rl (w.1 19 7)))) rfl dX1_fewestCubes_60 ?_
            refine lv_astore_n (lv' := [(2, .ref (E.2.1 (rl (w.1 19 7)))), (0, .ref (E.2.1 19)), (1, .int v1)]) hx hb dX1_fewestCubes_63 rfl hl (by decide) rfl (fun ls hl => ?_)
            refine lv_aload_n hx hb dX1_fewestCubes_64 rfl (lv_at hl 1 rfl) ?_
            refine lv_aload_n hx hb dX1_fewestCubes_65 rfl (lv_at hl 1 rfl) ?_
            refine rw_get hx hb hts iX1 hown hW (fl 19 rfl) rfl rfl 8 (by decide) e32 rfl (v := .ref (E.2.1 (rl (w.1 19 8)))) rfl dX1_fewestCubes_66 ?_
            refine rw_put hx hb hts iX1 tyX1_ok nmX1 hown hW hS (fl 19 rfl) rfl rfl 7 (by decide) e29 rfl 7 (w.1 19 8) (L := [.ref (E.2.1 1), .ref (E.2.1 14), .ref (E.2.1 20), .ref (E.2.1 21), .ref (E.2.1 22), .ref (E.2.1 23), .ref (E.2.1 50), .ref (E.2.1 (rl (w.1 19 8))), .ref (E.2.1 (rl (w.1 19 8))), .int (w.1 19 9)]) rfl rfl rfl rfl (by decide) dX1_fewestCubes_69 (fun H locs hW hS => ?_)
            refine lv_aload_n hx hb dX1_fewestCubes_72 rfl (lv_at hl 1 rfl) ?_
            refine lv_aload_n hx hb dX1_fewestCubes_73 rfl (lv_at hl 0 rfl) ?_
            refine rw_put hx hb hts iX1 tyX1_ok nmX1 hown hW hS (fl 19 rfl) rfl rfl 8 (by decide) e32 rfl 8 (w.1 19 7) (L := [.ref (E.2.1 1), .ref (E.2.1 14), .ref (E.2.1 20), .ref (E.2.1 21), .ref (E.2.1 22), .ref (E.2.1 23), .ref (E.2.1 50), .ref (E.2.1 (rl ((uI w 19 7 (w.1 19 8)).1 19 7))), .ref (E.2.1 (rl (w.1 19 7))), .int ((uI w 19 7 (w.1 19 8)).1 19 9)]) rfl rfl rfl rfl (by decide) dX1_fewestCubes_74 (fun H locs hW hS => ?_)
            refine lv_iinc (v := (v1 + (1 : Int32))) (lv' := [(1, .int (v1 + (1 : Int32))), (2, .ref (E.2.1 (rl (w.1 19 7)))), (0, .ref (E.2.1 19))]) hx hb dX1_fewestCubes_77 hl (k := 2) rfl rfl (by decide) rfl (fun ls hl => ?_)
            refine lv_goto (tgt := 19) hx hb dX1_fewestCubes_80 (by decide) ?_
            exact ih19 _ _ _ _ _ h hW hS (lv_sub hl [2, 0] rfl)
          · refine lv_aload_n hx hb dX1_fewestCubes_47 rfl (lv_at hl 0 rfl) ?_
            refine lv_iload_n hx hb dX1_fewestCubes_48 rfl (lv_at hl 1 rfl) ?_
            refine lv_iload_n hx hb dX1_fewestCubes_49 rfl (lv_at hl 2 rfl) ?_
            refine rc_Vv (k := 19) (As := [.int v1, .int v2]) (rest := []) S hW hS h (kX1_addFewest l E v1 v2 w) (cwV 2 hts gX1_fewestCubes_X1_addFewest rfl rfl rfl hdX1_addFewest ⟨Nat.le_of_ble_eq_true rfl, Nat.le_of_ble_eq_true rfl⟩) (fl 19 rfl) rfl rfl rfl rfl hl.1 rfl (Nat.le_of_ble_eq_true rfl) ⟨Nat.zero_le _, Nat.zero_le _⟩ dX1_fewestCubes_50 (fun _ w9 H locs h hW hS => ?_)
            refine lv_iinc (v := (v2 + (1 : Int32))) (lv' := [(2, .int (v2 + (1 : Int32))), (0, .ref (E.2.1 19)), (1, .int v1)]) hx hb dX1_fewestCubes_53 hl (k := 2) rfl rfl (by decide) rfl (fun ls hl => ?_)
            refine lv_goto (tgt := 42) hx hb dX1_fewestCubes_56 (by decide) ?_
            exact ih42 _ _ _ _ _ _ h hW hS (lv_sub hl [1, 2, 0] rfl)
      unfold bX1_fewestCubes_19 at h
      refine lv_iload_n hx hb dX1_fewestCubes_19 rfl (lv_at hl 1 rfl) ?_
      refine lv_aload_n hx hb dX1_fewestCubes_20 rfl (lv_at hl 0 rfl) ?_
      refine rw_get hx hb hts iX1 hown hW (fl 19 rfl) rfl rfl 0 (by decide) e39 rfl (v := .ref (E.2.1 1)) rfl dX1_fewestCubes_21 ?_
      refine rc_Vi (k := 1) (As := []) (rest := [.int v1]) S hW hS h (kX2_cells l E  w) (cwV 0 hts gX1_fewestCubes_X2_cells rfl rfl rfl hdX2_cells ⟨Nat.le_of_ble_eq_true rfl, Nat.le_of_ble_eq_true rfl⟩) (fl 1 rfl) rfl rfl rfl rfl hl.1 rfl (Nat.le_of_ble_eq_true rfl) ⟨Nat.zero_le _, Nat.zero_le _⟩ dX1_fewestCubes_24 (fun x3 w4 H locs h hW hS => ?_)
      refine rb_icmp_ge (tgt := 83) hx hb h dX1_fewestCubes_27 (by decide) (fun h => ?_) (fun h => ?_)
      · refine lv_aload_n hx hb dX1_fewestCubes_83 rfl (lv_at hl 0 rfl) ?_
        refine rw_get hx hb hts iX1 hown hW (fl 19 rfl) rfl rfl 7 (by decide) e29 rfl (v := .ref (E.2.1 (rl (w4.1 19 7)))) rfl dX1_fewestCubes_84 ?_
        refine lv_aload_n hx hb dX1_fewestCubes_87 rfl (lv_at hl 0 rfl) ?_
        refine rc_Vi (k := 19) (As := []) (rest := [.ref (E.2.1 (rl (w4.1 19 7)))]) S hW hS h (kX1_allMet l E  w4) (cwV 0 hts gX1_fewestCubes_X1_allMet rfl rfl rfl hdX1_allMet ⟨Nat.le_of_ble_eq_true rfl, Nat.le_of_ble_eq_true rfl⟩) (fl 19 rfl) rfl rfl rfl rfl hl.1 rfl (Nat.le_of_ble_eq_true rfl) ⟨Nat.zero_le _, Nat.zero_le _⟩ dX1_fewestCubes_88 (fun x5 w6 H locs h hW hS => ?_)
        refine rw_iald hx hb hW LI_full h dX1_fewestCubes_91 (fun x7 h => ?_)
        exact rrI hQ hW hS h dX1_fewestCubes_92
      · refine lv_aload_n hx hb dX1_fewestCubes_30 rfl (lv_at hl 0 rfl) ?_
        refine rw_get hx hb hts iX1 hown hW (fl 19 rfl) rfl rfl 8 (by decide) e32 rfl (v := .ref (E.2.1 (rl (w4.1 19 8)))) rfl dX1_fewestCubes_31 ?_
        refine lv_sipush (v := (1000 : Int32)) hx hb dX1_fewestCubes_34 (by decide) ?_
        refine rc_Sv (As := [.ref (E.2.1 (rl (w4.1 19 8))), .int (1000 : Int32)]) (rest := []) S hW hS h (kJ7_fill_53178 l E full (rl (w4.1 19 8)) (1000 : Int32) LI_full w4) (va_cwS 2 hts gX1_fewestCubes_J7_fill_53178 rfl rfl rfl hdJ7_fill_53178 ⟨Nat.le_of_ble_eq_true rfl, Nat.le_of_ble_eq_true rfl⟩) rfl hl.1 rfl (Nat.le_of_ble_eq_true rfl) ⟨Nat.zero_le _, Nat.zero_le _⟩ dX1_fewestCubes_37 (fun _ w8 H locs h hW hS => ?_)
        refine lv_iconst (v := (0 : Int32)) hx hb dX1_fewestCubes_40 (by decide) ?_
        refine lv_istore_n (lv' := [(2, .int (0 : Int32)), (0, .ref (E.2.1 19)), (1, .int v1)]) hx hb dX1_fewestCubes_41 rfl hl (by decide) rfl (fun ls hl => ?_)
        exact J42 _ _ _ _ _ _ _ h hW hS (lv_sub hl [1, 2, 0] rfl)
  unfold fX1_fewestCubes at h
  refine lv_aload_n hx hb dX1_fewestCubes_0 rfl (lv_at hl 0 rfl) ?_
  refine rw_get hx hb hts iX1 hown hW (fl 19 rfl) rfl rfl 7 (by decide) e29 rfl (v := .ref (E.2.1 (rl (w.1 19 7)))) rfl dX1_fewestCubes_1 ?_
  refine lv_sipush (v := (1000 : Int32)) hx hb dX1_fewestCubes_4 (by decide) ?_
  refine rc_Sv (As := [.ref (E.2.1 (rl (w.1 19 7))), .int (1000 : Int32)]) (rest := []) S hW hS h (kJ7_fill_53178 l E full (rl (w.1 19 7)) (1000 : Int32) LI_full w) (va_cwS 2 hts gX1_fewestCubes_J7_fill_53178 rfl rfl rfl hdJ7_fill_53178 ⟨Nat.le_of_ble_eq_true rfl, Nat.le_of_ble_eq_true rfl⟩) rfl hl.1 rfl (Nat.le_of_ble_eq_true rfl) ⟨Nat.zero_le _, Nat.zero_le _⟩ dX1_fewestCubes_7 (fun _ w1 H locs h hW hS => ?_)
  refine lv_aload_n hx hb dX1_fewestCubes_10 rfl (lv_at hl 0 rfl) ?_
  refine rw_get hx hb hts iX1 hown hW (fl 19 rfl) rfl rfl 7 (by decide) e29 rfl (v := .ref (E.2.1 (rl (w1.1 19 7)))) rfl dX1_fewestCubes_11 ?_
  refine lv_iconst (v := (0 : Int32)) hx hb dX1_fewestCubes_14 (by decide) ?_
  refine lv_iconst (v := (0 : Int32)) hx hb dX1_fewestCubes_15 (by decide) ?_
  refine rw_iast hx hb hW hS LI_full h dX1_fewestCubes_16 (fun w2 H locs h hW hS => ?_)
  refine lv_iconst (v := (0 : Int32)) hx hb dX1_fewestCubes_17 (by decide) ?_
  refine lv_istore_n (lv' := [(1, .int (0 : Int32)), (0, .ref (E.2.1 19))]) hx hb dX1_fewestCubes_18 rfl hl (by decide) rfl (fun ls hl => ?_)
  exact J19 _ _ _ _ _ _ h hW hS (lv_sub hl [1, 0] rfl)
noncomputable def fX1_afterHeight (p1 : Int32) (p2 : Int32) (p3 : Int32) (w : Wd) : Option (Int32 × Wd) :=
  bnd (fX1_kindOf p1 p3 w) fun x1 w2 => bnd (fX1_linesMet p1 x1 w2) fun x3 w4 => bnd (fX1_endsRow p1 w4) fun x5 w6 => bnd (fX1_after (p2 ||| x3) x5 w6) fun x7 w8 => some (x7, w8)
abbrev rmX1_afterHeight : Room := { frames := 2, cells := 0, slots := 0, locals := 43 }
set_option maxHeartbeats 4000000 in
set_option maxRecDepth 100000 in
theorem kX1_afterHeight (l : Launch) (E : Ev) (p1 : Int32) (p2 : Int32) (p3 : Int32) (w : Wd) (q : Int32 × Wd) (h : fX1_afterHeight p1 p2 p3 w = some q) : CtI l yX1_afterHeight wsX1_afterHeight rmX1_afterHeight E full [.ref (E.2.1 19), .int p1, .int p2, .int p3] w q := by
  refine mkI (cc := cX1_afterHeight) (maxL := 4) (by decide) rfl (Nat.le_of_ble_eq_true rfl) ?_
  intro p e s m args below meth c Q S hW hQ ls hl
  obtain ⟨hx, hb, hml, hown, hts⟩ := id S
  have hW0 := hW
  have hS : va_S (wA E full) s.heap s.heap [] := va_S.rf
  have hl : lv_has ls 4 [(0, .ref (E.2.1 19)), (1, .int p1), (2, .int p2), (3, .int p3)] := hl
  unfold fX1_afterHeight at h
  refine lv_iload_n hx hb dX1_afterHeight_0 rfl (lv_at hl 2 rfl) ?_
  refine lv_aload_n hx hb dX1_afterHeight_1 rfl (lv_at hl 0 rfl) ?_
  refine lv_iload_n hx hb dX1_afterHeight_2 rfl (lv_at hl 1 rfl) ?_
  refine lv_aload_n hx hb dX1_afterHeight_3 rfl (lv_at hl 0 rfl) ?_
  refine lv_iload_n hx hb dX1_afterHeight_4 rfl (lv_at hl 1 rfl) ?_
  refine lv_iload_n hx hb dX1_afterHeight_5 rfl (lv_at hl 3 rfl) ?_
  refine rc_Vi (k := 19) (As := [.int p1, .int p3]) (rest := [.int p1, .ref (E.2.1 19), .int p2]) S hW hS h (kX1_kindOf l E p1 p3 w) (cwV 2 hts gX1_afterHeight_X1_kindOf rfl rfl rfl hdX1_kindOf ⟨Nat.le_of_ble_eq_true rfl, Nat.le_of_ble_eq_true rfl⟩) (fl 19 rfl) rfl rfl rfl rfl hl.1 rfl (Nat.le_of_ble_eq_true rfl) ⟨Nat.zero_le _, Nat.zero_le _⟩ dX1_afterHeight_6 (fun x1 w2 H locs h hW hS => ?_)
  refine rc_Vi (k := 19) (As := [.int p1, .int x1]) (rest := [.int p2]) S hW hS h (kX1_linesMet l E p1 x1 w2) (cwV 2 hts gX1_afterHeight_X1_linesMet rfl rfl rfl hdX1_linesMet ⟨Nat.le_of_ble_eq_true rfl, Nat.le_of_ble_eq_true rfl⟩) (fl 19 rfl) rfl rfl rfl rfl hl.1 rfl (Nat.le_of_ble_eq_true rfl) ⟨Nat.zero_le _, Nat.zero_le _⟩ dX1_afterHeight_9 (fun x3 w4 H locs h hW hS => ?_)
  refine lv_ior hx hb dX1_afterHeight_12 ?_
  refine lv_aload_n hx hb dX1_afterHeight_13 rfl (lv_at hl 0 rfl) ?_
  refine lv_iload_n hx hb dX1_afterHeight_14 rfl (lv_at hl 1 rfl) ?_
  refine rc_Vi (k := 19) (As := [.int p1]) (rest := [.int (p2 ||| x3)]) S hW hS h (kX1_endsRow l E p1 w4) (cwV 1 hts gX1_afterHeight_X1_endsRow rfl rfl rfl hdX1_endsRow ⟨Nat.le_of_ble_eq_true rfl, Nat.le_of_ble_eq_true rfl⟩) (fl 19 rfl) rfl rfl rfl rfl hl.1 rfl (Nat.le_of_ble_eq_true rfl) ⟨Nat.zero_le _, Nat.zero_le _⟩ dX1_afterHeight_15 (fun x5 w6 H locs h hW hS => ?_)
  refine rc_Si (As := [.int (p2 ||| x3), .int x5]) (rest := []) S hW hS h (kX1_after l E (p2 ||| x3) x5 w6) (va_cwS 2 hts gX1_afterHeight_X1_after rfl rfl rfl hdX1_after ⟨Nat.le_of_ble_eq_true rfl, Nat.le_of_ble_eq_true rfl⟩) rfl hl.1 rfl (Nat.le_of_ble_eq_true rfl) ⟨Nat.zero_le _, Nat.zero_le _⟩ dX1_afterHeight_18 (fun x7 w8 H locs h hW hS => ?_)
  exact rrI hQ hW hS h dX1_afterHeight_21
noncomputable def fX1_waysFrom (p1 : Int32) (p2 : Int32) (p3 : Int32) (w : Wd) : Option (Int64 × Wd) :=
  (gI w 20 p1).bind fun x1 => bnd (fX1_has x1 p3 w) fun x2 w3 => if x2 = 0 then some ((0 : Int64), w3) else bnd (fX1_afterHeight p1 p2 p3 w3) fun x4 w5 => if x4 = (-1 : Int32) then some ((0 : Int64), w5) else (ixA 26 (p1 + (1 : Int32))).bind fun j6 => (gL w5 (51 + j6) x4).bind fun x7 => some (x7, w5)
abbrev rmX1_waysFrom : Room := { frames := 3, cells := 0, slots := 0, locals := 66 }
set_option maxHeartbeats 4000000 in
set_option maxRecDepth 100000 in
theorem kX1_waysFrom (l : Launch) (E : Ev) (p1 : Int32) (p2 : Int32) (p3 : Int32) (w : Wd) (q : Int64 × Wd) (h : fX1_waysFrom p1 p2 p3 w = some q) : CtL l yX1_waysFrom wsX1_waysFrom rmX1_waysFrom E full [.ref (E.2.1 19), .int p1, .int p2, .int p3] w q := by
  refine mkL (cc := cX1_waysFrom) (maxL := 5) (by decide) rfl (Nat.le_of_ble_eq_true rfl) ?_
  intro p e s m args below meth c Q S hW hQ ls hl
  obtain ⟨hx, hb, hml, hown, hts⟩ := id S
  have hW0 := hW
  have hS : va_S (wA E full) s.heap s.heap [] := va_S.rf
  have hl : lv_has ls 5 [(0, .ref (E.2.1 19)), (1, .int p1), (2, .int p2), (3, .int p3)] := hl
  have iX1 : ∀ w ∈ wsX10, w ∈ wsX1_waysFrom := by decide +kernel
  have e9 := hts (.fieldLink RX1 9 "CubeHeaps$Fitting" "allowed" "[I") (by decide +kernel)
  have e26 := hts (.fieldLink RX1 26 "CubeHeaps$Fitting" "behind" "[[J") (by decide +kernel)
  unfold fX1_waysFrom at h
  refine lv_aload_n hx hb dX1_waysFrom_0 rfl (lv_at hl 0 rfl) ?_
  refine rw_get hx hb hts iX1 hown hW (fl 19 rfl) rfl rfl 2 (by decide) e9 rfl (v := .ref (E.2.1 20)) rfl dX1_waysFrom_1 ?_
  refine lv_iload_n hx hb dX1_waysFrom_4 rfl (lv_at hl 1 rfl) ?_
  refine rw_iald hx hb hW (fun _ => (fl 20 rfl)) h dX1_waysFrom_5 (fun x1 h => ?_)
  refine lv_iload_n hx hb dX1_waysFrom_6 rfl (lv_at hl 3 rfl) ?_
  refine rc_Si (As := [.int x1, .int p3]) (rest := []) S hW hS h (kX1_has l E x1 p3 w) (va_cwS 2 hts gX1_waysFrom_X1_has rfl rfl rfl hdX1_has ⟨Nat.le_of_ble_eq_true rfl, Nat.le_of_ble_eq_true rfl⟩) rfl hl.1 rfl (Nat.le_of_ble_eq_true rfl) ⟨Nat.zero_le _, Nat.zero_le _⟩ dX1_waysFrom_7 (fun x2 w3 H locs h hW hS => ?_)
  refine rb_if_ne (tgt := 15) hx hb h dX1_waysFrom_10 (by decide) (fun h => ?_) (fun h => ?_)
  · refine lv_aload_n hx hb dX1_waysFrom_15 rfl (lv_at hl 0 rfl) ?_
    refine lv_iload_n hx hb dX1_waysFrom_16 rfl (lv_at hl 1 rfl) ?_
    refine lv_iload_n hx hb dX1_waysFrom_17 rfl (lv_at hl 2 rfl) ?_
    refine lv_iload_n hx hb dX1_waysFrom_18 rfl (lv_at hl 3 rfl) ?_
    refine rc_Vi (k := 19) (As := [.int p1, .int p2, .int p3]) (rest := []) S hW hS h (kX1_afterHeight l E p1 p2 p3 w3) (cwV 3 hts gX1_waysFrom_X1_afterHeight rfl rfl rfl hdX1_afterHeight ⟨Nat.le_of_ble_eq_true rfl, Nat.le_of_ble_eq_true rfl⟩) (fl 19 rfl) rfl rfl rfl rfl hl.1 rfl (Nat.le_of_ble_eq_true rfl) ⟨Nat.zero_le _, Nat.zero_le _⟩ dX1_waysFrom_19 (fun x4 w5 H locs h hW hS => ?_)
    refine lv_istore (lv' := [(4, .int x4), (0, .ref (E.2.1 19)), (1, .int p1), (2, .int p2), (3, .int p3)]) hx hb dX1_waysFrom_22 hl (by decide) rfl (fun ls hl => ?_)
    refine lv_iload hx hb dX1_waysFrom_24 (lv_at hl 0 rfl) ?_
    refine lv_iconst (v := (-1 : Int32)) hx hb dX1_waysFrom_26 (by decide) ?_
    refine rb_icmp_ne (tgt := 34) hx hb h dX1_waysFrom_27 (by decide) (fun h => ?_) (fun h => ?_)
    · refine lv_aload_n hx hb dX1_waysFrom_34 rfl (lv_at hl 1 rfl) ?_
      refine rw_get hx hb hts iX1 hown hW (fl 19 rfl) rfl rfl 6 (by decide) e26 rfl (v := .ref (E.2.1 50)) rfl dX1_waysFrom_35 ?_
      refine lv_iload_n hx hb dX1_waysFrom_38 rfl (lv_at hl 2 rfl) ?_
      refine lv_iconst (v := (1 : Int32)) hx hb dX1_waysFrom_39 (by decide) ?_
      refine lv_iadd hx hb dX1_waysFrom_40 ?_
      refine rw_aaldL hx hb hW (fl 50 rfl) rfl h dX1_waysFrom_41 (fun j6 h => ?_)
      refine lv_iload hx hb dX1_waysFrom_42 (lv_at hl 0 rfl) ?_
      refine rw_lald hx hb hW LL_full h dX1_waysFrom_44 (fun x7 h => ?_)
      exact rrL hQ hW hS h dX1_waysFrom_45
    · refine lv_lconst (v := (0 : Int64)) hx hb dX1_waysFrom_30 (by decide) ?_
      refine lv_goto (tgt := 45) hx hb dX1_waysFrom_31 (by decide) ?_
      exact rrL hQ hW hS h dX1_waysFrom_45
  · refine lv_lconst (v := (0 : Int64)) hx hb dX1_waysFrom_13 (by decide) ?_
    exact rrL hQ hW hS h dX1_waysFrom_14
noncomputable def jX1_fill_75 (p1 : Nat) (p2 : Int64) (k9 : Int32 → Int64 → Int32 → Wd → Option (Unit × Wd)) (v4 : Int32) (v5 : Int64) (v7 : Int32) (v8 : Int32)  (w : Wd) : Option (Unit × Wd) :=
  (sI w p1 v7 v8).bind fun w7 => bnd (fX1_afterHeight v7 v4 v8 w7) fun x8 w9 => k9 (if (0 : Int32) < x8 then x8 else (0 : Int32)) v5 (v7 + (1 : Int32)) w9
noncomputable def bX1_fill_36 (p1 : Nat) (p2 : Int64) (k9 : Int32 → Int64 → Int32 → Wd → Option (Unit × Wd)) (k36 : Int32 → Int64 → Int32 → Int32 → Int64 → Wd → Option (Unit × Wd)) (v4 : Int32) (v5 : Int64) (v7 : Int32) (v8 : Int32) (v9 : Int64)  (w : Wd) : Option (Unit × Wd) :=
  if v5 < v9 then jX1_fill_75 p1 p2 k9 v4 v5 v7 v8 w else if (4 : Int32) ≤ v8 then jX1_fill_75 p1 p2 k9 v4 v5 v7 v8 w else bnd (fX1_waysFrom v7 v4 (v8 + (1 : Int32)) w) fun x5 w6 => k36 v4 (v5 - v9) v7 (v8 + (1 : Int32)) x5 w6
noncomputable def bX1_fill_9 (p1 : Nat) (p2 : Int64) (k9 : Int32 → Int64 → Int32 → Wd → Option (Unit × Wd)) (v4 : Int32) (v5 : Int64) (v7 : Int32)  (w : Wd) : Option (Unit × Wd) :=
  bnd (fX2_cells w) fun x1 w2 => if x1 ≤ v7 then some ((), w2) else bnd (fX1_waysFrom v7 v4 (0 : Int32) w2) fun x3 w4 => lp (fun _ _ _ _ _ _ => none) (bX1_fill_36 p1 p2 k9) G v4 v5 v7 (0 : Int32) x3 w4
noncomputable def fX1_fill (p1 : Nat) (p2 : Int64) (w : Wd) : Option (Unit × Wd) :=
  lp (fun _ _ _ _ => none) (bX1_fill_9 p1 p2) G (0 : Int32) p2 (0 : Int32) w
abbrev rmX1_fill : Room := { frames := 4, cells := 0, slots := 0, locals := 90 }
set_option maxHeartbeats 4000000 in
set_option maxRecDepth 100000 in
theorem kX1_fill (l : Launch) (E : Ev) (p1 : Nat) (p2 : Int64) (w : Wd) (q : Unit × Wd) (h : fX1_fill p1 p2 w = some q) : CtV l yX1_fill wsX1_fill rmX1_fill E full [.ref (E.2.1 19), .ref (E.2.1 p1), .long p2] w q := by
  refine mkV (cc := cX1_fill) (maxL := 11) (by decide) rfl (Nat.le_of_ble_eq_true rfl) ?_
  intro p e s m args below meth c Q S hW hQ ls hl
  obtain ⟨hx, hb, hml, hown, hts⟩ := id S
  have hW0 := hW
  have hS : va_S (wA E full) s.heap s.heap [] := va_S.rf
  have hl : lv_has ls 11 [(0, .ref (E.2.1 19)), (1, .ref (E.2.1 p1)), (2, .long p2)] := hl
  have iX1 : ∀ w ∈ wsX10, w ∈ wsX1_fill := by decide +kernel
  have e39 := hts (.fieldLink RX1 39 "CubeHeaps$Fitting" "ground" "LCubeHeaps$Ground;") (by decide +kernel)
  have J9 : ∀ (n : Nat) (v4 : Int32) (v5 : Int64) (v7 : Int32) (w : Wd) (H : Heap) (locs : List Loc) (ls : Array Slot), lp (fun _ _ _ _ => none) (bX1_fill_9 p1 p2) n v4 v5 v7 w = some q → World E full w s H → va_S (wA E full) s.heap H locs → lv_has ls 11 [(0, .ref (E.2.1 19)), (1, .ref (E.2.1 p1)), (4, .int v4), (5, .long v5), (7, .int v7)] → W p l e rmX1_fill s m args below meth c H locs 0 0 Q (F0 m 9 ls []) := by
    intro n
    induction n with
    | zero =>
      intro v4 v5 v7 w H locs ls h hW hS hl
      exact absurd (show (none : Option (Unit × Wd)) = some q from h) (fun z => by cases z)
    | succ n ih9 =>
      intro v4 v5 v7 w H locs ls h hW hS hl
      have h : bX1_fill_9 p1 p2 (lp (fun _ _ _ _ => none) (bX1_fill_9 p1 p2) n) v4 v5 v7 w = some q := h
      generalize lp (fun _ _ _ _ => none) (bX1_fill_9 p1 p2) n = k9 at h ih9
      have J75 : ∀ (v4 : Int32) (v5 : Int64) (v7 : Int32) (v8 : Int32) (w : Wd) (H : Heap) (locs : List Loc) (ls : Array Slot), jX1_fill_75 p1 p2 k9 v4 v5 v7 v8 w = some q → World E full w s H → va_S (wA E full) s.heap H locs → lv_has ls 11 [(0, .ref (E.2.1 19)), (1, .ref (E.2.1 p1)), (4, .int v4), (5, .long v5), (7, .int v7), (8, .int v8)] → W p l e rmX1_fill s m args below meth c H locs 0 0 Q (F0 m 75 ls []) := by
        intro v4 v5 v7 v8 w H locs ls h hW hS hl
        unfold jX1_fill_75 at h
        refine lv_aload_n hx hb dX1_fill_75 rfl (lv_at hl 1 rfl) ?_
        refine lv_iload hx hb dX1_fill_76 (lv_at hl 4 rfl) ?_
        refine lv_iload hx hb dX1_fill_78 (lv_at hl 5 rfl) ?_
        refine rw_iast hx hb hW hS LI_full h dX1_fill_80 (fun w7 H locs h hW hS => ?_)
        refine lv_iconst (v := (0 : Int32)) hx hb dX1_fill_81 (by decide) ?_
        refine lv_aload_n hx hb dX1_fill_82 rfl (lv_at hl 0 rfl) ?_
        refine lv_iload hx hb dX1_fill_83 (lv_at hl 4 rfl) ?_
        refine lv_iload hx hb dX1_fill_85 (lv_at hl 2 rfl) ?_
        refine lv_iload hx hb dX1_fill_87 (lv_at hl 5 rfl) ?_
        refine rc_Vi (k := 19) (As := [.int v7, .int v4, .int v8]) (rest := [.int (0 : Int32)]) S hW hS h (kX1_afterHeight l E v7 v4 v8 w7) (cwV 3 hts gX1_fill_X1_afterHeight rfl rfl rfl hdX1_afterHeight ⟨Nat.le_of_ble_eq_true rfl, Nat.le_of_ble_eq_true rfl⟩) (fl 19 rfl) rfl rfl rfl rfl hl.1 rfl (Nat.le_of_ble_eq_true rfl) ⟨Nat.zero_le _, Nat.zero_le _⟩ dX1_fill_89 (fun x8 w9 H locs h hW hS => ?_)
        refine va_mmax hx hb (hml.trans hl.1.symm) (own := RX1) hown (hts (.methodLink RX1 130 Lib.Math.max.name) (by decide +kernel)) (hts (.static Lib.Math.max.name) (by decide +kernel)) (hts (.initialized "java/lang/Math") (by decide +kernel)) (hts (.code Lib.Math.max.name Lib.Math.max.code 2 (some .int)) (by decide +kernel)) (Nat.le_of_ble_eq_true rfl) (Nat.le_of_ble_eq_true rfl) (Nat.zero_le _) (Nat.zero_le _) dX1_fill_92 ?_
        refine lv_istore (lv' := [(4, .int (if (0 : Int32) < x8 then x8 else (0 : Int32))), (0, .ref (E.2.1 19)), (1, .ref (E.2.1 p1)), (5, .long v5), (7, .int v7), (8, .int v8)]) hx hb dX1_fill_95 hl (by decide) rfl (fun ls hl => ?_)
        refine lv_iinc (v := (v7 + (1 : Int32))) (lv' := [(7, .int (v7 + (1 : Int32))), (4, .int (if (0 : Int32) < x8 then x8 else (0 : Int32))), (0, .ref (E.2.1 19)), (1, .ref (E.2.1 p1)), (5, .long v5), (8, .int v8)]) hx hb dX1_fill_97 hl (k := 4) rfl rfl (by decide) rfl (fun ls hl => ?_)
        refine lv_goto (tgt := 9) hx hb dX1_fill_100 (by decide) ?_
        exact ih9 _ _ _ _ _ _ _ h hW hS (lv_sub hl [2, 3, 1, 4, 0] rfl)
      have J36 : ∀ (n : Nat) (v4 : Int32) (v5 : Int64) (v7 : Int32) (v8 : Int32) (v9 : Int64) (w : Wd) (H : Heap) (locs : List Loc) (ls : Array Slot), lp (fun _ _ _ _ _ _ => none) (bX1_fill_36 p1 p2 k9) n v4 v5 v7 v8 v9 w = some q → World E full w s H → va_S (wA E full) s.heap H locs → lv_has ls 11 [(0, .ref (E.2.1 19)), (1, .ref (E.2.1 p1)), (4, .int v4), (5, .long v5), (7, .int v7), (8, .int v8), (9, .long v9)] → W p l e rmX1_fill s m args below meth c H locs 0 0 Q (F0 m 36 ls []) := by
        intro n
        induction n with
        | zero =>
          intro v4 v5 v7 v8 v9 w H locs ls h hW hS hl
          exact absurd (show (none : Option (Unit × Wd)) = some q from h) (fun z => by cases z)
        | succ n ih36 =>
          intro v4 v5 v7 v8 v9 w H locs ls h hW hS hl
          have h : bX1_fill_36 p1 p2 k9 (lp (fun _ _ _ _ _ _ => none) (bX1_fill_36 p1 p2 k9) n) v4 v5 v7 v8 v9 w = some q := h
          generalize lp (fun _ _ _ _ _ _ => none) (bX1_fill_36 p1 p2 k9) n = k36 at h ih36
          unfold bX1_fill_36 at h
          refine lv_lload hx hb dX1_fill_36 (lv_at hl 3 rfl) ?_
          refine lv_lload hx hb dX1_fill_38 (lv_at hl 6 rfl) ?_
          refine rb_lcmp_lt (tgt := 75) hx hb h dX1_fill_40 dX1_fill_41 (by decide) (fun h => ?_) (fun h => ?_)
          · exact J75 _ _ _ _ _ _ _ _ h hW hS (lv_sub hl [0, 1, 2, 3, 4, 5] rfl)
          · refine lv_iload hx hb dX1_fill_44 (lv_at hl 5 rfl) ?_
            refine lv_iconst (v := (4 : Int32)) hx hb dX1_fill_46 (by decide) ?_
            refine rb_icmp_ge (tgt := 75) hx hb h dX1_fill_47 (by decide) (fun h => ?_) (fun h => ?_)
            · exact J75 _ _ _ _ _ _ _ _ h hW hS (lv_sub hl [0, 1, 2, 3, 4, 5] rfl)
            · refine lv_lload hx hb dX1_fill_50 (lv_at hl 3 rfl) ?_
              refine lv_lload hx hb dX1_fill_52 (lv_at hl 6 rfl) ?_
              refine lv_lsub hx hb dX1_fill_54 ?_
              refine lv_lstore (lv' := [(5, .long (v5 - v9)), (0, .ref (E.2.1 19)), (1, .ref (E.2.1 p1)), (4, .int v4), (7, .int v7), (8, .int v8), (9, .long v9)]) hx hb dX1_fill_55 hl (by decide) rfl (fun ls hl => ?_)
              refine lv_iinc (v := (v8 + (1 : Int32))) (lv' := [(8, .int (v8 + (1 : Int32))), (5, .long (v5 - v9)), (0, .ref (E.2.1 19)), (1, .ref (E.2.1 p1)), (4, .int v4), (7, .int v7), (9, .long v9)]) hx hb dX1_fill_57 hl (k := 5) rfl rfl (by decide) rfl (fun ls hl => ?_)
              refine lv_aload_n hx hb dX1_fill_60 rfl (lv_at hl 2 rfl) ?_
              refine lv_iload hx hb dX1_fill_61 (lv_at hl 5 rfl) ?_
              refine lv_iload hx hb dX1_fill_63 (lv_at hl 4 rfl) ?_
              refine lv_iload hx hb dX1_fill_65 (lv_at hl 0 rfl) ?_
              refine rc_Vl (k := 19) (As := [.int v7, .int v4, .int (v8 + (1 : Int32))]) (rest := []) S hW hS h (kX1_waysFrom l E v7 v4 (v8 + (1 : Int32)) w) (cwV 3 hts gX1_fill_X1_waysFrom rfl rfl rfl hdX1_waysFrom ⟨Nat.le_of_ble_eq_true rfl, Nat.le_of_ble_eq_true rfl⟩) (fl 19 rfl) rfl rfl rfl rfl hl.1 rfl (Nat.le_of_ble_eq_true rfl) ⟨Nat.zero_le _, Nat.zero_le _⟩ dX1_fill_67 (fun x5 w6 H locs h hW hS => ?_)
              refine lv_lstore (lv' := [(9, .long x5), (8, .int (v8 + (1 : Int32))), (5, .long (v5 - v9)), (0, .ref (E.2.1 19)), (1, .ref (E.2.1 p1)), (4, .int v4), (7, .int v7)]) hx hb dX1_fill_70 hl (by decide) rfl (fun ls hl => ?_)
              refine lv_goto (tgt := 36) hx hb dX1_fill_72 (by decide) ?_
              exact ih36 _ _ _ _ _ _ _ _ _ h hW hS (lv_sub hl [3, 4, 5, 2, 6, 1, 0] rfl)
      unfold bX1_fill_9 at h
      refine lv_iload hx hb dX1_fill_9 (lv_at hl 4 rfl) ?_
      refine lv_aload_n hx hb dX1_fill_11 rfl (lv_at hl 0 rfl) ?_
      refine rw_get hx hb hts iX1 hown hW (fl 19 rfl) rfl rfl 0 (by decide) e39 rfl (v := .ref (E.2.1 1)) rfl dX1_fill_12 ?_
      refine rc_Vi (k := 1) (As := []) (rest := [.int v7]) S hW hS h (kX2_cells l E  w) (cwV 0 hts gX1_fill_X2_cells rfl rfl rfl hdX2_cells ⟨Nat.le_of_ble_eq_true rfl, Nat.le_of_ble_eq_true rfl⟩) (fl 1 rfl) rfl rfl rfl rfl hl.1 rfl (Nat.le_of_ble_eq_true rfl) ⟨Nat.zero_le _, Nat.zero_le _⟩ dX1_fill_15 (fun x1 w2 H locs h hW hS => ?_)
      refine rb_icmp_ge (tgt := 103) hx hb h dX1_fill_18 (by decide) (fun h => ?_) (fun h => ?_)
      · exact rrV hQ hW hS h dX1_fill_103
      · refine lv_iconst (v := (0 : Int32)) hx hb dX1_fill_21 (by decide) ?_
        refine lv_istore (lv' := [(8, .int (0 : Int32)), (0, .ref (E.2.1 19)), (1, .ref (E.2.1 p1)), (4, .int v4), (5, .long v5), (7, .int v7)]) hx hb dX1_fill_22 hl (by decide) rfl (fun ls hl => ?_)
        refine lv_aload_n hx hb dX1_fill_24 rfl (lv_at hl 1 rfl) ?_
        refine lv_iload hx hb dX1_fill_25 (lv_at hl 5 rfl) ?_
        refine lv_iload hx hb dX1_fill_27 (lv_at hl 3 rfl) ?_
        refine lv_iload hx hb dX1_fill_29 (lv_at hl 0 rfl) ?_
        refine rc_Vl (k := 19) (As := [.int v7, .int v4, .int (0 : Int32)]) (rest := []) S hW hS h (kX1_waysFrom l E v7 v4 (0 : Int32) w2) (cwV 3 hts gX1_fill_X1_waysFrom rfl rfl rfl hdX1_waysFrom ⟨Nat.le_of_ble_eq_true rfl, Nat.le_of_ble_eq_true rfl⟩) (fl 19 rfl) rfl rfl rfl rfl hl.1 rfl (Nat.le_of_ble_eq_true rfl) ⟨Nat.zero_le _, Nat.zero_le _⟩ dX1_fill_31 (fun x3 w4 H locs h hW hS => ?_)
        refine lv_lstore (lv' := [(9, .long x3), (8, .int (0 : Int32)), (0, .ref (E.2.1 19)), (1, .ref (E.2.1 p1)), (4, .int v4), (5, .long v5), (7, .int v7)]) hx hb dX1_fill_34 hl (by decide) rfl (fun ls hl => ?_)
        exact J36 _ _ _ _ _ _ _ _ _ _ h hW hS (lv_sub hl [2, 3, 4, 5, 6, 1, 0] rfl)
  unfold fX1_fill at h
  refine lv_iconst (v := (0 : Int32)) hx hb dX1_fill_0 (by decide) ?_
  refine lv_istore (lv' := [(4, .int (0 : Int32)), (0, .ref (E.2.1 19)), (1, .ref (E.2.1 p1)), (2, .long p2)]) hx hb dX1_fill_1 hl (by decide) rfl (fun ls hl => ?_)
  refine lv_lload_n hx hb dX1_fill_3 rfl (lv_at hl 3 rfl) ?_
  refine lv_lstore (lv' := [(5, .long p2), (4, .int (0 : Int32)), (0, .ref (E.2.1 19)), (1, .ref (E.2.1 p1)), (2, .long p2)]) hx hb dX1_fill_4 hl (by decide) rfl (fun ls hl => ?_)
  refine lv_iconst (v := (0 : Int32)) hx hb dX1_fill_6 (by decide) ?_
  refine lv_istore (lv' := [(7, .int (0 : Int32)), (5, .long p2), (4, .int (0 : Int32)), (0, .ref (E.2.1 19)), (1, .ref (E.2.1 p1)), (2, .long p2)]) hx hb dX1_fill_7 hl (by decide) rfl (fun ls hl => ?_)
  exact J9 _ _ _ _ _ _ _ _ h hW hS (lv_sub hl [3, 4, 2, 1, 0] rfl)
noncomputable def bX1_smaller_22 (p1 : Nat) (k7 : Int32 → Int64 → Int32 → Wd → Option (Int64 × Wd)) (k22 : Int32 → Int64 → Int32 → Int32 → Wd → Option (Int64 × Wd)) (v2 : Int32) (v3 : Int64) (v5 : Int32) (v6 : Int32)  (w : Wd) : Option (Int64 × Wd) :=
  (gI w p1 v5).bind fun x3 => if x3 ≤ v6 then (gI w p1 v5).bind fun x4 => bnd (fX1_afterHeight v5 v2 x4 w) fun x5 w6 => k7 (if (0 : Int32) < x5 then x5 else (0 : Int32)) v3 (v5 + (1 : Int32)) w6 else bnd (fX1_waysFrom v5 v2 v6 w) fun x7 w8 => k22 v2 (v3 + x7) v5 (v6 + (1 : Int32)) w8
noncomputable def bX1_smaller_7 (p1 : Nat) (k7 : Int32 → Int64 → Int32 → Wd → Option (Int64 × Wd)) (v2 : Int32) (v3 : Int64) (v5 : Int32)  (w : Wd) : Option (Int64 × Wd) :=
  bnd (fX2_cells w) fun x1 w2 => if x1 ≤ v5 then some (v3, w2) else lp (fun _ _ _ _ _ => none) (bX1_smaller_22 p1 k7) G v2 v3 v5 (0 : Int32) w2
noncomputable def fX1_smaller (p1 : Nat) (w : Wd) : Option (Int64 × Wd) :=
  lp (fun _ _ _ _ => none) (bX1_smaller_7 p1) G (0 : Int32) (0 : Int64) (0 : Int32) w
abbrev rmX1_smaller : Room := { frames := 4, cells := 0, slots := 0, locals := 90 }
set_option maxHeartbeats 4000000 in
set_option maxRecDepth 100000 in
theorem kX1_smaller (l : Launch) (E : Ev) (p1 : Nat) (w : Wd) (q : Int64 × Wd) (h : fX1_smaller p1 w = some q) : CtL l yX1_smaller wsX1_smaller rmX1_smaller E full [.ref (E.2.1 19), .ref (E.2.1 p1)] w q := by
  refine mkL (cc := cX1_smaller) (maxL := 7) (by decide) rfl (Nat.le_of_ble_eq_true rfl) ?_
  intro p e s m args below meth c Q S hW hQ ls hl
  obtain ⟨hx, hb, hml, hown, hts⟩ := id S
  have hW0 := hW
  have hS : va_S (wA E full) s.heap s.heap [] := va_S.rf
  have hl : lv_has ls 7 [(0, .ref (E.2.1 19)), (1, .ref (E.2.1 p1))] := hl
  have iX1 : ∀ w ∈ wsX10, w ∈ wsX1_smaller := by decide +kernel
  have e39 := hts (.fieldLink RX1 39 "CubeHeaps$Fitting" "ground" "LCubeHeaps$Ground;") (by decide +kernel)
  have J7 : ∀ (n : Nat) (v2 : Int32) (v3 : Int64) (v5 : Int32) (w : Wd) (H : Heap) (locs : List Loc) (ls : Array Slot), lp (fun _ _ _ _ => none) (bX1_smaller_7 p1) n v2 v3 v5 w = some q → World E full w s H → va_S (wA E full) s.heap H locs → lv_has ls 7 [(0, .ref (E.2.1 19)), (1, .ref (E.2.1 p1)), (2, .int v2), (3, .long v3), (5, .int v5)] → W p l e rmX1_smaller s m args below meth c H locs 0 0 Q (F0 m 7 ls []) := by
    intro n
    induction n with
    | zero =>
      intro v2 v3 v5 w H locs ls h hW hS hl
      exact absurd (show (none : Option (Int64 × Wd)) = some q from h) (fun z => by cases z)
    | succ n ih7 =>
      intro v2 v3 v5 w H locs ls h hW hS hl
      have h : bX1_smaller_7 p1 (lp (fun _ _ _ _ => none) (bX1_smaller_7 p1) n) v2 v3 v5 w = some q := h
      generalize lp (fun _ _ _ _ => none) (bX1_smaller_7 p1) n = k7 at h ih7
      have J22 : ∀ (n : Nat) (v2 : Int32) (v3 : Int64) (v5 : Int32) (v6 : Int32) (w : Wd) (H : Heap) (locs : List Loc) (ls : Array Slot), lp (fun _ _ _ _ _ => none) (bX1_smaller_22 p1 k7) n v2 v3 v5 v6 w = some q → World E full w s H → va_S (wA E full) s.heap H locs → lv_has ls 7 [(0, .ref (E.2.1 19)), (1, .ref (E.2.1 p1)), (2, .int v2), (3, .long v3), (5, .int v5), (6, .int v6)] → W p l e rmX1_smaller s m args below meth c H locs 0 0 Q (F0 m 22 ls []) := by
        intro n
        induction n with
        | zero =>
          intro v2 v3 v5 v6 w H locs ls h hW hS hl
          exact absurd (show (none : Option (Int64 × Wd)) = some q from h) (fun z => by cases z)
        | succ n ih22 =>
          intro v2 v3 v5 v6 w H locs ls h hW hS hl
          have h : bX1_smaller_22 p1 k7 (lp (fun _ _ _ _ _ => none) (bX1_smaller_22 p1 k7) n) v2 v3 v5 v6 w = some q := h
          generalize lp (fun _ _ _ _ _ => none) (bX1_smaller_22 p1 k7) n = k22 at h ih22
          unfold bX1_smaller_22 at h
          refine lv_iload hx hb dX1_smaller_22 (lv_at hl 5 rfl) ?_
          refine lv_aload_n hx hb dX1_smaller_24 rfl (lv_at hl 1 rfl) ?_
          refine lv_iload hx hb dX1_smaller_25 (lv_at hl 4 rfl) ?_
          refine rw_iald hx hb hW LI_full h dX1_smaller_27 (fun x3 h => ?_)
          refine rb_icmp_ge (tgt := 49) hx hb h dX1_smaller_28 (by decide) (fun h => ?_) (fun h => ?_)
          · refine lv_iconst (v := (0 : Int32)) hx hb dX1_smaller_49 (by decide) ?_
            refine lv_aload_n hx hb dX1_smaller_50 rfl (lv_at hl 0 rfl) ?_
            refine lv_iload hx hb dX1_smaller_51 (lv_at hl 4 rfl) ?_
            refine lv_iload_n hx hb dX1_smaller_53 rfl (lv_at hl 2 rfl) ?_
            refine lv_aload_n hx hb dX1_smaller_54 rfl (lv_at hl 1 rfl) ?_
            refine lv_iload hx hb dX1_smaller_55 (lv_at hl 4 rfl) ?_
            refine rw_iald hx hb hW LI_full h dX1_smaller_57 (fun x4 h => ?_)
            refine rc_Vi (k := 19) (As := [.int v5, .int v2, .int x4]) (rest := [.int (0 : Int32)]) S hW hS h (kX1_afterHeight l E v5 v2 x4 w) (cwV 3 hts gX1_smaller_X1_afterHeight rfl rfl rfl hdX1_afterHeight ⟨Nat.le_of_ble_eq_true rfl, Nat.le_of_ble_eq_true rfl⟩) (fl 19 rfl) rfl rfl rfl rfl hl.1 rfl (Nat.le_of_ble_eq_true rfl) ⟨Nat.zero_le _, Nat.zero_le _⟩ dX1_smaller_58 (fun x5 w6 H locs h hW hS => ?_)
            refine va_mmax hx hb (hml.trans hl.1.symm) (own := RX1) hown (hts (.methodLink RX1 130 Lib.Math.max.name) (by decide +kernel)) (hts (.static Lib.Math.max.name) (by decide +kernel)) (hts (.initialized "java/lang/Math") (by decide +kernel)) (hts (.code Lib.Math.max.name Lib.Math.max.code 2 (some .int)) (by decide +kernel)) (Nat.le_of_ble_eq_true rfl) (Nat.le_of_ble_eq_true rfl) (Nat.zero_le _) (Nat.zero_le _) dX1_smaller_61 ?_
            refine lv_istore_n (lv' := [(2, .int (if (0 : Int32) < x5 then x5 else (0 : Int32))), (0, .ref (E.2.1 19)), (1, .ref (E.2.1 p1)), (3, .long v3), (5, .int v5), (6, .int v6)]) hx hb dX1_smaller_64 rfl hl (by decide) rfl (fun ls hl => ?_)
            refine lv_iinc (v := (v5 + (1 : Int32))) (lv' := [(5, .int (v5 + (1 : Int32))), (2, .int (if (0 : Int32) < x5 then x5 else (0 : Int32))), (0, .ref (E.2.1 19)), (1, .ref (E.2.1 p1)), (3, .long v3), (6, .int v6)]) hx hb dX1_smaller_65 hl (k := 4) rfl rfl (by decide) rfl (fun ls hl => ?_)
            refine lv_goto (tgt := 7) hx hb dX1_smaller_68 (by decide) ?_
            exact ih7 _ _ _ _ _ _ _ h hW hS (lv_sub hl [2, 3, 1, 4, 0] rfl)
          · refine lv_lload_n hx hb dX1_smaller_31 rfl (lv_at hl 3 rfl) ?_
            refine lv_aload_n hx hb dX1_smaller_32 rfl (lv_at hl 0 rfl) ?_
            refine lv_iload hx hb dX1_smaller_33 (lv_at hl 4 rfl) ?_
            refine lv_iload_n hx hb dX1_smaller_35 rfl (lv_at hl 2 rfl) ?_
            refine lv_iload hx hb dX1_smaller_36 (lv_at hl 5 rfl) ?_
            refine rc_Vl (k := 19) (As := [.int v5, .int v2, .int v6]) (rest := [.long v3]) S hW hS h (kX1_waysFrom l E v5 v2 v6 w) (cwV 3 hts gX1_smaller_X1_waysFrom rfl rfl rfl hdX1_waysFrom ⟨Nat.le_of_ble_eq_true rfl, Nat.le_of_ble_eq_true rfl⟩) (fl 19 rfl) rfl rfl rfl rfl hl.1 rfl (Nat.le_of_ble_eq_true rfl) ⟨Nat.zero_le _, Nat.zero_le _⟩ dX1_smaller_38 (fun x7 w8 H locs h hW hS => ?_)
            refine lv_ladd hx hb dX1_smaller_41 ?_
            refine lv_lstore_n (lv' := [(3, .long (v3 + x7)), (0, .ref (E.2.1 19)), (1, .ref (E.2.1 p1)), (2, .int v2), (5, .int v5), (6, .int v6)]) hx hb dX1_smaller_42 rfl hl (by decide) rfl (fun ls hl => ?_)
            refine lv_iinc (v := (v6 + (1 : Int32))) (lv' := [(6, .int (v6 + (1 : Int32))), (3, .long (v3 + x7)), (0, .ref (E.2.1 19)), (1, .ref (E.2.1 p1)), (2, .int v2), (5, .int v5)]) hx hb dX1_smaller_43 hl (k := 5) rfl rfl (by decide) rfl (fun ls hl => ?_)
            refine lv_goto (tgt := 22) hx hb dX1_smaller_46 (by decide) ?_
            exact ih22 _ _ _ _ _ _ _ _ h hW hS (lv_sub hl [2, 3, 4, 1, 5, 0] rfl)
      unfold bX1_smaller_7 at h
      refine lv_iload hx hb dX1_smaller_7 (lv_at hl 4 rfl) ?_
      refine lv_aload_n hx hb dX1_smaller_9 rfl (lv_at hl 0 rfl) ?_
      refine rw_get hx hb hts iX1 hown hW (fl 19 rfl) rfl rfl 0 (by decide) e39 rfl (v := .ref (E.2.1 1)) rfl dX1_smaller_10 ?_
      refine rc_Vi (k := 1) (As := []) (rest := [.int v5]) S hW hS h (kX2_cells l E  w) (cwV 0 hts gX1_smaller_X2_cells rfl rfl rfl hdX2_cells ⟨Nat.le_of_ble_eq_true rfl, Nat.le_of_ble_eq_true rfl⟩) (fl 1 rfl) rfl rfl rfl rfl hl.1 rfl (Nat.le_of_ble_eq_true rfl) ⟨Nat.zero_le _, Nat.zero_le _⟩ dX1_smaller_13 (fun x1 w2 H locs h hW hS => ?_)
      refine rb_icmp_ge (tgt := 71) hx hb h dX1_smaller_16 (by decide) (fun h => ?_) (fun h => ?_)
      · refine lv_lload_n hx hb dX1_smaller_71 rfl (lv_at hl 3 rfl) ?_
        exact rrL hQ hW hS h dX1_smaller_72
      · refine lv_iconst (v := (0 : Int32)) hx hb dX1_smaller_19 (by decide) ?_
        refine lv_istore (lv' := [(6, .int (0 : Int32)), (0, .ref (E.2.1 19)), (1, .ref (E.2.1 p1)), (2, .int v2), (3, .long v3), (5, .int v5)]) hx hb dX1_smaller_20 hl (by decide) rfl (fun ls hl => ?_)
        exact J22 _ _ _ _ _ _ _ _ _ h hW hS (lv_sub hl [1, 2, 3, 4, 5, 0] rfl)
  unfold fX1_smaller at h
  refine lv_iconst (v := (0 : Int32)) hx hb dX1_smaller_0 (by decide) ?_
  refine lv_istore_n (lv' := [(2, .int (0 : Int32)), (0, .ref (E.2.1 19)), (1, .ref (E.2.1 p1))]) hx hb dX1_smaller_1 rfl hl (by decide) rfl (fun ls hl => ?_)
  refine lv_lconst (v := (0 : Int64)) hx hb dX1_smaller_2 (by decide) ?_
  refine lv_lstore_n (lv' := [(3, .long (0 : Int64)), (2, .int (0 : Int32)), (0, .ref (E.2.1 19)), (1, .ref (E.2.1 p1))]) hx hb dX1_smaller_3 rfl hl (by decide) rfl (fun ls hl => ?_)
  refine lv_iconst (v := (0 : Int32)) hx hb dX1_smaller_4 (by decide) ?_
  refine lv_istore (lv' := [(5, .int (0 : Int32)), (3, .long (0 : Int64)), (2, .int (0 : Int32)), (0, .ref (E.2.1 19)), (1, .ref (E.2.1 p1))]) hx hb dX1_smaller_5 hl (by decide) rfl (fun ls hl => ?_)
  exact J7 _ _ _ _ _ _ _ _ h hW hS (lv_sub hl [3, 4, 2, 1, 0] rfl)
noncomputable def fX2_at (p1 : Int32) (p2 : Int32) (w : Wd) : Option (Int32 × Wd) :=
  some (((p2 * (w.1 1 3)) + p1), w)
abbrev rmX2_at : Room := { frames := 0, cells := 0, slots := 0, locals := 0 }
set_option maxHeartbeats 4000000 in
set_option maxRecDepth 100000 in
theorem kX2_at (l : Launch) (E : Ev) (rs : Nat → Prop) (hrs : ∀ k ∈ ([1] : List Nat), rs k) (p1 : Int32) (p2 : Int32) (w : Wd) (q : Int32 × Wd) (h : fX2_at p1 p2 w = some q) : CtI l yX2_at wsX2_at rmX2_at E rs [.ref (E.2.1 1), .int p1, .int p2] w q := by
  refine mkI (cc := cX2_at) (maxL := 3) (by decide) rfl (Nat.le_of_ble_eq_true rfl) ?_
  intro p e s m args below meth c Q S hW hQ ls hl
  obtain ⟨hx, hb, hml, hown, hts⟩ := id S
  have hW0 := hW
  have hS : va_S (wA E rs) s.heap s.heap [] := va_S.rf
  have hl : lv_has ls 3 [(0, .ref (E.2.1 1)), (1, .int p1), (2, .int p2)] := hl
  have iX2 : ∀ w ∈ wsX20, w ∈ wsX2_at := by decide +kernel
  have e25 := hts (.fieldLink RX2 25 "CubeHeaps$Ground" "wide" "I") (by decide +kernel)
  unfold fX2_at at h
  refine lv_iload_n hx hb dX2_at_0 rfl (lv_at hl 2 rfl) ?_
  refine lv_aload_n hx hb dX2_at_1 rfl (lv_at hl 0 rfl) ?_
  refine rw_get hx hb hts iX2 hown hW (hrs 1 (by decide)) rfl rfl 3 (by decide) e25 rfl (v := .int (w.1 1 3)) rfl dX2_at_2 ?_
  refine lv_imul hx hb dX2_at_5 ?_
  refine lv_iload_n hx hb dX2_at_6 rfl (lv_at hl 1 rfl) ?_
  refine lv_iadd hx hb dX2_at_7 ?_
  exact rrI hQ hW hS h dX2_at_8
noncomputable def jX2_atOrBeyond_24 (p1 : Int32) (p2 : Int32)  (w : Wd) : Option (Int32 × Wd) :=
  some ((-1 : Int32), w)
noncomputable def fX2_atOrBeyond (p1 : Int32) (p2 : Int32) (w : Wd) : Option (Int32 × Wd) :=
  if p1 < 0 then jX2_atOrBeyond_24 p1 p2 w else if (w.1 1 3) ≤ p1 then jX2_atOrBeyond_24 p1 p2 w else if p2 < 0 then jX2_atOrBeyond_24 p1 p2 w else if p2 < (w.1 1 4) then bnd (fX2_at p1 p2 w) fun x1 w2 => some (x1, w2) else jX2_atOrBeyond_24 p1 p2 w
abbrev rmX2_atOrBeyond : Room := { frames := 1, cells := 0, slots := 0, locals := 22 }
set_option maxHeartbeats 4000000 in
set_option maxRecDepth 100000 in
theorem kX2_atOrBeyond (l : Launch) (E : Ev) (rs : Nat → Prop) (hrs : ∀ k ∈ ([1] : List Nat), rs k) (p1 : Int32) (p2 : Int32) (w : Wd) (q : Int32 × Wd) (h : fX2_atOrBeyond p1 p2 w = some q) : CtI l yX2_atOrBeyond wsX2_atOrBeyond rmX2_atOrBeyond E rs [.ref (E.2.1 1), .int p1, .int p2] w q := by
  refine mkI (cc := cX2_atOrBeyond) (maxL := 3) (by decide) rfl (Nat.le_of_ble_eq_true rfl) ?_
  intro p e s m args below meth c Q S hW hQ ls hl
  obtain ⟨hx, hb, hml, hown, hts⟩ := id S
  have hW0 := hW
  have hS : va_S (wA E rs) s.heap s.heap [] := va_S.rf
  have hl : lv_has ls 3 [(0, .ref (E.2.1 1)), (1, .int p1), (2, .int p2)] := hl
  have iX2 : ∀ w ∈ wsX20, w ∈ wsX2_atOrBeyond := by decide +kernel
  have e25 := hts (.fieldLink RX2 25 "CubeHeaps$Ground" "wide" "I") (by decide +kernel)
  have e29 := hts (.fieldLink RX2 29 "CubeHeaps$Ground" "deep" "I") (by decide +kernel)
  have J24 : ∀  (w : Wd) (H : Heap) (locs : List Loc) (ls : Array Slot), jX2_atOrBeyond_24 p1 p2 w = some q → World E rs w s H → va_S (wA E rs) s.heap H locs → lv_has ls 3 [] → W p l e rmX2_atOrBeyond s m args below meth c H locs 0 0 Q (F0 m 24 ls []) := by
    intro  w H locs ls h hW hS hl
    unfold jX2_atOrBeyond_24 at h
    refine lv_iconst (v := (-1 : Int32)) hx hb dX2_atOrBeyond_24 (by decide) ?_
    refine lv_goto (tgt := 34) hx hb dX2_atOrBeyond_25 (by decide) ?_
    exact rrI hQ hW hS h dX2_atOrBeyond_34
  unfold fX2_atOrBeyond at h
  refine lv_iload_n hx hb dX2_atOrBeyond_0 rfl (lv_at hl 1 rfl) ?_
  refine rb_if_lt (tgt := 24) hx hb h dX2_atOrBeyond_1 (by decide) (fun h => ?_) (fun h => ?_)
  · exact J24  _ _ _ _ h hW hS (lv_sub hl [] rfl)
  · refine lv_iload_n hx hb dX2_atOrBeyond_4 rfl (lv_at hl 1 rfl) ?_
    refine lv_aload_n hx hb dX2_atOrBeyond_5 rfl (lv_at hl 0 rfl) ?_
    refine rw_get hx hb hts iX2 hown hW (hrs 1 (by decide)) rfl rfl 3 (by decide) e25 rfl (v := .int (w.1 1 3)) rfl dX2_atOrBeyond_6 ?_
    refine rb_icmp_ge (tgt := 24) hx hb h dX2_atOrBeyond_9 (by decide) (fun h => ?_) (fun h => ?_)
    · exact J24  _ _ _ _ h hW hS (lv_sub hl [] rfl)
    · refine lv_iload_n hx hb dX2_atOrBeyond_12 rfl (lv_at hl 2 rfl) ?_
      refine rb_if_lt (tgt := 24) hx hb h dX2_atOrBeyond_13 (by decide) (fun h => ?_) (fun h => ?_)
      · exact J24  _ _ _ _ h hW hS (lv_sub hl [] rfl)
      · refine lv_iload_n hx hb dX2_atOrBeyond_16 rfl (lv_at hl 2 rfl) ?_
        refine lv_aload_n hx hb dX2_atOrBeyond_17 rfl (lv_at hl 0 rfl) ?_
        refine rw_get hx hb hts iX2 hown hW (hrs 1 (by decide)) rfl rfl 4 (by decide) e29 rfl (v := .int (w.1 1 4)) rfl dX2_atOrBeyond_18 ?_
        refine rb_icmp_lt (tgt := 28) hx hb h dX2_atOrBeyond_21 (by decide) (fun h => ?_) (fun h => ?_)
        · refine lv_aload_n hx hb dX2_atOrBeyond_28 rfl (lv_at hl 0 rfl) ?_
          refine lv_iload_n hx hb dX2_atOrBeyond_29 rfl (lv_at hl 1 rfl) ?_
          refine lv_iload_n hx hb dX2_atOrBeyond_30 rfl (lv_at hl 2 rfl) ?_
          refine rc_Vi (k := 1) (As := [.int p1, .int p2]) (rest := []) S hW hS h (kX2_at l E rs (fun k hk => hrs k ((by decide : ∀ k ∈ ([1] : List Nat), k ∈ ([1] : List Nat)) k hk)) p1 p2 w) (cwV 2 hts gX2_atOrBeyond_X2_at rfl rfl rfl hdX2_at ⟨Nat.le_of_ble_eq_true rfl, Nat.le_of_ble_eq_true rfl⟩) (hrs 1 (by decide)) rfl rfl rfl rfl hl.1 rfl (Nat.le_of_ble_eq_true rfl) ⟨Nat.zero_le _, Nat.zero_le _⟩ dX2_atOrBeyond_31 (fun x1 w2 H locs h hW hS => ?_)
          exact rrI hQ hW hS h dX2_atOrBeyond_34
        · exact J24  _ _ _ _ h hW hS (lv_sub hl [] rfl)
noncomputable def bX2_placeCell_24 (p1 : Int32) (p2 : Int32) (k24 : Int32 → Int32 → Wd → Option (Unit × Wd)) (v3 : Int32) (v4 : Int32)  (w : Wd) : Option (Unit × Wd) :=
  if (4 : Int32) ≤ v4 then some ((), w) else (ixA 4 v4).bind fun x5 => (ixA 4 v4).bind fun x6 => bnd (fX2_atOrBeyond (p1 + (stX x5)) (p2 + (stY x6)) w) fun x7 w8 => (sI w8 4 ((v3 * (4 : Int32)) + v4) x7).bind fun w9 => k24 v3 (v4 + (1 : Int32)) w9
noncomputable def fX2_placeCell (p1 : Int32) (p2 : Int32) (w : Wd) : Option (Unit × Wd) :=
  bnd (fX2_at p1 p2 w) fun x1 w2 => (sI w2 2 x1 p1).bind fun w3 => (sI w3 3 x1 p2).bind fun w4 => lp (fun _ _ _ => none) (bX2_placeCell_24 p1 p2) G x1 (0 : Int32) w4
abbrev rmX2_placeCell : Room := { frames := 2, cells := 0, slots := 0, locals := 44 }
set_option maxHeartbeats 4000000 in
set_option maxRecDepth 100000 in
theorem kX2_placeCell (l : Launch) (E : Ev) (rs : Nat → Prop) (hrs : ∀ k ∈ ([1, 2, 3, 4] : List Nat), rs k) (p1 : Int32) (p2 : Int32) (w : Wd) (q : Unit × Wd) (h : fX2_placeCell p1 p2 w = some q) : CtV l yX2_placeCell wsX2_placeCell rmX2_placeCell E rs [.ref (E.2.1 1), .int p1, .int p2] w q := by
  refine mkV (cc := cX2_placeCell) (maxL := 5) (by decide) rfl (Nat.le_of_ble_eq_true rfl) ?_
  intro p e s m args below meth c Q S hW hQ ls hl
  obtain ⟨hx, hb, hml, hown, hts⟩ := id S
  have hW0 := hW
  have hS : va_S (wA E rs) s.heap s.heap [] := va_S.rf
  have hl : lv_has ls 5 [(0, .ref (E.2.1 1)), (1, .int p1), (2, .int p2)] := hl
  have iX2 : ∀ w ∈ wsX20, w ∈ wsX2_placeCell := by decide +kernel
  have e9 := hts (.fieldLink RX2 9 "CubeHeaps$Ground" "xs" "[I") (by decide +kernel)
  have e15 := hts (.fieldLink RX2 15 "CubeHeaps$Ground" "ys" "[I") (by decide +kernel)
  have e18 := hts (.fieldLink RX2 18 "CubeHeaps$Ground" "neighbours" "[I") (by decide +kernel)
  have J24 : ∀ (n : Nat) (v3 : Int32) (v4 : Int32) (w : Wd) (H : Heap) (locs : List Loc) (ls : Array Slot), lp (fun _ _ _ => none) (bX2_placeCell_24 p1 p2) n v3 v4 w = some q → World E rs w s H → va_S (wA E rs) s.heap H locs → lv_has ls 5 [(0, .ref (E.2.1 1)), (1, .int p1), (2, .int p2), (3, .int v3), (4, .int v4)] → W p l e rmX2_placeCell s m args below meth c H locs 0 0 Q (F0 m 24 ls []) := by
    intro n
    induction n with
    | zero =>
      intro v3 v4 w H locs ls h hW hS hl
      exact absurd (show (none : Option (Unit × Wd)) = some q from h) (fun z => by cases z)
    | succ n ih24 =>
      intro v3 v4 w H locs ls h hW hS hl
      have h : bX2_placeCell_24 p1 p2 (lp (fun _ _ _ => none) (bX2_placeCell_24 p1 p2) n) v3 v4 w = some q := h
      generalize lp (fun _ _ _ => none) (bX2_placeCell_24 p1 p2) n = k24 at h ih24
      unfold bX2_placeCell_24 at h
      refine lv_iload hx hb dX2_placeCell_24 (lv_at hl 4 rfl) ?_
      refine lv_iconst (v := (4 : Int32)) hx hb dX2_placeCell_26 (by decide) ?_
      refine rb_icmp_ge (tgt := 67) hx hb h dX2_placeCell_27 (by decide) (fun h => ?_) (fun h => ?_)
      · exact rrV hQ hW hS h dX2_placeCell_67
      · refine lv_aload_n hx hb dX2_placeCell_30 rfl (lv_at hl 0 rfl) ?_
        refine rw_get hx hb hts iX2 hown hW (hrs 1 (by decide)) rfl rfl 2 (by decide) e18 rfl (v := .ref (E.2.1 4)) rfl dX2_placeCell_31 ?_
        refine lv_iload_n hx hb dX2_placeCell_34 rfl (lv_at hl 3 rfl) ?_
        refine lv_iconst (v := (4 : Int32)) hx hb dX2_placeCell_35 (by decide) ?_
        refine lv_imul hx hb dX2_placeCell_36 ?_
        refine lv_iload hx hb dX2_placeCell_37 (lv_at hl 4 rfl) ?_
        refine lv_iadd hx hb dX2_placeCell_39 ?_
        refine lv_aload_n hx hb dX2_placeCell_40 rfl (lv_at hl 0 rfl) ?_
        refine lv_iload_n hx hb dX2_placeCell_41 rfl (lv_at hl 1 rfl) ?_
        refine va_gets (own := RX2) (ref := "CubeHeaps$Ground") hx hb hW0.2.2.2.1 hS hown (hts (.fieldLink RX2 39 "CubeHeaps$Ground" "STEP_X" "[I") (by decide +kernel)) (fun _ h9 => h9) dX2_placeCell_42 ?_
        refine lv_iload hx hb dX2_placeCell_45 (lv_at hl 4 rfl) ?_
        refine rw_stX hx hb hW0 hS h dX2_placeCell_47 (fun x5 h => ?_)
        refine lv_iadd hx hb dX2_placeCell_48 ?_
        refine lv_iload_n hx hb dX2_placeCell_49 rfl (lv_at hl 2 rfl) ?_
        refine va_gets (own := RX2) (ref := "CubeHeaps$Ground") hx hb hW0.2.2.2.2.2.1 hS hown (hts (.fieldLink RX2 42 "CubeHeaps$Ground" "STEP_Y" "[I") (by decide +kernel)) (fun _ h9 => h9) dX2_placeCell_50 ?_
        refine lv_iload hx hb dX2_placeCell_53 (lv_at hl 4 rfl) ?_
        refine rw_stY hx hb hW0 hS h dX2_placeCell_55 (fun x6 h => ?_)
        refine lv_iadd hx hb dX2_placeCell_56 ?_
        refine rc_Vi (k := 1) (As := [.int (p1 + (stX x5)), .int (p2 + (stY x6))]) (rest := [.int ((v3 * (4 : Int32)) + v4), .ref (E.2.1 4)]) S hW hS h (kX2_atOrBeyond l E rs (fun k hk => hrs k ((by decide : ∀ k ∈ ([1] : List Nat), k ∈ ([1, 2, 3, 4] : List Nat)) k hk)) (p1 + (stX x5)) (p2 + (stY x6)) w) (cwV 2 hts gX2_placeCell_X2_atOrBeyond rfl rfl rfl hdX2_atOrBeyond ⟨Nat.le_of_ble_eq_true rfl, Nat.le_of_ble_eq_true rfl⟩) (hrs 1 (by decide)) rfl rfl rfl rfl hl.1 rfl (Nat.le_of_ble_eq_true rfl) ⟨Nat.zero_le _, Nat.zero_le _⟩ dX2_placeCell_57 (fun x7 w8 H locs h hW hS => ?_)
        refine rw_iast hx hb hW hS (fun _ => (hrs 4 (by decide))) h dX2_placeCell_60 (fun w9 H locs h hW hS => ?_)
        refine lv_iinc (v := (v4 + (1 : Int32))) (lv' := [(4, .int (v4 + (1 : Int32))), (0, .ref (E.2.1 1)), (1, .int p1), (2, .int p2), (3, .int v3)]) hx hb dX2_placeCell_61 hl (k := 4) rfl rfl (by decide) rfl (fun ls hl => ?_)
        refine lv_goto (tgt := 24) hx hb dX2_placeCell_64 (by decide) ?_
        exact ih24 _ _ _ _ _ _ h hW hS (lv_sub hl [1, 2, 3, 4, 0] rfl)
  unfold fX2_placeCell at h
  refine lv_aload_n hx hb dX2_placeCell_0 rfl (lv_at hl 0 rfl) ?_
  refine lv_iload_n hx hb dX2_placeCell_1 rfl (lv_at hl 1 rfl) ?_
  refine lv_iload_n hx hb dX2_placeCell_2 rfl (lv_at hl 2 rfl) ?_
  refine rc_Vi (k := 1) (As := [.int p1, .int p2]) (rest := []) S hW hS h (kX2_at l E rs (fun k hk => hrs k ((by decide : ∀ k ∈ ([1] : List Nat), k ∈ ([1, 2, 3, 4] : List Nat)) k hk)) p1 p2 w) (cwV 2 hts gX2_placeCell_X2_at rfl rfl rfl hdX2_at ⟨Nat.le_of_ble_eq_true rfl, Nat.le_of_ble_eq_true rfl⟩) (hrs 1 (by decide)) rfl rfl rfl rfl hl.1 rfl (Nat.le_of_ble_eq_true rfl) ⟨Nat.zero_le _, Nat.zero_le _⟩ dX2_placeCell_3 (fun x1 w2 H locs h hW hS => ?_)
  refine lv_istore_n (lv' := [(3, .int x1), (0, .ref (E.2.1 1)), (1, .int p1), (2, .int p2)]) hx hb dX2_placeCell_6 rfl hl (by decide) rfl (fun ls hl => ?_)
  refine lv_aload_n hx hb dX2_placeCell_7 rfl (lv_at hl 1 rfl) ?_
  refine rw_get hx hb hts iX2 hown hW (hrs 1 (by decide)) rfl rfl 0 (by decide) e9 rfl (v := .ref (E.2.1 2)) rfl dX2_placeCell_8 ?_
  refine lv_iload_n hx hb dX2_placeCell_11 rfl (lv_at hl 0 rfl) ?_
  refine lv_iload_n hx hb dX2_placeCell_12 rfl (lv_at hl 2 rfl) ?_
  refine rw_iast hx hb hW hS (fun _ => (hrs 2 (by decide))) h dX2_placeCell_13 (fun w3 H locs h hW hS => ?_)
  refine lv_aload_n hx hb dX2_placeCell_14 rfl (lv_at hl 1 rfl) ?_
  refine rw_get hx hb hts iX2 hown hW (hrs 1 (by decide)) rfl rfl 1 (by decide) e15 rfl (v := .ref (E.2.1 3)) rfl dX2_placeCell_15 ?_
  refine lv_iload_n hx hb dX2_placeCell_18 rfl (lv_at hl 0 rfl) ?_
  refine lv_iload_n hx hb dX2_placeCell_19 rfl (lv_at hl 3 rfl) ?_
  refine rw_iast hx hb hW hS (fun _ => (hrs 3 (by decide))) h dX2_placeCell_20 (fun w4 H locs h hW hS => ?_)
  refine lv_iconst (v := (0 : Int32)) hx hb dX2_placeCell_21 (by decide) ?_
  refine lv_istore (lv' := [(4, .int (0 : Int32)), (3, .int x1), (0, .ref (E.2.1 1)), (1, .int p1), (2, .int p2)]) hx hb dX2_placeCell_22 hl (by decide) rfl (fun ls hl => ?_)
  exact J24 _ _ _ _ _ _ _ h hW hS (lv_sub hl [2, 3, 4, 1, 0] rfl)
noncomputable def bX2_become_20 (p1 : Int32) (p2 : Int32) (k12 : Int32 → Wd → Option (Unit × Wd)) (k20 : Int32 → Int32 → Wd → Option (Unit × Wd)) (v3 : Int32) (v4 : Int32)  (w : Wd) : Option (Unit × Wd) :=
  if p1 ≤ v4 then k12 (v3 + (1 : Int32)) w else bnd (fX2_placeCell v4 v3 w) fun _ w1 => k20 v3 (v4 + (1 : Int32)) w1
noncomputable def bX2_become_12 (p1 : Int32) (p2 : Int32) (k12 : Int32 → Wd → Option (Unit × Wd)) (v3 : Int32)  (w : Wd) : Option (Unit × Wd) :=
  if p2 ≤ v3 then some ((), w) else lp (fun _ _ _ => none) (bX2_become_20 p1 p2 k12) G v3 (0 : Int32) w
noncomputable def fX2_become (p1 : Int32) (p2 : Int32) (w : Wd) : Option (Unit × Wd) :=
  lp (fun _ _ => none) (bX2_become_12 p1 p2) G (0 : Int32) (uI (uI w 1 3 p1) 1 4 p2)
abbrev rmX2_become : Room := { frames := 3, cells := 0, slots := 0, locals := 68 }
set_option maxHeartbeats 4000000 in
set_option maxRecDepth 100000 in
theorem kX2_become (l : Launch) (E : Ev) (rs : Nat → Prop) (hrs : ∀ k ∈ ([1, 2, 3, 4] : List Nat), rs k) (p1 : Int32) (p2 : Int32) (w : Wd) (q : Unit × Wd) (h : fX2_become p1 p2 w = some q) : CtV l yX2_become wsX2_become rmX2_become E rs [.ref (E.2.1 1), .int p1, .int p2] w q := by
  refine mkV (cc := cX2_become) (maxL := 5) (by decide) rfl (Nat.le_of_ble_eq_true rfl) ?_
  intro p e s m args below meth c Q S hW hQ ls hl
  obtain ⟨hx, hb, hml, hown, hts⟩ := id S
  have hW0 := hW
  have hS : va_S (wA E rs) s.heap s.heap [] := va_S.rf
  have hl : lv_has ls 5 [(0, .ref (E.2.1 1)), (1, .int p1), (2, .int p2)] := hl
  have iX2 : ∀ w ∈ wsX20, w ∈ wsX2_become := by decide +kernel
  have e25 := hts (.fieldLink RX2 25 "CubeHeaps$Ground" "wide" "I") (by decide +kernel)
  have e29 := hts (.fieldLink RX2 29 "CubeHeaps$Ground" "deep" "I") (by decide +kernel)
  have J12 : ∀ (n : Nat) (v3 : Int32) (w : Wd) (H : Heap) (locs : List Loc) (ls : Array Slot), lp (fun _ _ => none) (bX2_become_12 p1 p2) n v3 w = some q → World E rs w s H → va_S (wA E rs) s.heap H locs → lv_has ls 5 [(0, .ref (E.2.1 1)), (1, .int p1), (2, .int p2), (3, .int v3)] → W p l e rmX2_become s m args below meth c H locs 0 0 Q (F0 m 12 ls []) := by
    intro n
    induction n with
    | zero =>
      intro v3 w H locs ls h hW hS hl
      exact absurd (show (none : Option (Unit × Wd)) = some q from h) (fun z => by cases z)
    | succ n ih12 =>
      intro v3 w H locs ls h hW hS hl
      have h : bX2_become_12 p1 p2 (lp (fun _ _ => none) (bX2_become_12 p1 p2) n) v3 w = some q := h
      generalize lp (fun _ _ => none) (bX2_become_12 p1 p2) n = k12 at h ih12
      have J20 : ∀ (n : Nat) (v3 : Int32) (v4 : Int32) (w : Wd) (H : Heap) (locs : List Loc) (ls : Array Slot), lp (fun _ _ _ => none) (bX2_become_20 p1 p2 k12) n v3 v4 w = some q → World E rs w s H → va_S (wA E rs) s.heap H locs → lv_has ls 5 [(0, .ref (E.2.1 1)), (1, .int p1), (2, .int p2), (3, .int v3), (4, .int v4)] → W p l e rmX2_become s m args below meth c H locs 0 0 Q (F0 m 20 ls []) := by
        intro n
        induction n with
        | zero =>
          intro v3 v4 w H locs ls h hW hS hl
          exact absurd (show (none : Option (Unit × Wd)) = some q from h) (fun z => by cases z)
        | succ n ih20 =>
          intro v3 v4 w H locs ls h hW hS hl
          have h : bX2_become_20 p1 p2 k12 (lp (fun _ _ _ => none) (bX2_become_20 p1 p2 k12) n) v3 v4 w = some q := h
          generalize lp (fun _ _ _ => none) (bX2_become_20 p1 p2 k12) n = k20 at h ih20
          unfold bX2_become_20 at h
          refine lv_iload hx hb dX2_become_20 (lv_at hl 4 rfl) ?_
          refine lv_iload_n hx hb dX2_become_22 rfl (lv_at hl 1 rfl) ?_
          refine rb_icmp_ge (tgt := 39) hx hb h dX2_become_23 (by decide) (fun h => ?_) (fun h => ?_)
          · refine lv_iinc (v := (v3 + (1 : Int32))) (lv' := [(3, .int (v3 + (1 : Int32))), (0, .ref (E.2.1 1)), (1, .int p1), (2, .int p2), (4, .int v4)]) hx hb dX2_become_39 hl (k := 3) rfl rfl (by decide) rfl (fun ls hl => ?_)
            refine lv_goto (tgt := 12) hx hb dX2_become_42 (by decide) ?_
            exact ih12 _ _ _ _ _ h hW hS (lv_sub hl [1, 2, 3, 0] rfl)
          · refine lv_aload_n hx hb dX2_become_26 rfl (lv_at hl 0 rfl) ?_
            refine lv_iload hx hb dX2_become_27 (lv_at hl 4 rfl) ?_
            refine lv_iload_n hx hb dX2_become_29 rfl (lv_at hl 3 rfl) ?_
            refine rc_Vv (k := 1) (As := [.int v4, .int v3]) (rest := []) S hW hS h (kX2_placeCell l E rs (fun k hk => hrs k ((by decide : ∀ k ∈ ([1, 2, 3, 4] : List Nat), k ∈ ([1, 2, 3, 4] : List Nat)) k hk)) v4 v3 w) (cwV 2 hts gX2_become_X2_placeCell rfl rfl rfl hdX2_placeCell ⟨Nat.le_of_ble_eq_true rfl, Nat.le_of_ble_eq_true rfl⟩) (hrs 1 (by decide)) rfl rfl rfl rfl hl.1 rfl (Nat.le_of_ble_eq_true rfl) ⟨Nat.zero_le _, Nat.zero_le _⟩ dX2_become_30 (fun _ w1 H locs h hW hS => ?_)
            refine lv_iinc (v := (v4 + (1 : Int32))) (lv' := [(4, .int (v4 + (1 : Int32))), (0, .ref (E.2.1 1)), (1, .int p1), (2, .int p2), (3, .int v3)]) hx hb dX2_become_33 hl (k := 4) rfl rfl (by decide) rfl (fun ls hl => ?_)
            refine lv_goto (tgt := 20) hx hb dX2_become_36 (by decide) ?_
            exact ih20 _ _ _ _ _ _ h hW hS (lv_sub hl [1, 2, 3, 4, 0] rfl)
      unfold bX2_become_12 at h
      refine lv_iload_n hx hb dX2_become_12 rfl (lv_at hl 3 rfl) ?_
      refine lv_iload_n hx hb dX2_become_13 rfl (lv_at hl 2 rfl) ?_
      refine rb_icmp_ge (tgt := 45) hx hb h dX2_become_14 (by decide) (fun h => ?_) (fun h => ?_)
      · exact rrV hQ hW hS h dX2_become_45
      · refine lv_iconst (v := (0 : Int32)) hx hb dX2_become_17 (by decide) ?_
        refine lv_istore (lv' := [(4, .int (0 : Int32)), (0, .ref (E.2.1 1)), (1, .int p1), (2, .int p2), (3, .int v3)]) hx hb dX2_become_18 hl (by decide) rfl (fun ls hl => ?_)
        exact J20 _ _ _ _ _ _ _ h hW hS (lv_sub hl [1, 2, 3, 4, 0] rfl)
  unfold fX2_become at h
  refine lv_aload_n hx hb dX2_become_0 rfl (lv_at hl 0 rfl) ?_
  refine lv_iload_n hx hb dX2_become_1 rfl (lv_at hl 1 rfl) ?_
  refine rw_put hx hb hts iX2 tyX2_ok nmX2 hown hW hS (hrs 1 (by decide)) rfl rfl 3 (by decide) e25 rfl 3 p1 (L := [.ref (E.2.1 2), .ref (E.2.1 3), .ref (E.2.1 4), .int p1, .int (w.1 1 4)]) rfl rfl rfl rfl (by decide) dX2_become_2 (fun H locs hW hS => ?_)
  refine lv_aload_n hx hb dX2_become_5 rfl (lv_at hl 0 rfl) ?_
  refine lv_iload_n hx hb dX2_become_6 rfl (lv_at hl 2 rfl) ?_
  refine rw_put hx hb hts iX2 tyX2_ok nmX2 hown hW hS (hrs 1 (by decide)) rfl rfl 4 (by decide) e29 rfl 4 p2 (L := [.ref (E.2.1 2), .ref (E.2.1 3), .ref (E.2.1 4), .int ((uI w 1 3 p1).1 1 3), .int p2]) rfl rfl rfl rfl (by decide) dX2_become_7 (fun H locs hW hS => ?_)
  refine lv_iconst (v := (0 : Int32)) hx hb dX2_become_10 (by decide) ?_
  refine lv_istore_n (lv' := [(3, .int (0 : Int32)), (0, .ref (E.2.1 1)), (1, .int p1), (2, .int p2)]) hx hb dX2_become_11 rfl hl (by decide) rfl (fun ls hl => ?_)
  exact J12 _ _ _ _ _ _ h hW hS (lv_sub hl [1, 2, 3, 0] rfl)
noncomputable def fX2_length (p1 : Int32) (w : Wd) : Option (Int32 × Wd) :=
  if p1 = 0 then some ((w.1 1 3), w) else some ((w.1 1 4), w)
abbrev rmX2_length : Room := { frames := 0, cells := 0, slots := 0, locals := 0 }
set_option maxHeartbeats 4000000 in
set_option maxRecDepth 100000 in
theorem kX2_length (l : Launch) (E : Ev) (p1 : Int32) (w : Wd) (q : Int32 × Wd) (h : fX2_length p1 w = some q) : CtI l yX2_length wsX2_length rmX2_length E full [.ref (E.2.1 1), .int p1] w q := by
  refine mkI (cc := cX2_length) (maxL := 2) (by decide) rfl (Nat.le_of_ble_eq_true rfl) ?_
  intro p e s m args below meth c Q S hW hQ ls hl
  obtain ⟨hx, hb, hml, hown, hts⟩ := id S
  have hW0 := hW
  have hS : va_S (wA E full) s.heap s.heap [] := va_S.rf
  have hl : lv_has ls 2 [(0, .ref (E.2.1 1)), (1, .int p1)] := hl
  have iX2 : ∀ w ∈ wsX20, w ∈ wsX2_length := by decide +kernel
  have e25 := hts (.fieldLink RX2 25 "CubeHeaps$Ground" "wide" "I") (by decide +kernel)
  have e29 := hts (.fieldLink RX2 29 "CubeHeaps$Ground" "deep" "I") (by decide +kernel)
  unfold fX2_length at h
  refine lv_iload_n hx hb dX2_length_0 rfl (lv_at hl 1 rfl) ?_
  refine rb_if_eq (tgt := 11) hx hb h dX2_length_1 (by decide) (fun h => ?_) (fun h => ?_)
  · refine lv_aload_n hx hb dX2_length_11 rfl (lv_at hl 0 rfl) ?_
    refine rw_get hx hb hts iX2 hown hW (fl 1 rfl) rfl rfl 3 (by decide) e25 rfl (v := .int (w.1 1 3)) rfl dX2_length_12 ?_
    exact rrI hQ hW hS h dX2_length_15
  · refine lv_aload_n hx hb dX2_length_4 rfl (lv_at hl 0 rfl) ?_
    refine rw_get hx hb hts iX2 hown hW (fl 1 rfl) rfl rfl 4 (by decide) e29 rfl (v := .int (w.1 1 4)) rfl dX2_length_5 ?_
    refine lv_goto (tgt := 15) hx hb dX2_length_8 (by decide) ?_
    exact rrI hQ hW hS h dX2_length_15
noncomputable def fX2_onLine (p1 : Int32) (p2 : Int32) (p3 : Int32) (w : Wd) : Option (Int32 × Wd) :=
  if p1 = 0 then some (((p2 * (w.1 1 3)) + p3), w) else some (((p3 * (w.1 1 3)) + p2), w)
abbrev rmX2_onLine : Room := { frames := 0, cells := 0, slots := 0, locals := 0 }
set_option maxHeartbeats 4000000 in
set_option maxRecDepth 100000 in
theorem kX2_onLine (l : Launch) (E : Ev) (p1 : Int32) (p2 : Int32) (p3 : Int32) (w : Wd) (q : Int32 × Wd) (h : fX2_onLine p1 p2 p3 w = some q) : CtI l yX2_onLine wsX2_onLine rmX2_onLine E full [.ref (E.2.1 1), .int p1, .int p2, .int p3] w q := by
  refine mkI (cc := cX2_onLine) (maxL := 4) (by decide) rfl (Nat.le_of_ble_eq_true rfl) ?_
  intro p e s m args below meth c Q S hW hQ ls hl
  obtain ⟨hx, hb, hml, hown, hts⟩ := id S
  have hW0 := hW
  have hS : va_S (wA E full) s.heap s.heap [] := va_S.rf
  have hl : lv_has ls 4 [(0, .ref (E.2.1 1)), (1, .int p1), (2, .int p2), (3, .int p3)] := hl
  have iX2 : ∀ w ∈ wsX20, w ∈ wsX2_onLine := by decide +kernel
  have e25 := hts (.fieldLink RX2 25 "CubeHeaps$Ground" "wide" "I") (by decide +kernel)
  unfold fX2_onLine at h
  refine lv_iload_n hx hb dX2_onLine_0 rfl (lv_at hl 1 rfl) ?_
  refine rb_if_eq (tgt := 15) hx hb h dX2_onLine_1 (by decide) (fun h => ?_) (fun h => ?_)
  · refine lv_iload_n hx hb dX2_onLine_15 rfl (lv_at hl 2 rfl) ?_
    refine lv_aload_n hx hb dX2_onLine_16 rfl (lv_at hl 0 rfl) ?_
    refine rw_get hx hb hts iX2 hown hW (fl 1 rfl) rfl rfl 3 (by decide) e25 rfl (v := .int (w.1 1 3)) rfl dX2_onLine_17 ?_
    refine lv_imul hx hb dX2_onLine_20 ?_
    refine lv_iload_n hx hb dX2_onLine_21 rfl (lv_at hl 3 rfl) ?_
    refine lv_iadd hx hb dX2_onLine_22 ?_
    exact rrI hQ hW hS h dX2_onLine_23
  · refine lv_iload_n hx hb dX2_onLine_4 rfl (lv_at hl 3 rfl) ?_
    refine lv_aload_n hx hb dX2_onLine_5 rfl (lv_at hl 0 rfl) ?_
    refine rw_get hx hb hts iX2 hown hW (fl 1 rfl) rfl rfl 3 (by decide) e25 rfl (v := .int (w.1 1 3)) rfl dX2_onLine_6 ?_
    refine lv_imul hx hb dX2_onLine_9 ?_
    refine lv_iload_n hx hb dX2_onLine_10 rfl (lv_at hl 2 rfl) ?_
    refine lv_iadd hx hb dX2_onLine_11 ?_
    refine lv_goto (tgt := 23) hx hb dX2_onLine_12 (by decide) ?_
    exact rrI hQ hW hS h dX2_onLine_23
noncomputable def bX2_lineTotal_6 (p1 : Nat) (p2 : Int32) (p3 : Int32) (k6 : Int32 → Int32 → Wd → Option (Int32 × Wd)) (v4 : Int32) (v5 : Int32)  (w : Wd) : Option (Int32 × Wd) :=
  bnd (fX2_length p2 w) fun x1 w2 => if x1 ≤ v5 then some (v4, w2) else bnd (fX2_onLine p2 p3 v5 w2) fun x3 w4 => (gI w4 p1 x3).bind fun x5 => k6 (v4 + x5) (v5 + (1 : Int32)) w4
noncomputable def fX2_lineTotal (p1 : Nat) (p2 : Int32) (p3 : Int32) (w : Wd) : Option (Int32 × Wd) :=
  lp (fun _ _ _ => none) (bX2_lineTotal_6 p1 p2 p3) G (0 : Int32) (0 : Int32) w
abbrev rmX2_lineTotal : Room := { frames := 1, cells := 0, slots := 0, locals := 23 }
set_option maxHeartbeats 4000000 in
set_option maxRecDepth 100000 in
theorem kX2_lineTotal (l : Launch) (E : Ev) (p1 : Nat) (p2 : Int32) (p3 : Int32) (w : Wd) (q : Int32 × Wd) (h : fX2_lineTotal p1 p2 p3 w = some q) : CtI l yX2_lineTotal wsX2_lineTotal rmX2_lineTotal E full [.ref (E.2.1 1), .ref (E.2.1 p1), .int p2, .int p3] w q := by
  refine mkI (cc := cX2_lineTotal) (maxL := 6) (by decide) rfl (Nat.le_of_ble_eq_true rfl) ?_
  intro p e s m args below meth c Q S hW hQ ls hl
  obtain ⟨hx, hb, hml, hown, hts⟩ := id S
  have hW0 := hW
  have hS : va_S (wA E full) s.heap s.heap [] := va_S.rf
  have hl : lv_has ls 6 [(0, .ref (E.2.1 1)), (1, .ref (E.2.1 p1)), (2, .int p2), (3, .int p3)] := hl
  have J6 : ∀ (n : Nat) (v4 : Int32) (v5 : Int32) (w : Wd) (H : Heap) (locs : List Loc) (ls : Array Slot), lp (fun _ _ _ => none) (bX2_lineTotal_6 p1 p2 p3) n v4 v5 w = some q → World E full w s H → va_S (wA E full) s.heap H locs → lv_has ls 6 [(0, .ref (E.2.1 1)), (1, .ref (E.2.1 p1)), (2, .int p2), (3, .int p3), (4, .int v4), (5, .int v5)] → W p l e rmX2_lineTotal s m args below meth c H locs 0 0 Q (F0 m 6 ls []) := by
    intro n
    induction n with
    | zero =>
      intro v4 v5 w H locs ls h hW hS hl
      exact absurd (show (none : Option (Int32 × Wd)) = some q from h) (fun z => by cases z)
    | succ n ih6 =>
      intro v4 v5 w H locs ls h hW hS hl
      have h : bX2_lineTotal_6 p1 p2 p3 (lp (fun _ _ _ => none) (bX2_lineTotal_6 p1 p2 p3) n) v4 v5 w = some q := h
      generalize lp (fun _ _ _ => none) (bX2_lineTotal_6 p1 p2 p3) n = k6 at h ih6
      unfold bX2_lineTotal_6 at h
      refine lv_iload hx hb dX2_lineTotal_6 (lv_at hl 5 rfl) ?_
      refine lv_aload_n hx hb dX2_lineTotal_8 rfl (lv_at hl 0 rfl) ?_
      refine lv_iload_n hx hb dX2_lineTotal_9 rfl (lv_at hl 2 rfl) ?_
      refine rc_Vi (k := 1) (As := [.int p2]) (rest := [.int v5]) S hW hS h (kX2_length l E p2 w) (cwV 1 hts gX2_lineTotal_X2_length rfl rfl rfl hdX2_length ⟨Nat.le_of_ble_eq_true rfl, Nat.le_of_ble_eq_true rfl⟩) (fl 1 rfl) rfl rfl rfl rfl hl.1 rfl (Nat.le_of_ble_eq_true rfl) ⟨Nat.zero_le _, Nat.zero_le _⟩ dX2_lineTotal_10 (fun x1 w2 H locs h hW hS => ?_)
      refine rb_icmp_ge (tgt := 37) hx hb h dX2_lineTotal_13 (by decide) (fun h => ?_) (fun h => ?_)
      · refine lv_iload hx hb dX2_lineTotal_37 (lv_at hl 4 rfl) ?_
        exact rrI hQ hW hS h dX2_lineTotal_39
      · refine lv_iload hx hb dX2_lineTotal_16 (lv_at hl 4 rfl) ?_
        refine lv_aload_n hx hb dX2_lineTotal_18 rfl (lv_at hl 1 rfl) ?_
        refine lv_aload_n hx hb dX2_lineTotal_19 rfl (lv_at hl 0 rfl) ?_
        refine lv_iload_n hx hb dX2_lineTotal_20 rfl (lv_at hl 2 rfl) ?_
        refine lv_iload_n hx hb dX2_lineTotal_21 rfl (lv_at hl 3 rfl) ?_
        refine lv_iload hx hb dX2_lineTotal_22 (lv_at hl 5 rfl) ?_
        refine rc_Vi (k := 1) (As := [.int p2, .int p3, .int v5]) (rest := [.ref (E.2.1 p1), .int v4]) S hW hS h (kX2_onLine l E p2 p3 v5 w2) (cwV 3 hts gX2_lineTotal_X2_onLine rfl rfl rfl hdX2_onLine ⟨Nat.le_of_ble_eq_true rfl, Nat.le_of_ble_eq_true rfl⟩) (fl 1 rfl) rfl rfl rfl rfl hl.1 rfl (Nat.le_of_ble_eq_true rfl) ⟨Nat.zero_le _, Nat.zero_le _⟩ dX2_lineTotal_24 (fun x3 w4 H locs h hW hS => ?_)
        refine rw_iald hx hb hW LI_full h dX2_lineTotal_27 (fun x5 h => ?_)
        refine lv_iadd hx hb dX2_lineTotal_28 ?_
        refine lv_istore (lv' := [(4, .int (v4 + x5)), (0, .ref (E.2.1 1)), (1, .ref (E.2.1 p1)), (2, .int p2), (3, .int p3), (5, .int v5)]) hx hb dX2_lineTotal_29 hl (by decide) rfl (fun ls hl => ?_)
        refine lv_iinc (v := (v5 + (1 : Int32))) (lv' := [(5, .int (v5 + (1 : Int32))), (4, .int (v4 + x5)), (0, .ref (E.2.1 1)), (1, .ref (E.2.1 p1)), (2, .int p2), (3, .int p3)]) hx hb dX2_lineTotal_31 hl (k := 5) rfl rfl (by decide) rfl (fun ls hl => ?_)
        refine lv_goto (tgt := 6) hx hb dX2_lineTotal_34 (by decide) ?_
        exact ih6 _ _ _ _ _ _ h hW hS (lv_sub hl [2, 3, 4, 5, 1, 0] rfl)
  unfold fX2_lineTotal at h
  refine lv_iconst (v := (0 : Int32)) hx hb dX2_lineTotal_0 (by decide) ?_
  refine lv_istore (lv' := [(4, .int (0 : Int32)), (0, .ref (E.2.1 1)), (1, .ref (E.2.1 p1)), (2, .int p2), (3, .int p3)]) hx hb dX2_lineTotal_1 hl (by decide) rfl (fun ls hl => ?_)
  refine lv_iconst (v := (0 : Int32)) hx hb dX2_lineTotal_3 (by decide) ?_
  refine lv_istore (lv' := [(5, .int (0 : Int32)), (4, .int (0 : Int32)), (0, .ref (E.2.1 1)), (1, .ref (E.2.1 p1)), (2, .int p2), (3, .int p3)]) hx hb dX2_lineTotal_4 hl (by decide) rfl (fun ls hl => ?_)
  exact J6 _ _ _ _ _ _ _ h hW hS (lv_sub hl [2, 3, 4, 5, 1, 0] rfl)
noncomputable def jX2_overwrite_28 (p1 : Nat) (p2 : Nat) (k5 : Int32 → Int32 → Wd → Option (Int32 × Wd)) (v3 : Int32) (v4 : Int32)  (w : Wd) : Option (Int32 × Wd) :=
  (gI w p1 v4).bind fun x5 => (sI w p2 v4 x5).bind fun w6 => k5 v3 (v4 + (1 : Int32)) w6
noncomputable def bX2_overwrite_5 (p1 : Nat) (p2 : Nat) (k5 : Int32 → Int32 → Wd → Option (Int32 × Wd)) (v3 : Int32) (v4 : Int32)  (w : Wd) : Option (Int32 × Wd) :=
  bnd (fX2_cells w) fun x1 w2 => if x1 ≤ v4 then some (v3, w2) else (gI w2 p2 v4).bind fun x3 => (gI w2 p1 v4).bind fun x4 => if x3 = x4 then jX2_overwrite_28 p1 p2 k5 v3 v4 w2 else jX2_overwrite_28 p1 p2 k5 (v3 + (1 : Int32)) v4 w2
noncomputable def fX2_overwrite (p1 : Nat) (p2 : Nat) (w : Wd) : Option (Int32 × Wd) :=
  lp (fun _ _ _ => none) (bX2_overwrite_5 p1 p2) G (0 : Int32) (0 : Int32) w
abbrev rmX2_overwrite : Room := { frames := 1, cells := 0, slots := 0, locals := 20 }
set_option maxHeartbeats 4000000 in
set_option maxRecDepth 100000 in
theorem kX2_overwrite (l : Launch) (E : Ev) (p1 : Nat) (p2 : Nat) (w : Wd) (q : Int32 × Wd) (h : fX2_overwrite p1 p2 w = some q) : CtI l yX2_overwrite wsX2_overwrite rmX2_overwrite E full [.ref (E.2.1 1), .ref (E.2.1 p1), .ref (E.2.1 p2)] w q := by
  refine mkI (cc := cX2_overwrite) (maxL := 5) (by decide) rfl (Nat.le_of_ble_eq_true rfl) ?_
  intro p e s m args below meth c Q S hW hQ ls hl
  obtain ⟨hx, hb, hml, hown, hts⟩ := id S
  have hW0 := hW
  have hS : va_S (wA E full) s.heap s.heap [] := va_S.rf
  have hl : lv_has ls 5 [(0, .ref (E.2.1 1)), (1, .ref (E.2.1 p1)), (2, .ref (E.2.1 p2))] := hl
  have J5 : ∀ (n : Nat) (v3 : Int32) (v4 : Int32) (w : Wd) (H : Heap) (locs : List Loc) (ls : Array Slot), lp (fun _ _ _ => none) (bX2_overwrite_5 p1 p2) n v3 v4 w = some q → World E full w s H → va_S (wA E full) s.heap H locs → lv_has ls 5 [(0, .ref (E.2.1 1)), (1, .ref (E.2.1 p1)), (2, .ref (E.2.1 p2)), (3, .int v3), (4, .int v4)] → W p l e rmX2_overwrite s m args below meth c H locs 0 0 Q (F0 m 5 ls []) := by
    intro n
    induction n with
    | zero =>
      intro v3 v4 w H locs ls h hW hS hl
      exact absurd (show (none : Option (Int32 × Wd)) = some q from h) (fun z => by cases z)
    | succ n ih5 =>
      intro v3 v4 w H locs ls h hW hS hl
      have h : bX2_overwrite_5 p1 p2 (lp (fun _ _ _ => none) (bX2_overwrite_5 p1 p2) n) v3 v4 w = some q := h
      generalize lp (fun _ _ _ => none) (bX2_overwrite_5 p1 p2) n = k5 at h ih5
      have J28 : ∀ (v3 : Int32) (v4 : Int32) (w : Wd) (H : Heap) (locs : List Loc) (ls : Array Slot), jX2_overwrite_28 p1 p2 k5 v3 v4 w = some q → World E full w s H → va_S (wA E full) s.heap H locs → lv_has ls 5 [(0, .ref (E.2.1 1)), (1, .ref (E.2.1 p1)), (2, .ref (E.2.1 p2)), (3, .int v3), (4, .int v4)] → W p l e rmX2_overwrite s m args below meth c H locs 0 0 Q (F0 m 28 ls []) := by
        intro v3 v4 w H locs ls h hW hS hl
        unfold jX2_overwrite_28 at h
        refine lv_aload_n hx hb dX2_overwrite_28 rfl (lv_at hl 2 rfl) ?_
        refine lv_iload hx hb dX2_overwrite_29 (lv_at hl 4 rfl) ?_
        refine lv_aload_n hx hb dX2_overwrite_31 rfl (lv_at hl 1 rfl) ?_
        refine lv_iload hx hb dX2_overwrite_32 (lv_at hl 4 rfl) ?_
        refine rw_iald hx hb hW LI_full h dX2_overwrite_34 (fun x5 h => ?_)
        refine rw_iast hx hb hW hS LI_full h dX2_overwrite_35 (fun w6 H locs h hW hS => ?_)
        refine lv_iinc (v := (v4 + (1 : Int32))) (lv' := [(4, .int (v4 + (1 : Int32))), (0, .ref (E.2.1 1)), (1, .ref (E.2.1 p1)), (2, .ref (E.2.1 p2)), (3, .int v3)]) hx hb dX2_overwrite_36 hl (k := 4) rfl rfl (by decide) rfl (fun ls hl => ?_)
        refine lv_goto (tgt := 5) hx hb dX2_overwrite_39 (by decide) ?_
        exact ih5 _ _ _ _ _ _ h hW hS (lv_sub hl [1, 2, 3, 4, 0] rfl)
      unfold bX2_overwrite_5 at h
      refine lv_iload hx hb dX2_overwrite_5 (lv_at hl 4 rfl) ?_
      refine lv_aload_n hx hb dX2_overwrite_7 rfl (lv_at hl 0 rfl) ?_
      refine rc_Vi (k := 1) (As := []) (rest := [.int v4]) S hW hS h (kX2_cells l E  w) (cwV 0 hts gX2_overwrite_X2_cells rfl rfl rfl hdX2_cells ⟨Nat.le_of_ble_eq_true rfl, Nat.le_of_ble_eq_true rfl⟩) (fl 1 rfl) rfl rfl rfl rfl hl.1 rfl (Nat.le_of_ble_eq_true rfl) ⟨Nat.zero_le _, Nat.zero_le _⟩ dX2_overwrite_8 (fun x1 w2 H locs h hW hS => ?_)
      refine rb_icmp_ge (tgt := 42) hx hb h dX2_overwrite_11 (by decide) (fun h => ?_) (fun h => ?_)
      · refine lv_iload_n hx hb dX2_overwrite_42 rfl (lv_at hl 3 rfl) ?_
        exact rrI hQ hW hS h dX2_overwrite_43
      · refine lv_aload_n hx hb dX2_overwrite_14 rfl (lv_at hl 2 rfl) ?_
        refine lv_iload hx hb dX2_overwrite_15 (lv_at hl 4 rfl) ?_
        refine rw_iald hx hb hW LI_full h dX2_overwrite_17 (fun x3 h => ?_)
        refine lv_aload_n hx hb dX2_overwrite_18 rfl (lv_at hl 1 rfl) ?_
        refine lv_iload hx hb dX2_overwrite_19 (lv_at hl 4 rfl) ?_
        refine rw_iald hx hb hW LI_full h dX2_overwrite_21 (fun x4 h => ?_)
        refine rb_icmp_eq (tgt := 28) hx hb h dX2_overwrite_22 (by decide) (fun h => ?_) (fun h => ?_)
        · exact J28 _ _ _ _ _ _ h hW hS (hl)
        · refine lv_iinc (v := (v3 + (1 : Int32))) (lv' := [(3, .int (v3 + (1 : Int32))), (0, .ref (E.2.1 1)), (1, .ref (E.2.1 p1)), (2, .ref (E.2.1 p2)), (4, .int v4)]) hx hb dX2_overwrite_25 hl (k := 3) rfl rfl (by decide) rfl (fun ls hl => ?_)
          exact J28 _ _ _ _ _ _ h hW hS (lv_sub hl [1, 2, 3, 0, 4] rfl)
  unfold fX2_overwrite at h
  refine lv_iconst (v := (0 : Int32)) hx hb dX2_overwrite_0 (by decide) ?_
  refine lv_istore_n (lv' := [(3, .int (0 : Int32)), (0, .ref (E.2.1 1)), (1, .ref (E.2.1 p1)), (2, .ref (E.2.1 p2))]) hx hb dX2_overwrite_1 rfl hl (by decide) rfl (fun ls hl => ?_)
  refine lv_iconst (v := (0 : Int32)) hx hb dX2_overwrite_2 (by decide) ?_
  refine lv_istore (lv' := [(4, .int (0 : Int32)), (3, .int (0 : Int32)), (0, .ref (E.2.1 1)), (1, .ref (E.2.1 p1)), (2, .ref (E.2.1 p2))]) hx hb dX2_overwrite_3 hl (by decide) rfl (fun ls hl => ?_)
  exact J5 _ _ _ _ _ _ _ h hW hS (lv_sub hl [2, 3, 4, 1, 0] rfl)
noncomputable def bX2_compare_2 (p1 : Nat) (p2 : Nat) (k2 : Int32 → Wd → Option (Int32 × Wd)) (v3 : Int32)  (w : Wd) : Option (Int32 × Wd) :=
  bnd (fX2_cells w) fun x1 w2 => if x1 ≤ v3 then some ((0 : Int32), w2) else (gI w2 p1 v3).bind fun x3 => (gI w2 p2 v3).bind fun x4 => if x3 = x4 then k2 (v3 + (1 : Int32)) w2 else (gI w2 p1 v3).bind fun x5 => (gI w2 p2 v3).bind fun x6 => some ((x5 - x6), w2)
noncomputable def fX2_compare (p1 : Nat) (p2 : Nat) (w : Wd) : Option (Int32 × Wd) :=
  lp (fun _ _ => none) (bX2_compare_2 p1 p2) G (0 : Int32) w
abbrev rmX2_compare : Room := { frames := 1, cells := 0, slots := 0, locals := 20 }
set_option maxHeartbeats 4000000 in
set_option maxRecDepth 100000 in
theorem kX2_compare (l : Launch) (E : Ev) (p1 : Nat) (p2 : Nat) (w : Wd) (q : Int32 × Wd) (h : fX2_compare p1 p2 w = some q) : CtI l yX2_compare wsX2_compare rmX2_compare E full [.ref (E.2.1 1), .ref (E.2.1 p1), .ref (E.2.1 p2)] w q := by
  refine mkI (cc := cX2_compare) (maxL := 4) (by decide) rfl (Nat.le_of_ble_eq_true rfl) ?_
  intro p e s m args below meth c Q S hW hQ ls hl
  obtain ⟨hx, hb, hml, hown, hts⟩ := id S
  have hW0 := hW
  have hS : va_S (wA E full) s.heap s.heap [] := va_S.rf
  have hl : lv_has ls 4 [(0, .ref (E.2.1 1)), (1, .ref (E.2.1 p1)), (2, .ref (E.2.1 p2))] := hl
  have J2 : ∀ (n : Nat) (v3 : Int32) (w : Wd) (H : Heap) (locs : List Loc) (ls : Array Slot), lp (fun _ _ => none) (bX2_compare_2 p1 p2) n v3 w = some q → World E full w s H → va_S (wA E full) s.heap H locs → lv_has ls 4 [(0, .ref (E.2.1 1)), (1, .ref (E.2.1 p1)), (2, .ref (E.2.1 p2)), (3, .int v3)] → W p l e rmX2_compare s m args below meth c H locs 0 0 Q (F0 m 2 ls []) := by
    intro n
    induction n with
    | zero =>
      intro v3 w H locs ls h hW hS hl
      exact absurd (show (none : Option (Int32 × Wd)) = some q from h) (fun z => by cases z)
    | succ n ih2 =>
      intro v3 w H locs ls h hW hS hl
      have h : bX2_compare_2 p1 p2 (lp (fun _ _ => none) (bX2_compare_2 p1 p2) n) v3 w = some q := h
      generalize lp (fun _ _ => none) (bX2_compare_2 p1 p2) n = k2 at h ih2
      unfold bX2_compare_2 at h
      refine lv_iload_n hx hb dX2_compare_2 rfl (lv_at hl 3 rfl) ?_
      refine lv_aload_n hx hb dX2_compare_3 rfl (lv_at hl 0 rfl) ?_
      refine rc_Vi (k := 1) (As := []) (rest := [.int v3]) S hW hS h (kX2_cells l E  w) (cwV 0 hts gX2_compare_X2_cells rfl rfl rfl hdX2_cells ⟨Nat.le_of_ble_eq_true rfl, Nat.le_of_ble_eq_true rfl⟩) (fl 1 rfl) rfl rfl rfl rfl hl.1 rfl (Nat.le_of_ble_eq_true rfl) ⟨Nat.zero_le _, Nat.zero_le _⟩ dX2_compare_4 (fun x1 w2 H locs h hW hS => ?_)
      refine rb_icmp_ge (tgt := 33) hx hb h dX2_compare_7 (by decide) (fun h => ?_) (fun h => ?_)
      · refine lv_iconst (v := (0 : Int32)) hx hb dX2_compare_33 (by decide) ?_
        exact rrI hQ hW hS h dX2_compare_34
      · refine lv_aload_n hx hb dX2_compare_10 rfl (lv_at hl 1 rfl) ?_
        refine lv_iload_n hx hb dX2_compare_11 rfl (lv_at hl 3 rfl) ?_
        refine rw_iald hx hb hW LI_full h dX2_compare_12 (fun x3 h => ?_)
        refine lv_aload_n hx hb dX2_compare_13 rfl (lv_at hl 2 rfl) ?_
        refine lv_iload_n hx hb dX2_compare_14 rfl (lv_at hl 3 rfl) ?_
        refine rw_iald hx hb hW LI_full h dX2_compare_15 (fun x4 h => ?_)
        refine rb_icmp_eq (tgt := 27) hx hb h dX2_compare_16 (by decide) (fun h => ?_) (fun h => ?_)
        · refine lv_iinc (v := (v3 + (1 : Int32))) (lv' := [(3, .int (v3 + (1 : Int32))), (0, .ref (E.2.1 1)), (1, .ref (E.2.1 p1)), (2, .ref (E.2.1 p2))]) hx hb dX2_compare_27 hl (k := 3) rfl rfl (by decide) rfl (fun ls hl => ?_)
          refine lv_goto (tgt := 2) hx hb dX2_compare_30 (by decide) ?_
          exact ih2 _ _ _ _ _ h hW hS (lv_sub hl [1, 2, 3, 0] rfl)
        · refine lv_aload_n hx hb dX2_compare_19 rfl (lv_at hl 1 rfl) ?_
          refine lv_iload_n hx hb dX2_compare_20 rfl (lv_at hl 3 rfl) ?_
          refine rw_iald hx hb hW LI_full h dX2_compare_21 (fun x5 h => ?_)
          refine lv_aload_n hx hb dX2_compare_22 rfl (lv_at hl 2 rfl) ?_
          refine lv_iload_n hx hb dX2_compare_23 rfl (lv_at hl 3 rfl) ?_
          refine rw_iald hx hb hW LI_full h dX2_compare_24 (fun x6 h => ?_)
          refine lv_isub hx hb dX2_compare_25 ?_
          exact rrI hQ hW hS h dX2_compare_26
  unfold fX2_compare at h
  refine lv_iconst (v := (0 : Int32)) hx hb dX2_compare_0 (by decide) ?_
  refine lv_istore_n (lv' := [(3, .int (0 : Int32)), (0, .ref (E.2.1 1)), (1, .ref (E.2.1 p1)), (2, .ref (E.2.1 p2))]) hx hb dX2_compare_1 rfl hl (by decide) rfl (fun ls hl => ?_)
  exact J2 _ _ _ _ _ _ h hW hS (lv_sub hl [1, 2, 3, 0] rfl)
noncomputable def fX3_putAllT (p1 : Int32) (w : Wd) : Option (Unit × Wd) :=
  bnd (fJ7_fill_53178 16 p1 w) fun _ w1 => bnd (fJ7_fill_53178 17 p1 w1) fun _ w2 => some ((), w2)
abbrev rmX3_putAllT : Room := { frames := 1, cells := 0, slots := 0, locals := 23 }
set_option maxHeartbeats 4000000 in
set_option maxRecDepth 100000 in
theorem kX3_putAllT (l : Launch) (E : Ev) (rs : Nat → Prop) (hrs : ∀ k ∈ ([15, 16, 17] : List Nat), rs k) (p1 : Int32) (w : Wd) (q : Unit × Wd) (h : fX3_putAllT p1 w = some q) : CtV l yX3_putAll wsX3_putAll rmX3_putAllT E rs [.ref (E.2.1 15), .int p1] w q := by
  refine mkV (cc := cX3_putAll) (maxL := 2) (by decide) rfl (Nat.le_of_ble_eq_true rfl) ?_
  intro p e s m args below meth c Q S hW hQ ls hl
  obtain ⟨hx, hb, hml, hown, hts⟩ := id S
  have hW0 := hW
  have hS : va_S (wA E rs) s.heap s.heap [] := va_S.rf
  have hl : lv_has ls 2 [(0, .ref (E.2.1 15)), (1, .int p1)] := hl
  have iX3 : ∀ w ∈ wsX30, w ∈ wsX3_putAll := by decide +kernel
  have e9 := hts (.fieldLink RX3 9 "CubeHeaps$Lines" "columns" "[I") (by decide +kernel)
  have e15 := hts (.fieldLink RX3 15 "CubeHeaps$Lines" "rows" "[I") (by decide +kernel)
  unfold fX3_putAllT at h
  refine lv_aload_n hx hb dX3_putAll_0 rfl (lv_at hl 0 rfl) ?_
  refine rw_get hx hb hts iX3 hown hW (hrs 15 (by decide)) rfl rfl 0 (by decide) e9 rfl (v := .ref (E.2.1 16)) rfl dX3_putAll_1 ?_
  refine lv_iload_n hx hb dX3_putAll_4 rfl (lv_at hl 1 rfl) ?_
  refine rc_Sv (As := [.ref (E.2.1 16), .int p1]) (rest := []) S hW hS h (kJ7_fill_53178 l E rs 16 p1 (fun _ => (hrs 16 (by decide))) w) (va_cwS 2 hts gX3_putAll_J7_fill_53178 rfl rfl rfl hdJ7_fill_53178 ⟨Nat.le_of_ble_eq_true rfl, Nat.le_of_ble_eq_true rfl⟩) rfl hl.1 rfl (Nat.le_of_ble_eq_true rfl) ⟨Nat.zero_le _, Nat.zero_le _⟩ dX3_putAll_5 (fun _ w1 H locs h hW hS => ?_)
  refine lv_aload_n hx hb dX3_putAll_8 rfl (lv_at hl 0 rfl) ?_
  refine rw_get hx hb hts iX3 hown hW (hrs 15 (by decide)) rfl rfl 1 (by decide) e15 rfl (v := .ref (E.2.1 17)) rfl dX3_putAll_9 ?_
  refine lv_iload_n hx hb dX3_putAll_12 rfl (lv_at hl 1 rfl) ?_
  refine rc_Sv (As := [.ref (E.2.1 17), .int p1]) (rest := []) S hW hS h (kJ7_fill_53178 l E rs 17 p1 (fun _ => (hrs 17 (by decide))) w1) (va_cwS 2 hts gX3_putAll_J7_fill_53178 rfl rfl rfl hdJ7_fill_53178 ⟨Nat.le_of_ble_eq_true rfl, Nat.le_of_ble_eq_true rfl⟩) rfl hl.1 rfl (Nat.le_of_ble_eq_true rfl) ⟨Nat.zero_le _, Nat.zero_le _⟩ dX3_putAll_13 (fun _ w2 H locs h hW hS => ?_)
  exact rrV hQ hW hS h dX3_putAll_16
noncomputable def fX3_putAllS (p1 : Int32) (w : Wd) : Option (Unit × Wd) :=
  bnd (fJ7_fill_53178 81 p1 w) fun _ w1 => bnd (fJ7_fill_53178 82 p1 w1) fun _ w2 => some ((), w2)
abbrev rmX3_putAllS : Room := { frames := 1, cells := 0, slots := 0, locals := 23 }
set_option maxHeartbeats 4000000 in
set_option maxRecDepth 100000 in
theorem kX3_putAllS (l : Launch) (E : Ev) (rs : Nat → Prop) (hrs : ∀ k ∈ ([80, 81, 82] : List Nat), rs k) (p1 : Int32) (w : Wd) (q : Unit × Wd) (h : fX3_putAllS p1 w = some q) : CtV l yX3_putAll wsX3_putAll rmX3_putAllS E rs [.ref (E.2.1 80), .int p1] w q := by
  refine mkV (cc := cX3_putAll) (maxL := 2) (by decide) rfl (Nat.le_of_ble_eq_true rfl) ?_
  intro p e s m args below meth c Q S hW hQ ls hl
  obtain ⟨hx, hb, hml, hown, hts⟩ := id S
  have hW0 := hW
  have hS : va_S (wA E rs) s.heap s.heap [] := va_S.rf
  have hl : lv_has ls 2 [(0, .ref (E.2.1 80)), (1, .int p1)] := hl
  have iX3 : ∀ w ∈ wsX30, w ∈ wsX3_putAll := by decide +kernel
  have e9 := hts (.fieldLink RX3 9 "CubeHeaps$Lines" "columns" "[I") (by decide +kernel)
  have e15 := hts (.fieldLink RX3 15 "CubeHeaps$Lines" "rows" "[I") (by decide +kernel)
  unfold fX3_putAllS at h
  refine lv_aload_n hx hb dX3_putAll_0 rfl (lv_at hl 0 rfl) ?_
  refine rw_get hx hb hts iX3 hown hW (hrs 80 (by decide)) rfl rfl 0 (by decide) e9 rfl (v := .ref (E.2.1 81)) rfl dX3_putAll_1 ?_
  refine lv_iload_n hx hb dX3_putAll_4 rfl (lv_at hl 1 rfl) ?_
  refine rc_Sv (As := [.ref (E.2.1 81), .int p1]) (rest := []) S hW hS h (kJ7_fill_53178 l E rs 81 p1 (fun _ => (hrs 81 (by decide))) w) (va_cwS 2 hts gX3_putAll_J7_fill_53178 rfl rfl rfl hdJ7_fill_53178 ⟨Nat.le_of_ble_eq_true rfl, Nat.le_of_ble_eq_true rfl⟩) rfl hl.1 rfl (Nat.le_of_ble_eq_true rfl) ⟨Nat.zero_le _, Nat.zero_le _⟩ dX3_putAll_5 (fun _ w1 H locs h hW hS => ?_)
  refine lv_aload_n hx hb dX3_putAll_8 rfl (lv_at hl 0 rfl) ?_
  refine rw_get hx hb hts iX3 hown hW (hrs 80 (by decide)) rfl rfl 1 (by decide) e15 rfl (v := .ref (E.2.1 82)) rfl dX3_putAll_9 ?_
  refine lv_iload_n hx hb dX3_putAll_12 rfl (lv_at hl 1 rfl) ?_
  refine rc_Sv (As := [.ref (E.2.1 82), .int p1]) (rest := []) S hW hS h (kJ7_fill_53178 l E rs 82 p1 (fun _ => (hrs 82 (by decide))) w1) (va_cwS 2 hts gX3_putAll_J7_fill_53178 rfl rfl rfl hdJ7_fill_53178 ⟨Nat.le_of_ble_eq_true rfl, Nat.le_of_ble_eq_true rfl⟩) rfl hl.1 rfl (Nat.le_of_ble_eq_true rfl) ⟨Nat.zero_le _, Nat.zero_le _⟩ dX3_putAll_13 (fun _ w2 H locs h hW hS => ?_)
  exact rrV hQ hW hS h dX3_putAll_16
noncomputable def jX3_putT_15 (p1 : Int32) (p2 : Int32) (p3 : Int32) (s0 : Nat)  (w : Wd) : Option (Int32 × Wd) :=
  (gI w s0 p2).bind fun x1 => (sI w s0 p2 p3).bind fun w2 => some (x1, w2)
noncomputable def fX3_putT (p1 : Int32) (p2 : Int32) (p3 : Int32) (w : Wd) : Option (Int32 × Wd) :=
  if p1 = 0 then jX3_putT_15 p1 p2 p3 17 w else jX3_putT_15 p1 p2 p3 16 w
abbrev rmX3_putT : Room := { frames := 0, cells := 0, slots := 0, locals := 0 }
set_option maxHeartbeats 4000000 in
set_option maxRecDepth 100000 in
theorem kX3_putT (l : Launch) (E : Ev) (p1 : Int32) (p2 : Int32) (p3 : Int32) (w : Wd) (q : Int32 × Wd) (h : fX3_putT p1 p2 p3 w = some q) : CtI l yX3_put wsX3_put rmX3_putT E full [.ref (E.2.1 15), .int p1, .int p2, .int p3] w q := by
  refine mkI (cc := cX3_put) (maxL := 6) (by decide) rfl (Nat.le_of_ble_eq_true rfl) ?_
  intro p e s m args below meth c Q S hW hQ ls hl
  obtain ⟨hx, hb, hml, hown, hts⟩ := id S
  have hW0 := hW
  have hS : va_S (wA E full) s.heap s.heap [] := va_S.rf
  have hl : lv_has ls 6 [(0, .ref (E.2.1 15)), (1, .int p1), (2, .int p2), (3, .int p3)] := hl
  have iX3 : ∀ w ∈ wsX30, w ∈ wsX3_put := by decide +kernel
  have e9 := hts (.fieldLink RX3 9 "CubeHeaps$Lines" "columns" "[I") (by decide +kernel)
  have e15 := hts (.fieldLink RX3 15 "CubeHeaps$Lines" "rows" "[I") (by decide +kernel)
  have J15 : ∀ (s0 : Nat) (w : Wd) (H : Heap) (locs : List Loc) (ls : Array Slot), jX3_putT_15 p1 p2 p3 s0 w = some q → World E full w s H → va_S (wA E full) s.heap H locs → lv_has ls 6 [(2, .int p2), (3, .int p3)] → W p l e rmX3_putT s m args below meth c H locs 0 0 Q (F0 m 15 ls [.ref (E.2.1 s0)]) := by
    intro s0 w H locs ls h hW hS hl
    unfold jX3_putT_15 at h
    refine lv_astore (lv' := [(4, .ref (E.2.1 s0)), (2, .int p2), (3, .int p3)]) hx hb dX3_put_15 hl (by decide) rfl (fun ls hl => ?_)
    refine lv_aload hx hb dX3_put_17 (lv_at hl 0 rfl) ?_
    refine lv_iload_n hx hb dX3_put_19 rfl (lv_at hl 1 rfl) ?_
    refine rw_iald hx hb hW LI_full h dX3_put_20 (fun x1 h => ?_)
    refine lv_istore (lv' := [(5, .int x1), (4, .ref (E.2.1 s0)), (2, .int p2), (3, .int p3)]) hx hb dX3_put_21 hl (by decide) rfl (fun ls hl => ?_)
    refine lv_aload hx hb dX3_put_23 (lv_at hl 1 rfl) ?_
    refine lv_iload_n hx hb dX3_put_25 rfl (lv_at hl 2 rfl) ?_
    refine lv_iload_n hx hb dX3_put_26 rfl (lv_at hl 3 rfl) ?_
    refine rw_iast hx hb hW hS LI_full h dX3_put_27 (fun w2 H locs h hW hS => ?_)
    refine lv_iload hx hb dX3_put_28 (lv_at hl 0 rfl) ?_
    exact rrI hQ hW hS h dX3_put_30
  unfold fX3_putT at h
  refine lv_iload_n hx hb dX3_put_0 rfl (lv_at hl 1 rfl) ?_
  refine rb_if_eq (tgt := 11) hx hb h dX3_put_1 (by decide) (fun h => ?_) (fun h => ?_)
  · refine lv_aload_n hx hb dX3_put_11 rfl (lv_at hl 0 rfl) ?_
    refine rw_get hx hb hts iX3 hown hW (fl 15 rfl) rfl rfl 1 (by decide) e15 rfl (v := .ref (E.2.1 17)) rfl dX3_put_12 ?_
    exact J15 _ _ _ _ _ h hW hS (lv_sub hl [2, 3] rfl)
  · refine lv_aload_n hx hb dX3_put_4 rfl (lv_at hl 0 rfl) ?_
    refine rw_get hx hb hts iX3 hown hW (fl 15 rfl) rfl rfl 0 (by decide) e9 rfl (v := .ref (E.2.1 16)) rfl dX3_put_5 ?_
    refine lv_goto (tgt := 15) hx hb dX3_put_8 (by decide) ?_
    exact J15 _ _ _ _ _ h hW hS (lv_sub hl [2, 3] rfl)
noncomputable def jX3_putS_15 (p1 : Int32) (p2 : Int32) (p3 : Int32) (s0 : Nat)  (w : Wd) : Option (Int32 × Wd) :=
  (gI w s0 p2).bind fun x1 => (sI w s0 p2 p3).bind fun w2 => some (x1, w2)
noncomputable def fX3_putS (p1 : Int32) (p2 : Int32) (p3 : Int32) (w : Wd) : Option (Int32 × Wd) :=
  if p1 = 0 then jX3_putS_15 p1 p2 p3 82 w else jX3_putS_15 p1 p2 p3 81 w
abbrev rmX3_putS : Room := { frames := 0, cells := 0, slots := 0, locals := 0 }
set_option maxHeartbeats 4000000 in
set_option maxRecDepth 100000 in
theorem kX3_putS (l : Launch) (E : Ev) (p1 : Int32) (p2 : Int32) (p3 : Int32) (w : Wd) (q : Int32 × Wd) (h : fX3_putS p1 p2 p3 w = some q) : CtI l yX3_put wsX3_put rmX3_putS E full [.ref (E.2.1 80), .int p1, .int p2, .int p3] w q := by
  refine mkI (cc := cX3_put) (maxL := 6) (by decide) rfl (Nat.le_of_ble_eq_true rfl) ?_
  intro p e s m args below meth c Q S hW hQ ls hl
  obtain ⟨hx, hb, hml, hown, hts⟩ := id S
  have hW0 := hW
  have hS : va_S (wA E full) s.heap s.heap [] := va_S.rf
  have hl : lv_has ls 6 [(0, .ref (E.2.1 80)), (1, .int p1), (2, .int p2), (3, .int p3)] := hl
  have iX3 : ∀ w ∈ wsX30, w ∈ wsX3_put := by decide +kernel
  have e9 := hts (.fieldLink RX3 9 "CubeHeaps$Lines" "columns" "[I") (by decide +kernel)
  have e15 := hts (.fieldLink RX3 15 "CubeHeaps$Lines" "rows" "[I") (by decide +kernel)
  have J15 : ∀ (s0 : Nat) (w : Wd) (H : Heap) (locs : List Loc) (ls : Array Slot), jX3_putS_15 p1 p2 p3 s0 w = some q → World E full w s H → va_S (wA E full) s.heap H locs → lv_has ls 6 [(2, .int p2), (3, .int p3)] → W p l e rmX3_putS s m args below meth c H locs 0 0 Q (F0 m 15 ls [.ref (E.2.1 s0)]) := by
    intro s0 w H locs ls h hW hS hl
    unfold jX3_putS_15 at h
    refine lv_astore (lv' := [(4, .ref (E.2.1 s0)), (2, .int p2), (3, .int p3)]) hx hb dX3_put_15 hl (by decide) rfl (fun ls hl => ?_)
    refine lv_aload hx hb dX3_put_17 (lv_at hl 0 rfl) ?_
    refine lv_iload_n hx hb dX3_put_19 rfl (lv_at hl 1 rfl) ?_
    refine rw_iald hx hb hW LI_full h dX3_put_20 (fun x1 h => ?_)
    refine lv_istore (lv' := [(5, .int x1), (4, .ref (E.2.1 s0)), (2, .int p2), (3, .int p3)]) hx hb dX3_put_21 hl (by decide) rfl (fun ls hl => ?_)
    refine lv_aload hx hb dX3_put_23 (lv_at hl 1 rfl) ?_
    refine lv_iload_n hx hb dX3_put_25 rfl (lv_at hl 2 rfl) ?_
    refine lv_iload_n hx hb dX3_put_26 rfl (lv_at hl 3 rfl) ?_
    refine rw_iast hx hb hW hS LI_full h dX3_put_27 (fun w2 H locs h hW hS => ?_)
    refine lv_iload hx hb dX3_put_28 (lv_at hl 0 rfl) ?_
    exact rrI hQ hW hS h dX3_put_30
  unfold fX3_putS at h
  refine lv_iload_n hx hb dX3_put_0 rfl (lv_at hl 1 rfl) ?_
  refine rb_if_eq (tgt := 11) hx hb h dX3_put_1 (by decide) (fun h => ?_) (fun h => ?_)
  · refine lv_aload_n hx hb dX3_put_11 rfl (lv_at hl 0 rfl) ?_
    refine rw_get hx hb hts iX3 hown hW (fl 80 rfl) rfl rfl 1 (by decide) e15 rfl (v := .ref (E.2.1 82)) rfl dX3_put_12 ?_
    exact J15 _ _ _ _ _ h hW hS (lv_sub hl [2, 3] rfl)
  · refine lv_aload_n hx hb dX3_put_4 rfl (lv_at hl 0 rfl) ?_
    refine rw_get hx hb hts iX3 hown hW (fl 80 rfl) rfl rfl 0 (by decide) e9 rfl (v := .ref (E.2.1 81)) rfl dX3_put_5 ?_
    refine lv_goto (tgt := 15) hx hb dX3_put_8 (by decide) ?_
    exact J15 _ _ _ _ _ h hW hS (lv_sub hl [2, 3] rfl)
noncomputable def fX4_forget  (w : Wd) : Option (Unit × Wd) :=
  bnd (fX3_putAllS (0 : Int32) w) fun _ w1 => some ((), w1)
abbrev rmX4_forget : Room := { frames := 2, cells := 0, slots := 0, locals := 44 }
set_option maxHeartbeats 4000000 in
set_option maxRecDepth 100000 in
theorem kX4_forget (l : Launch) (E : Ev)  (w : Wd) (q : Unit × Wd) (h : fX4_forget w = some q) : CtV l yX4_forget wsX4_forget rmX4_forget E full [.ref (E.2.1 79)] w q := by
  refine mkV (cc := cX4_forget) (maxL := 1) (by decide) rfl (Nat.le_of_ble_eq_true rfl) ?_
  intro p e s m args below meth c Q S hW hQ ls hl
  obtain ⟨hx, hb, hml, hown, hts⟩ := id S
  have hW0 := hW
  have hS : va_S (wA E full) s.heap s.heap [] := va_S.rf
  have hl : lv_has ls 1 [(0, .ref (E.2.1 79))] := hl
  have iX4 : ∀ w ∈ wsX40, w ∈ wsX4_forget := by decide +kernel
  have e12 := hts (.fieldLink RX4 12 "CubeHeaps$Sums" "wanted" "LCubeHeaps$Lines;") (by decide +kernel)
  unfold fX4_forget at h
  refine lv_aload_n hx hb dX4_forget_0 rfl (lv_at hl 0 rfl) ?_
  refine rw_get hx hb hts iX4 hown hW (fl 79 rfl) rfl rfl 2 (by decide) e12 rfl (v := .ref (E.2.1 80)) rfl dX4_forget_1 ?_
  refine lv_iconst (v := (0 : Int32)) hx hb dX4_forget_4 (by decide) ?_
  refine rc_Vv (k := 80) (As := [.int (0 : Int32)]) (rest := []) S hW hS h (kX3_putAllS l E full (by decide) (0 : Int32) w) (cwV 1 hts gX4_forget_X3_putAll rfl rfl rfl hdX3_putAll ⟨Nat.le_of_ble_eq_true rfl, Nat.le_of_ble_eq_true rfl⟩) (fl 80 rfl) rfl rfl rfl rfl hl.1 rfl (Nat.le_of_ble_eq_true rfl) ⟨Nat.zero_le _, Nat.zero_le _⟩ dX4_forget_5 (fun _ w1 H locs h hW hS => ?_)
  exact rrV hQ hW hS h dX4_forget_8
noncomputable def fX4_put (p1 : Int32) (p2 : Int32) (p3 : Int32) (w : Wd) : Option (Int32 × Wd) :=
  bnd (fX3_putS p1 p2 p3 w) fun x1 w2 => some (x1, w2)
abbrev rmX4_put : Room := { frames := 1, cells := 0, slots := 0, locals := 25 }
set_option maxHeartbeats 4000000 in
set_option maxRecDepth 100000 in
theorem kX4_put (l : Launch) (E : Ev) (p1 : Int32) (p2 : Int32) (p3 : Int32) (w : Wd) (q : Int32 × Wd) (h : fX4_put p1 p2 p3 w = some q) : CtI l yX4_put wsX4_put rmX4_put E full [.ref (E.2.1 79), .int p1, .int p2, .int p3] w q := by
  refine mkI (cc := cX4_put) (maxL := 4) (by decide) rfl (Nat.le_of_ble_eq_true rfl) ?_
  intro p e s m args below meth c Q S hW hQ ls hl
  obtain ⟨hx, hb, hml, hown, hts⟩ := id S
  have hW0 := hW
  have hS : va_S (wA E full) s.heap s.heap [] := va_S.rf
  have hl : lv_has ls 4 [(0, .ref (E.2.1 79)), (1, .int p1), (2, .int p2), (3, .int p3)] := hl
  have iX4 : ∀ w ∈ wsX40, w ∈ wsX4_put := by decide +kernel
  have e12 := hts (.fieldLink RX4 12 "CubeHeaps$Sums" "wanted" "LCubeHeaps$Lines;") (by decide +kernel)
  unfold fX4_put at h
  refine lv_aload_n hx hb dX4_put_0 rfl (lv_at hl 0 rfl) ?_
  refine rw_get hx hb hts iX4 hown hW (fl 79 rfl) rfl rfl 2 (by decide) e12 rfl (v := .ref (E.2.1 80)) rfl dX4_put_1 ?_
  refine lv_iload_n hx hb dX4_put_4 rfl (lv_at hl 1 rfl) ?_
  refine lv_iload_n hx hb dX4_put_5 rfl (lv_at hl 2 rfl) ?_
  refine lv_iload_n hx hb dX4_put_6 rfl (lv_at hl 3 rfl) ?_
  refine rc_Vi (k := 80) (As := [.int p1, .int p2, .int p3]) (rest := []) S hW hS h (kX3_putS l E p1 p2 p3 w) (cwV 3 hts gX4_put_X3_put rfl rfl rfl hdX3_put ⟨Nat.le_of_ble_eq_true rfl, Nat.le_of_ble_eq_true rfl⟩) (fl 80 rfl) rfl rfl rfl rfl hl.1 rfl (Nat.le_of_ble_eq_true rfl) ⟨Nat.zero_le _, Nat.zero_le _⟩ dX4_put_7 (fun x1 w2 H locs h hW hS => ?_)
  exact rrI hQ hW hS h dX4_put_10
noncomputable def bX4_takeLines_2 (p1 : Nat) (p2 : Int32) (k2 : Int32 → Wd → Option (Unit × Wd)) (v3 : Int32)  (w : Wd) : Option (Unit × Wd) :=
  bnd (fX2_lines p2 w) fun x1 w2 => if x1 ≤ v3 then some ((), w2) else bnd (fX2_lineTotal p1 p2 v3 w2) fun x3 w4 => bnd (fX4_put p2 v3 x3 w4) fun x5 w6 => k2 (v3 + (1 : Int32)) w6
noncomputable def fX4_takeLines (p1 : Nat) (p2 : Int32) (w : Wd) : Option (Unit × Wd) :=
  lp (fun _ _ => none) (bX4_takeLines_2 p1 p2) G (0 : Int32) w
abbrev rmX4_takeLines : Room := { frames := 2, cells := 0, slots := 0, locals := 48 }
set_option maxHeartbeats 4000000 in
set_option maxRecDepth 100000 in
theorem kX4_takeLines (l : Launch) (E : Ev) (p1 : Nat) (p2 : Int32) (w : Wd) (q : Unit × Wd) (h : fX4_takeLines p1 p2 w = some q) : CtV l yX4_takeLines wsX4_takeLines rmX4_takeLines E full [.ref (E.2.1 79), .ref (E.2.1 p1), .int p2] w q := by
  refine mkV (cc := cX4_takeLines) (maxL := 4) (by decide) rfl (Nat.le_of_ble_eq_true rfl) ?_
  intro p e s m args below meth c Q S hW hQ ls hl
  obtain ⟨hx, hb, hml, hown, hts⟩ := id S
  have hW0 := hW
  have hS : va_S (wA E full) s.heap s.heap [] := va_S.rf
  have hl : lv_has ls 4 [(0, .ref (E.2.1 79)), (1, .ref (E.2.1 p1)), (2, .int p2)] := hl
  have iX4 : ∀ w ∈ wsX40, w ∈ wsX4_takeLines := by decide +kernel
  have e40 := hts (.fieldLink RX4 40 "CubeHeaps$Sums" "ground" "LCubeHeaps$Ground;") (by decide +kernel)
  have J2 : ∀ (n : Nat) (v3 : Int32) (w : Wd) (H : Heap) (locs : List Loc) (ls : Array Slot), lp (fun _ _ => none) (bX4_takeLines_2 p1 p2) n v3 w = some q → World E full w s H → va_S (wA E full) s.heap H locs → lv_has ls 4 [(0, .ref (E.2.1 79)), (1, .ref (E.2.1 p1)), (2, .int p2), (3, .int v3)] → W p l e rmX4_takeLines s m args below meth c H locs 0 0 Q (F0 m 2 ls []) := by
    intro n
    induction n with
    | zero =>
      intro v3 w H locs ls h hW hS hl
      exact absurd (show (none : Option (Unit × Wd)) = some q from h) (fun z => by cases z)
    | succ n ih2 =>
      intro v3 w H locs ls h hW hS hl
      have h : bX4_takeLines_2 p1 p2 (lp (fun _ _ => none) (bX4_takeLines_2 p1 p2) n) v3 w = some q := h
      generalize lp (fun _ _ => none) (bX4_takeLines_2 p1 p2) n = k2 at h ih2
      unfold bX4_takeLines_2 at h
      refine lv_iload_n hx hb dX4_takeLines_2 rfl (lv_at hl 3 rfl) ?_
      refine lv_aload_n hx hb dX4_takeLines_3 rfl (lv_at hl 0 rfl) ?_
      refine rw_get hx hb hts iX4 hown hW (fl 79 rfl) rfl rfl 0 (by decide) e40 rfl (v := .ref (E.2.1 1)) rfl dX4_takeLines_4 ?_
      refine lv_iload_n hx hb dX4_takeLines_7 rfl (lv_at hl 2 rfl) ?_
      refine rc_Vi (k := 1) (As := [.int p2]) (rest := [.int v3]) S hW hS h (kX2_lines l E p2 w) (cwV 1 hts gX4_takeLines_X2_lines rfl rfl rfl hdX2_lines ⟨Nat.le_of_ble_eq_true rfl, Nat.le_of_ble_eq_true rfl⟩) (fl 1 rfl) rfl rfl rfl rfl hl.1 rfl (Nat.le_of_ble_eq_true rfl) ⟨Nat.zero_le _, Nat.zero_le _⟩ dX4_takeLines_8 (fun x1 w2 H locs h hW hS => ?_)
      refine rb_icmp_ge (tgt := 37) hx hb h dX4_takeLines_11 (by decide) (fun h => ?_) (fun h => ?_)
      · exact rrV hQ hW hS h dX4_takeLines_37
      · refine lv_aload_n hx hb dX4_takeLines_14 rfl (lv_at hl 0 rfl) ?_
        refine lv_iload_n hx hb dX4_takeLines_15 rfl (lv_at hl 2 rfl) ?_
        refine lv_iload_n hx hb dX4_takeLines_16 rfl (lv_at hl 3 rfl) ?_
        refine lv_aload_n hx hb dX4_takeLines_17 rfl (lv_at hl 0 rfl) ?_
        refine rw_get hx hb hts iX4 hown hW (fl 79 rfl) rfl rfl 0 (by decide) e40 rfl (v := .ref (E.2.1 1)) rfl dX4_takeLines_18 ?_
        refine lv_aload_n hx hb dX4_takeLines_21 rfl (lv_at hl 1 rfl) ?_
        refine lv_iload_n hx hb dX4_takeLines_22 rfl (lv_at hl 2 rfl) ?_
        refine lv_iload_n hx hb dX4_takeLines_23 rfl (lv_at hl 3 rfl) ?_
        refine rc_Vi (k := 1) (As := [.ref (E.2.1 p1), .int p2, .int v3]) (rest := [.int v3, .int p2, .ref (E.2.1 79)]) S hW hS h (kX2_lineTotal l E p1 p2 v3 w2) (cwV 3 hts gX4_takeLines_X2_lineTotal rfl rfl rfl hdX2_lineTotal ⟨Nat.le_of_ble_eq_true rfl, Nat.le_of_ble_eq_true rfl⟩) (fl 1 rfl) rfl rfl rfl rfl hl.1 rfl (Nat.le_of_ble_eq_true rfl) ⟨Nat.zero_le _, Nat.zero_le _⟩ dX4_takeLines_24 (fun x3 w4 H locs h hW hS => ?_)
        refine rc_Vi (k := 79) (As := [.int p2, .int v3, .int x3]) (rest := []) S hW hS h (kX4_put l E p2 v3 x3 w4) (cwV 3 hts gX4_takeLines_X4_put rfl rfl rfl hdX4_put ⟨Nat.le_of_ble_eq_true rfl, Nat.le_of_ble_eq_true rfl⟩) (fl 79 rfl) rfl rfl rfl rfl hl.1 rfl (Nat.le_of_ble_eq_true rfl) ⟨Nat.zero_le _, Nat.zero_le _⟩ dX4_takeLines_27 (fun x5 w6 H locs h hW hS => ?_)
        refine lv_pop hx hb dX4_takeLines_30 rfl ?_
        refine lv_iinc (v := (v3 + (1 : Int32))) (lv' := [(3, .int (v3 + (1 : Int32))), (0, .ref (E.2.1 79)), (1, .ref (E.2.1 p1)), (2, .int p2)]) hx hb dX4_takeLines_31 hl (k := 3) rfl rfl (by decide) rfl (fun ls hl => ?_)
        refine lv_goto (tgt := 2) hx hb dX4_takeLines_34 (by decide) ?_
        exact ih2 _ _ _ _ _ h hW hS (lv_sub hl [1, 2, 3, 0] rfl)
  unfold fX4_takeLines at h
  refine lv_iconst (v := (0 : Int32)) hx hb dX4_takeLines_0 (by decide) ?_
  refine lv_istore_n (lv' := [(3, .int (0 : Int32)), (0, .ref (E.2.1 79)), (1, .ref (E.2.1 p1)), (2, .int p2)]) hx hb dX4_takeLines_1 rfl hl (by decide) rfl (fun ls hl => ?_)
  exact J2 _ _ _ _ _ _ h hW hS (lv_sub hl [1, 2, 3, 0] rfl)
noncomputable def fX4_takeFrom (p1 : Nat) (w : Wd) : Option (Unit × Wd) :=
  bnd (fX4_takeLines p1 (1 : Int32) w) fun _ w1 => bnd (fX4_takeLines p1 (0 : Int32) w1) fun _ w2 => some ((), w2)
abbrev rmX4_takeFrom : Room := { frames := 3, cells := 0, slots := 0, locals := 71 }
set_option maxHeartbeats 4000000 in
set_option maxRecDepth 100000 in
theorem kX4_takeFrom (l : Launch) (E : Ev) (p1 : Nat) (w : Wd) (q : Unit × Wd) (h : fX4_takeFrom p1 w = some q) : CtV l yX4_takeFrom wsX4_takeFrom rmX4_takeFrom E full [.ref (E.2.1 79), .ref (E.2.1 p1)] w q := by
  refine mkV (cc := cX4_takeFrom) (maxL := 2) (by decide) rfl (Nat.le_of_ble_eq_true rfl) ?_
  intro p e s m args below meth c Q S hW hQ ls hl
  obtain ⟨hx, hb, hml, hown, hts⟩ := id S
  have hW0 := hW
  have hS : va_S (wA E full) s.heap s.heap [] := va_S.rf
  have hl : lv_has ls 2 [(0, .ref (E.2.1 79)), (1, .ref (E.2.1 p1))] := hl
  unfold fX4_takeFrom at h
  refine lv_aload_n hx hb dX4_takeFrom_0 rfl (lv_at hl 0 rfl) ?_
  refine lv_aload_n hx hb dX4_takeFrom_1 rfl (lv_at hl 1 rfl) ?_
  refine lv_iconst (v := (1 : Int32)) hx hb dX4_takeFrom_2 (by decide) ?_
  refine rc_Vv (k := 79) (As := [.ref (E.2.1 p1), .int (1 : Int32)]) (rest := []) S hW hS h (kX4_takeLines l E p1 (1 : Int32) w) (cwV 2 hts gX4_takeFrom_X4_takeLines rfl rfl rfl hdX4_takeLines ⟨Nat.le_of_ble_eq_true rfl, Nat.le_of_ble_eq_true rfl⟩) (fl 79 rfl) rfl rfl rfl rfl hl.1 rfl (Nat.le_of_ble_eq_true rfl) ⟨Nat.zero_le _, Nat.zero_le _⟩ dX4_takeFrom_3 (fun _ w1 H locs h hW hS => ?_)
  refine lv_aload_n hx hb dX4_takeFrom_6 rfl (lv_at hl 0 rfl) ?_
  refine lv_aload_n hx hb dX4_takeFrom_7 rfl (lv_at hl 1 rfl) ?_
  refine lv_iconst (v := (0 : Int32)) hx hb dX4_takeFrom_8 (by decide) ?_
  refine rc_Vv (k := 79) (As := [.ref (E.2.1 p1), .int (0 : Int32)]) (rest := []) S hW hS h (kX4_takeLines l E p1 (0 : Int32) w1) (cwV 2 hts gX4_takeFrom_X4_takeLines rfl rfl rfl hdX4_takeLines ⟨Nat.le_of_ble_eq_true rfl, Nat.le_of_ble_eq_true rfl⟩) (fl 79 rfl) rfl rfl rfl rfl hl.1 rfl (Nat.le_of_ble_eq_true rfl) ⟨Nat.zero_le _, Nat.zero_le _⟩ dX4_takeFrom_9 (fun _ w2 H locs h hW hS => ?_)
  exact rrV hQ hW hS h dX4_takeFrom_12
noncomputable def jX4_startLow_57 (k2 : Int32 → Wd → Option (Unit × Wd)) (v1 : Int32) (s0 : Int32) (s1 : Int32)  (w : Wd) : Option (Unit × Wd) :=
  (sI w 85 s1 s0).bind fun w8 => (gI w8 84 v1).bind fun x9 => (sI w8 83 v1 x9).bind fun w10 => k2 (v1 + (1 : Int32)) w10
noncomputable def jX4_startLow_35 (k2 : Int32 → Wd → Option (Unit × Wd)) (v1 : Int32) (s0 : Int32) (s1 : Int32)  (w : Wd) : Option (Unit × Wd) :=
  (sI w 84 s1 s0).bind fun w5 => bnd (fX5_top v1 w5) fun x6 w7 => if x6 = 0 then jX4_startLow_57 k2 v1 (0 : Int32) v1 w7 else jX4_startLow_57 k2 v1 (4 : Int32) v1 w7
noncomputable def bX4_startLow_2 (k2 : Int32 → Wd → Option (Unit × Wd)) (v1 : Int32)  (w : Wd) : Option (Unit × Wd) :=
  bnd (fX2_cells w) fun x1 w2 => if x1 ≤ v1 then some ((), w2) else bnd (fX5_top v1 w2) fun x3 w4 => if x3 = (1 : Int32) then jX4_startLow_35 k2 v1 (1 : Int32) v1 w4 else jX4_startLow_35 k2 v1 (0 : Int32) v1 w4
noncomputable def fX4_startLow  (w : Wd) : Option (Unit × Wd) :=
  lp (fun _ _ => none) (bX4_startLow_2) G (0 : Int32) w
abbrev rmX4_startLow : Room := { frames := 1, cells := 0, slots := 0, locals := 21 }
set_option maxHeartbeats 4000000 in
set_option maxRecDepth 100000 in
theorem kX4_startLow (l : Launch) (E : Ev)  (w : Wd) (q : Unit × Wd) (h : fX4_startLow w = some q) : CtV l yX4_startLow wsX4_startLow rmX4_startLow E full [.ref (E.2.1 79)] w q := by
  refine mkV (cc := cX4_startLow) (maxL := 2) (by decide) rfl (Nat.le_of_ble_eq_true rfl) ?_
  intro p e s m args below meth c Q S hW hQ ls hl
  obtain ⟨hx, hb, hml, hown, hts⟩ := id S
  have hW0 := hW
  have hS : va_S (wA E full) s.heap s.heap [] := va_S.rf
  have hl : lv_has ls 2 [(0, .ref (E.2.1 79))] := hl
  have iX4 : ∀ w ∈ wsX40, w ∈ wsX4_startLow := by decide +kernel
  have e18 := hts (.fieldLink RX4 18 "CubeHeaps$Sums" "made" "[I") (by decide +kernel)
  have e22 := hts (.fieldLink RX4 22 "CubeHeaps$Sums" "low" "[I") (by decide +kernel)
  have e25 := hts (.fieldLink RX4 25 "CubeHeaps$Sums" "high" "[I") (by decide +kernel)
  have e40 := hts (.fieldLink RX4 40 "CubeHeaps$Sums" "ground" "LCubeHeaps$Ground;") (by decide +kernel)
  have e44 := hts (.fieldLink RX4 44 "CubeHeaps$Sums" "told" "LCubeHeaps$Told;") (by decide +kernel)
  have J2 : ∀ (n : Nat) (v1 : Int32) (w : Wd) (H : Heap) (locs : List Loc) (ls : Array Slot), lp (fun _ _ => none) (bX4_startLow_2) n v1 w = some q → World E full w s H → va_S (wA E full) s.heap H locs → lv_has ls 2 [(0, .ref (E.2.1 79)), (1, .int v1)] → W p l e rmX4_startLow s m args below meth c H locs 0 0 Q (F0 m 2 ls []) := by
    intro n
    induction n with
    | zero =>
      intro v1 w H locs ls h hW hS hl
      exact absurd (show (none : Option (Unit × Wd)) = some q from h) (fun z => by cases z)
    | succ n ih2 =>
      intro v1 w H locs ls h hW hS hl
      have h : bX4_startLow_2 (lp (fun _ _ => none) (bX4_startLow_2) n) v1 w = some q := h
      generalize lp (fun _ _ => none) (bX4_startLow_2) n = k2 at h ih2
      have J57 : ∀ (v1 : Int32) (s0 : Int32) (s1 : Int32) (w : Wd) (H : Heap) (locs : List Loc) (ls : Array Slot), jX4_startLow_57 k2 v1 s0 s1 w = some q → World E full w s H → va_S (wA E full) s.heap H locs → lv_has ls 2 [(0, .ref (E.2.1 79)), (1, .int v1)] → W p l e rmX4_startLow s m args below meth c H locs 0 0 Q (F0 m 57 ls [.int s0, .int s1, .ref (E.2.1 85)]) := by
        intro v1 s0 s1 w H locs ls h hW hS hl
        unfold jX4_startLow_57 at h
        refine rw_iast hx hb hW hS (fun _ => (fl 85 rfl)) h dX4_startLow_57 (fun w8 H locs h hW hS => ?_)
        refine lv_aload_n hx hb dX4_startLow_58 rfl (lv_at hl 0 rfl) ?_
        refine rw_get hx hb hts iX4 hown hW (fl 79 rfl) rfl rfl 3 (by decide) e18 rfl (v := .ref (E.2.1 83)) rfl dX4_startLow_59 ?_
        refine lv_iload_n hx hb dX4_startLow_62 rfl (lv_at hl 1 rfl) ?_
        refine lv_aload_n hx hb dX4_startLow_63 rfl (lv_at hl 0 rfl) ?_
        refine rw_get hx hb hts iX4 hown hW (fl 79 rfl) rfl rfl 4 (by decide) e22 rfl (v := .ref (E.2.1 84)) rfl dX4_startLow_64 ?_
        refine lv_iload_n hx hb dX4_startLow_67 rfl (lv_at hl 1 rfl) ?_
        refine rw_iald hx hb hW (fun _ => (fl 84 rfl)) h dX4_startLow_68 (fun x9 h => ?_)
        refine rw_iast hx hb hW hS (fun _ => (fl 83 rfl)) h dX4_startLow_69 (fun w10 H locs h hW hS => ?_)
        refine lv_iinc (v := (v1 + (1 : Int32))) (lv' := [(1, .int (v1 + (1 : Int32))), (0, .ref (E.2.1 79))]) hx hb dX4_startLow_70 hl (k := 1) rfl rfl (by decide) rfl (fun ls hl => ?_)
        refine lv_goto (tgt := 2) hx hb dX4_startLow_73 (by decide) ?_
        exact ih2 _ _ _ _ _ h hW hS (lv_sub hl [1, 0] rfl)
      have J35 : ∀ (v1 : Int32) (s0 : Int32) (s1 : Int32) (w : Wd) (H : Heap) (locs : List Loc) (ls : Array Slot), jX4_startLow_35 k2 v1 s0 s1 w = some q → World E full w s H → va_S (wA E full) s.heap H locs → lv_has ls 2 [(0, .ref (E.2.1 79)), (1, .int v1)] → W p l e rmX4_startLow s m args below meth c H locs 0 0 Q (F0 m 35 ls [.int s0, .int s1, .ref (E.2.1 84)]) := by
        intro v1 s0 s1 w H locs ls h hW hS hl
        unfold jX4_startLow_35 at h
        refine rw_iast hx hb hW hS (fun _ => (fl 84 rfl)) h dX4_startLow_35 (fun w5 H locs h hW hS => ?_)
        refine lv_aload_n hx hb dX4_startLow_36 rfl (lv_at hl 0 rfl) ?_
        refine rw_get hx hb hts iX4 hown hW (fl 79 rfl) rfl rfl 5 (by decide) e25 rfl (v := .ref (E.2.1 85)) rfl dX4_startLow_37 ?_
        refine lv_iload_n hx hb dX4_startLow_40 rfl (lv_at hl 1 rfl) ?_
        refine lv_aload_n hx hb dX4_startLow_41 rfl (lv_at hl 0 rfl) ?_
        refine rw_get hx hb hts iX4 hown hW (fl 79 rfl) rfl rfl 1 (by decide) e44 rfl (v := .ref (E.2.1 14)) rfl dX4_startLow_42 ?_
        refine lv_iload_n hx hb dX4_startLow_45 rfl (lv_at hl 1 rfl) ?_
        refine rc_Vi (k := 14) (As := [.int v1]) (rest := [.int v1, .ref (E.2.1 85)]) S hW hS h (kX5_top l E v1 w5) (cwV 1 hts gX4_startLow_X5_top rfl rfl rfl hdX5_top ⟨Nat.le_of_ble_eq_true rfl, Nat.le_of_ble_eq_true rfl⟩) (fl 14 rfl) rfl rfl rfl rfl hl.1 rfl (Nat.le_of_ble_eq_true rfl) ⟨Nat.zero_le _, Nat.zero_le _⟩ dX4_startLow_46 (fun x6 w7 H locs h hW hS => ?_)
        refine rb_if_ne (tgt := 56) hx hb h dX4_startLow_49 (by decide) (fun h => ?_) (fun h => ?_)
        · refine lv_iconst (v := (4 : Int32)) hx hb dX4_startLow_56 (by decide) ?_
          exact J57 _ _ _ _ _ _ _ h hW hS (hl)
        · refine lv_iconst (v := (0 : Int32)) hx hb dX4_startLow_52 (by decide) ?_
          refine lv_goto (tgt := 57) hx hb dX4_startLow_53 (by decide) ?_
          exact J57 _ _ _ _ _ _ _ h hW hS (hl)
      unfold bX4_startLow_2 at h
      refine lv_iload_n hx hb dX4_startLow_2 rfl (lv_at hl 1 rfl) ?_
      refine lv_aload_n hx hb dX4_startLow_3 rfl (lv_at hl 0 rfl) ?_
      refine rw_get hx hb hts iX4 hown hW (fl 79 rfl) rfl rfl 0 (by decide) e40 rfl (v := .ref (E.2.1 1)) rfl dX4_startLow_4 ?_
      refine rc_Vi (k := 1) (As := []) (rest := [.int v1]) S hW hS h (kX2_cells l E  w) (cwV 0 hts gX4_startLow_X2_cells rfl rfl rfl hdX2_cells ⟨Nat.le_of_ble_eq_true rfl, Nat.le_of_ble_eq_true rfl⟩) (fl 1 rfl) rfl rfl rfl rfl hl.1 rfl (Nat.le_of_ble_eq_true rfl) ⟨Nat.zero_le _, Nat.zero_le _⟩ dX4_startLow_7 (fun x1 w2 H locs h hW hS => ?_)
      refine rb_icmp_ge (tgt := 76) hx hb h dX4_startLow_10 (by decide) (fun h => ?_) (fun h => ?_)
      · exact rrV hQ hW hS h dX4_startLow_76
      · refine lv_aload_n hx hb dX4_startLow_13 rfl (lv_at hl 0 rfl) ?_
        refine rw_get hx hb hts iX4 hown hW (fl 79 rfl) rfl rfl 4 (by decide) e22 rfl (v := .ref (E.2.1 84)) rfl dX4_startLow_14 ?_
        refine lv_iload_n hx hb dX4_startLow_17 rfl (lv_at hl 1 rfl) ?_
        refine lv_aload_n hx hb dX4_startLow_18 rfl (lv_at hl 0 rfl) ?_
        refine rw_get hx hb hts iX4 hown hW (fl 79 rfl) rfl rfl 1 (by decide) e44 rfl (v := .ref (E.2.1 14)) rfl dX4_startLow_19 ?_
        refine lv_iload_n hx hb dX4_startLow_22 rfl (lv_at hl 1 rfl) ?_
        refine rc_Vi (k := 14) (As := [.int v1]) (rest := [.int v1, .ref (E.2.1 84)]) S hW hS h (kX5_top l E v1 w2) (cwV 1 hts gX4_startLow_X5_top rfl rfl rfl hdX5_top ⟨Nat.le_of_ble_eq_true rfl, Nat.le_of_ble_eq_true rfl⟩) (fl 14 rfl) rfl rfl rfl rfl hl.1 rfl (Nat.le_of_ble_eq_true rfl) ⟨Nat.zero_le _, Nat.zero_le _⟩ dX4_startLow_23 (fun x3 w4 H locs h hW hS => ?_)
        refine lv_iconst (v := (1 : Int32)) hx hb dX4_startLow_26 (by decide) ?_
        refine rb_icmp_ne (tgt := 34) hx hb h dX4_startLow_27 (by decide) (fun h => ?_) (fun h => ?_)
        · refine lv_iconst (v := (0 : Int32)) hx hb dX4_startLow_34 (by decide) ?_
          exact J35 _ _ _ _ _ _ _ h hW hS (hl)
        · refine lv_iconst (v := (1 : Int32)) hx hb dX4_startLow_30 (by decide) ?_
          refine lv_goto (tgt := 35) hx hb dX4_startLow_31 (by decide) ?_
          exact J35 _ _ _ _ _ _ _ h hW hS (hl)
  unfold fX4_startLow at h
  refine lv_iconst (v := (0 : Int32)) hx hb dX4_startLow_0 (by decide) ?_
  refine lv_istore_n (lv' := [(1, .int (0 : Int32)), (0, .ref (E.2.1 79))]) hx hb dX4_startLow_1 rfl hl (by decide) rfl (fun ls hl => ?_)
  exact J2 _ _ _ _ _ _ h hW hS (lv_sub hl [1, 0] rfl)
