noncomputable def bX7_lowestBeside_4 (p1 : Int32) (k4 : Int32 → Int32 → Wd → Option (Int32 × Wd)) (v2 : Int32) (v3 : Int32)  (w : Wd) : Option (Int32 × Wd) :=
  if (4 : Int32) ≤ v3 then some (v2, w) else bnd (fX7_valueBeside 11 p1 v3 w) fun x1 w2 => k4 (if x1 < v2 then x1 else v2) (v3 + (1 : Int32)) w2
noncomputable def fX7_lowestBeside (p1 : Int32) (w : Wd) : Option (Int32 × Wd) :=
  lp (fun _ _ _ => none) (bX7_lowestBeside_4 p1) G (4 : Int32) (0 : Int32) w
abbrev rmX7_lowestBeside : Room := { frames := 2, cells := 0, slots := 0, locals := 46 }
set_option maxHeartbeats 4000000 in
set_option maxRecDepth 100000 in
theorem kX7_lowestBeside (l : Launch) (E : Ev) (p1 : Int32) (w : Wd) (q : Int32 × Wd) (h : fX7_lowestBeside p1 w = some q) : CtI l yX7_lowestBeside wsX7_lowestBeside rmX7_lowestBeside E full [.ref (E.2.1 10), .int p1] w q := by
  refine mkI (cc := cX7_lowestBeside) (maxL := 4) (by decide) rfl (Nat.le_of_ble_eq_true rfl) ?_
  intro p e s m args below meth c Q S hW hQ ls hl
  obtain ⟨hx, hb, hml, hown, hts⟩ := id S
  have hW0 := hW
  have hS : va_S (wA E full) s.heap s.heap [] := va_S.rf
  have hl : lv_has ls 4 [(0, .ref (E.2.1 10)), (1, .int p1)] := hl
  have iX7 : ∀ w ∈ wsX70, w ∈ wsX7_lowestBeside := by decide +kernel
  have e9 := hts (.fieldLink RX7 9 "CubeHeaps$View" "levels" "[I") (by decide +kernel)
  have J4 : ∀ (n : Nat) (v2 : Int32) (v3 : Int32) (w : Wd) (H : Heap) (locs : List Loc) (ls : Array Slot), lp (fun _ _ _ => none) (bX7_lowestBeside_4 p1) n v2 v3 w = some q → World E full w s H → va_S (wA E full) s.heap H locs → lv_has ls 4 [(0, .ref (E.2.1 10)), (1, .int p1), (2, .int v2), (3, .int v3)] → W p l e rmX7_lowestBeside s m args below meth c H locs 0 0 Q (F0 m 4 ls []) := by
    intro n
    induction n with
    | zero =>
      intro v2 v3 w H locs ls h hW hS hl
      exact absurd (show (none : Option (Int32 × Wd)) = some q from h) (fun z => by cases z)
    | succ n ih4 =>
      intro v2 v3 w H locs ls h hW hS hl
      have h : bX7_lowestBeside_4 p1 (lp (fun _ _ _ => none) (bX7_lowestBeside_4 p1) n) v2 v3 w = some q := h
      generalize lp (fun _ _ _ => none) (bX7_lowestBeside_4 p1) n = k4 at h ih4
      unfold bX7_lowestBeside_4 at h
      refine lv_iload_n hx hb dX7_lowestBeside_4 rfl (lv_at hl 3 rfl) ?_
      refine lv_iconst (v := (4 : Int32)) hx hb dX7_lowestBeside_5 (by decide) ?_
      refine rb_icmp_ge (tgt := 30) hx hb h dX7_lowestBeside_6 (by decide) (fun h => ?_) (fun h => ?_)
      · refine lv_iload_n hx hb dX7_lowestBeside_30 rfl (lv_at hl 2 rfl) ?_
        exact rrI hQ hW hS h dX7_lowestBeside_31
      · refine lv_iload_n hx hb dX7_lowestBeside_9 rfl (lv_at hl 2 rfl) ?_
        refine lv_aload_n hx hb dX7_lowestBeside_10 rfl (lv_at hl 0 rfl) ?_
        refine lv_aload_n hx hb dX7_lowestBeside_11 rfl (lv_at hl 0 rfl) ?_
        refine rw_get hx hb hts iX7 hown hW (fl 10 rfl) rfl rfl 1 (by decide) e9 rfl (v := .ref (E.2.1 11)) rfl dX7_lowestBeside_12 ?_
        refine lv_iload_n hx hb dX7_lowestBeside_15 rfl (lv_at hl 1 rfl) ?_
        refine lv_iload_n hx hb dX7_lowestBeside_16 rfl (lv_at hl 3 rfl) ?_
        refine rc_Vi (k := 10) (As := [.ref (E.2.1 11), .int p1, .int v3]) (rest := [.int v2]) S hW hS h (kX7_valueBeside l E 11 p1 v3 w) (cwV 3 hts gX7_lowestBeside_X7_valueBeside rfl rfl rfl hdX7_valueBeside ⟨Nat.le_of_ble_eq_true rfl, Nat.le_of_ble_eq_true rfl⟩) (fl 10 rfl) rfl rfl rfl rfl hl.1 rfl (Nat.le_of_ble_eq_true rfl) ⟨Nat.zero_le _, Nat.zero_le _⟩ dX7_lowestBeside_17 (fun x1 w2 H locs h hW hS => ?_)
        refine va_mmin hx hb (hml.trans hl.1.symm) (own := RX7) hown (hts (.methodLink RX7 78 Lib.Math.min.name) (by decide +kernel)) (hts (.static Lib.Math.min.name) (by decide +kernel)) (hts (.initialized "java/lang/Math") (by decide +kernel)) (hts (.code Lib.Math.min.name Lib.Math.min.code 2 (some .int)) (by decide +kernel)) (Nat.le_of_ble_eq_true rfl) (Nat.le_of_ble_eq_true rfl) (Nat.zero_le _) (Nat.zero_le _) dX7_lowestBeside_20 ?_
        refine lv_istore_n (lv' := [(2, .int (if x1 < v2 then x1 else v2)), (0, .ref (E.2.1 10)), (1, .int p1), (3, .int v3)]) hx hb dX7_lowestBeside_23 rfl hl (by decide) rfl (fun ls hl => ?_)
        refine lv_iinc (v := (v3 + (1 : Int32))) (lv' := [(3, .int (v3 + (1 : Int32))), (2, .int (if x1 < v2 then x1 else v2)), (0, .ref (E.2.1 10)), (1, .int p1)]) hx hb dX7_lowestBeside_24 hl (k := 3) rfl rfl (by decide) rfl (fun ls hl => ?_)
        refine lv_goto (tgt := 4) hx hb dX7_lowestBeside_27 (by decide) ?_
        exact ih4 _ _ _ _ _ _ h hW hS (lv_sub hl [2, 3, 1, 0] rfl)
  unfold fX7_lowestBeside at h
  refine lv_iconst (v := (4 : Int32)) hx hb dX7_lowestBeside_0 (by decide) ?_
  refine lv_istore_n (lv' := [(2, .int (4 : Int32)), (0, .ref (E.2.1 10)), (1, .int p1)]) hx hb dX7_lowestBeside_1 rfl hl (by decide) rfl (fun ls hl => ?_)
  refine lv_iconst (v := (0 : Int32)) hx hb dX7_lowestBeside_2 (by decide) ?_
  refine lv_istore_n (lv' := [(3, .int (0 : Int32)), (2, .int (4 : Int32)), (0, .ref (E.2.1 10)), (1, .int p1)]) hx hb dX7_lowestBeside_3 rfl hl (by decide) rfl (fun ls hl => ?_)
  exact J4 _ _ _ _ _ _ _ h hW hS (lv_sub hl [2, 3, 1, 0] rfl)
noncomputable def jX7_settle_77 (p1 : Nat) (k12 : Int32 → Int32 → Wd → Option (Unit × Wd)) (k27 : Int32 → Int32 → Int32 → Wd → Option (Unit × Wd)) (v2 : Int32) (v3 : Int32) (v4 : Int32)  (w : Wd) : Option (Unit × Wd) :=
  k27 v2 v3 (v4 + (1 : Int32)) w
noncomputable def bX7_settle_27 (p1 : Nat) (k12 : Int32 → Int32 → Wd → Option (Unit × Wd)) (k27 : Int32 → Int32 → Int32 → Wd → Option (Unit × Wd)) (v2 : Int32) (v3 : Int32) (v4 : Int32)  (w : Wd) : Option (Unit × Wd) :=
  bnd (fX2_cells w) fun x2 w3 => if x2 ≤ v4 then k12 v2 (v3 + (1 : Int32)) w3 else (gI w3 p1 v4).bind fun x4 => bnd (fX7_lowestBeside v4 w3) fun x5 w6 => (gI w6 11 v4).bind fun x7 => if x7 ≤ (if x4 < x5 then x5 else x4) then jX7_settle_77 p1 k12 k27 v2 v3 v4 w6 else (sI w6 11 v4 (if x4 < x5 then x5 else x4)).bind fun w8 => jX7_settle_77 p1 k12 k27 (1 : Int32) v3 v4 w8
noncomputable def bX7_settle_12 (p1 : Nat) (k12 : Int32 → Int32 → Wd → Option (Unit × Wd)) (v2 : Int32) (v3 : Int32)  (w : Wd) : Option (Unit × Wd) :=
  if (25 : Int32) ≤ v3 then some ((), w) else if v2 = 0 then some ((), w) else lp (fun _ _ _ _ => none) (bX7_settle_27 p1 k12) G (0 : Int32) v3 (0 : Int32) w
noncomputable def fX7_settle (p1 : Nat) (w : Wd) : Option (Unit × Wd) :=
  bnd (fJ7_fill_53178 11 (4 : Int32) w) fun _ w1 => lp (fun _ _ _ => none) (bX7_settle_12 p1) G (1 : Int32) (0 : Int32) w1
abbrev rmX7_settle : Room := { frames := 3, cells := 0, slots := 0, locals := 69 }
set_option maxHeartbeats 4000000 in
set_option maxRecDepth 100000 in
theorem kX7_settle (l : Launch) (E : Ev) (p1 : Nat) (w : Wd) (q : Unit × Wd) (h : fX7_settle p1 w = some q) : CtV l yX7_settle wsX7_settle rmX7_settle E full [.ref (E.2.1 10), .ref (E.2.1 p1)] w q := by
  refine mkV (cc := cX7_settle) (maxL := 6) (by decide) rfl (Nat.le_of_ble_eq_true rfl) ?_
  intro p e s m args below meth c Q S hW hQ ls hl
  obtain ⟨hx, hb, hml, hown, hts⟩ := id S
  have hW0 := hW
  have hS : va_S (wA E full) s.heap s.heap [] := va_S.rf
  have hl : lv_has ls 6 [(0, .ref (E.2.1 10)), (1, .ref (E.2.1 p1))] := hl
  have iX7 : ∀ w ∈ wsX70, w ∈ wsX7_settle := by decide +kernel
  have e9 := hts (.fieldLink RX7 9 "CubeHeaps$View" "levels" "[I") (by decide +kernel)
  have e21 := hts (.fieldLink RX7 21 "CubeHeaps$View" "ground" "LCubeHeaps$Ground;") (by decide +kernel)
  have J12 : ∀ (n : Nat) (v2 : Int32) (v3 : Int32) (w : Wd) (H : Heap) (locs : List Loc) (ls : Array Slot), lp (fun _ _ _ => none) (bX7_settle_12 p1) n v2 v3 w = some q → World E full w s H → va_S (wA E full) s.heap H locs → lv_has ls 6 [(0, .ref (E.2.1 10)), (1, .ref (E.2.1 p1)), (2, .int v2), (3, .int v3)] → W p l e rmX7_settle s m args below meth c H locs 0 0 Q (F0 m 12 ls []) := by
    intro n
    induction n with
    | zero =>
      intro v2 v3 w H locs ls h hW hS hl
      exact absurd (show (none : Option (Unit × Wd)) = some q from h) (fun z => by cases z)
    | succ n ih12 =>
      intro v2 v3 w H locs ls h hW hS hl
      have h : bX7_settle_12 p1 (lp (fun _ _ _ => none) (bX7_settle_12 p1) n) v2 v3 w = some q := h
      generalize lp (fun _ _ _ => none) (bX7_settle_12 p1) n = k12 at h ih12
      have J27 : ∀ (n : Nat) (v2 : Int32) (v3 : Int32) (v4 : Int32) (w : Wd) (H : Heap) (locs : List Loc) (ls : Array Slot), lp (fun _ _ _ _ => none) (bX7_settle_27 p1 k12) n v2 v3 v4 w = some q → World E full w s H → va_S (wA E full) s.heap H locs → lv_has ls 6 [(0, .ref (E.2.1 10)), (1, .ref (E.2.1 p1)), (2, .int v2), (3, .int v3), (4, .int v4)] → W p l e rmX7_settle s m args below meth c H locs 0 0 Q (F0 m 27 ls []) := by
        intro n
        induction n with
        | zero =>
          intro v2 v3 v4 w H locs ls h hW hS hl
          exact absurd (show (none : Option (Unit × Wd)) = some q from h) (fun z => by cases z)
        | succ n ih27 =>
          intro v2 v3 v4 w H locs ls h hW hS hl
          have h : bX7_settle_27 p1 k12 (lp (fun _ _ _ _ => none) (bX7_settle_27 p1 k12) n) v2 v3 v4 w = some q := h
          generalize lp (fun _ _ _ _ => none) (bX7_settle_27 p1 k12) n = k27 at h ih27
          have J77 : ∀ (v2 : Int32) (v3 : Int32) (v4 : Int32) (w : Wd) (H : Heap) (locs : List Loc) (ls : Array Slot), jX7_settle_77 p1 k12 k27 v2 v3 v4 w = some q → World E full w s H → va_S (wA E full) s.heap H locs → lv_has ls 6 [(0, .ref (E.2.1 10)), (1, .ref (E.2.1 p1)), (2, .int v2), (3, .int v3), (4, .int v4)] → W p l e rmX7_settle s m args below meth c H locs 0 0 Q (F0 m 77 ls []) := by
            intro v2 v3 v4 w H locs ls h hW hS hl
            unfold jX7_settle_77 at h
            refine lv_iinc (v := (v4 + (1 : Int32))) (lv' := [(4, .int (v4 + (1 : Int32))), (0, .ref (E.2.1 10)), (1, .ref (E.2.1 p1)), (2, .int v2), (3, .int v3)]) hx hb dX7_settle_77 hl (k := 4) rfl rfl (by decide) rfl (fun ls hl => ?_)
            refine lv_goto (tgt := 27) hx hb dX7_settle_80 (by decide) ?_
            exact ih27 _ _ _ _ _ _ _ h hW hS (lv_sub hl [1, 2, 3, 4, 0] rfl)
          unfold bX7_settle_27 at h
          refine lv_iload hx hb dX7_settle_27 (lv_at hl 4 rfl) ?_
          refine lv_aload_n hx hb dX7_settle_29 rfl (lv_at hl 0 rfl) ?_
          refine rw_get hx hb hts iX7 hown hW (fl 10 rfl) rfl rfl 0 (by decide) e21 rfl (v := .ref (E.2.1 1)) rfl dX7_settle_30 ?_
          refine rc_Vi (k := 1) (As := []) (rest := [.int v4]) S hW hS h (kX2_cells l E  w) (cwV 0 hts gX7_settle_X2_cells rfl rfl rfl hdX2_cells ⟨Nat.le_of_ble_eq_true rfl, Nat.le_of_ble_eq_true rfl⟩) (fl 1 rfl) rfl rfl rfl rfl hl.1 rfl (Nat.le_of_ble_eq_true rfl) ⟨Nat.zero_le _, Nat.zero_le _⟩ dX7_settle_33 (fun x2 w3 H locs h hW hS => ?_)
          refine rb_icmp_ge (tgt := 83) hx hb h dX7_settle_36 (by decide) (fun h => ?_) (fun h => ?_)
          · refine lv_iinc (v := (v3 + (1 : Int32))) (lv' := [(3, .int (v3 + (1 : Int32))), (0, .ref (E.2.1 10)), (1, .ref (E.2.1 p1)), (2, .int v2), (4, .int v4)]) hx hb dX7_settle_83 hl (k := 3) rfl rfl (by decide) rfl (fun ls hl => ?_)
            refine lv_goto (tgt := 12) hx hb dX7_settle_86 (by decide) ?_
            exact ih12 _ _ _ _ _ _ h hW hS (lv_sub hl [1, 2, 3, 0] rfl)
          · refine lv_aload_n hx hb dX7_settle_39 rfl (lv_at hl 1 rfl) ?_
            refine lv_iload hx hb dX7_settle_40 (lv_at hl 4 rfl) ?_
            refine rw_iald hx hb hW LI_full h dX7_settle_42 (fun x4 h => ?_)
            refine lv_aload_n hx hb dX7_settle_43 rfl (lv_at hl 0 rfl) ?_
            refine lv_iload hx hb dX7_settle_44 (lv_at hl 4 rfl) ?_
            refine rc_Vi (k := 10) (As := [.int v4]) (rest := [.int x4]) S hW hS h (kX7_lowestBeside l E v4 w3) (cwV 1 hts gX7_settle_X7_lowestBeside rfl rfl rfl hdX7_lowestBeside ⟨Nat.le_of_ble_eq_true rfl, Nat.le_of_ble_eq_true rfl⟩) (fl 10 rfl) rfl rfl rfl rfl hl.1 rfl (Nat.le_of_ble_eq_true rfl) ⟨Nat.zero_le _, Nat.zero_le _⟩ dX7_settle_46 (fun x5 w6 H locs h hW hS => ?_)
            refine va_mmax hx hb (hml.trans hl.1.symm) (own := RX7) hown (hts (.methodLink RX7 35 Lib.Math.max.name) (by decide +kernel)) (hts (.static Lib.Math.max.name) (by decide +kernel)) (hts (.initialized "java/lang/Math") (by decide +kernel)) (hts (.code Lib.Math.max.name Lib.Math.max.code 2 (some .int)) (by decide +kernel)) (Nat.le_of_ble_eq_true rfl) (Nat.le_of_ble_eq_true rfl) (Nat.zero_le _) (Nat.zero_le _) dX7_settle_49 ?_
            refine lv_istore (lv' := [(5, .int (if x4 < x5 then x5 else x4)), (0, .ref (E.2.1 10)), (1, .ref (E.2.1 p1)), (2, .int v2), (3, .int v3), (4, .int v4)]) hx hb dX7_settle_52 hl (by decide) rfl (fun ls hl => ?_)
            refine lv_iload hx hb dX7_settle_54 (lv_at hl 0 rfl) ?_
            refine lv_aload_n hx hb dX7_settle_56 rfl (lv_at hl 1 rfl) ?_
            refine rw_get hx hb hts iX7 hown hW (fl 10 rfl) rfl rfl 1 (by decide) e9 rfl (v := .ref (E.2.1 11)) rfl dX7_settle_57 ?_
            refine lv_iload hx hb dX7_settle_60 (lv_at hl 5 rfl) ?_
            refine rw_iald hx hb hW (fun _ => (fl 11 rfl)) h dX7_settle_62 (fun x7 h => ?_)
            refine rb_icmp_ge (tgt := 77) hx hb h dX7_settle_63 (by decide) (fun h => ?_) (fun h => ?_)
            · exact J77 _ _ _ _ _ _ _ h hW hS (lv_sub hl [1, 2, 3, 4, 5] rfl)
            · refine lv_aload_n hx hb dX7_settle_66 rfl (lv_at hl 1 rfl) ?_
              refine rw_get hx hb hts iX7 hown hW (fl 10 rfl) rfl rfl 1 (by decide) e9 rfl (v := .ref (E.2.1 11)) rfl dX7_settle_67 ?_
              refine lv_iload hx hb dX7_settle_70 (lv_at hl 5 rfl) ?_
              refine lv_iload hx hb dX7_settle_72 (lv_at hl 0 rfl) ?_
              refine rw_iast hx hb hW hS (fun _ => (fl 11 rfl)) h dX7_settle_74 (fun w8 H locs h hW hS => ?_)
              refine lv_iconst (v := (1 : Int32)) hx hb dX7_settle_75 (by decide) ?_
              refine lv_istore_n (lv' := [(2, .int (1 : Int32)), (5, .int (if x4 < x5 then x5 else x4)), (0, .ref (E.2.1 10)), (1, .ref (E.2.1 p1)), (3, .int v3), (4, .int v4)]) hx hb dX7_settle_76 rfl hl (by decide) rfl (fun ls hl => ?_)
              exact J77 _ _ _ _ _ _ _ h hW hS (lv_sub hl [2, 3, 0, 4, 5] rfl)
      unfold bX7_settle_12 at h
      refine lv_iload_n hx hb dX7_settle_12 rfl (lv_at hl 3 rfl) ?_
      refine lv_bipush (v := (25 : Int32)) hx hb dX7_settle_13 (by decide) ?_
      refine rb_icmp_ge (tgt := 89) hx hb h dX7_settle_15 (by decide) (fun h => ?_) (fun h => ?_)
      · exact rrV hQ hW hS h dX7_settle_89
      · refine lv_iload_n hx hb dX7_settle_18 rfl (lv_at hl 2 rfl) ?_
        refine rb_if_eq (tgt := 89) hx hb h dX7_settle_19 (by decide) (fun h => ?_) (fun h => ?_)
        · exact rrV hQ hW hS h dX7_settle_89
        · refine lv_iconst (v := (0 : Int32)) hx hb dX7_settle_22 (by decide) ?_
          refine lv_istore_n (lv' := [(2, .int (0 : Int32)), (0, .ref (E.2.1 10)), (1, .ref (E.2.1 p1)), (3, .int v3)]) hx hb dX7_settle_23 rfl hl (by decide) rfl (fun ls hl => ?_)
          refine lv_iconst (v := (0 : Int32)) hx hb dX7_settle_24 (by decide) ?_
          refine lv_istore (lv' := [(4, .int (0 : Int32)), (2, .int (0 : Int32)), (0, .ref (E.2.1 10)), (1, .ref (E.2.1 p1)), (3, .int v3)]) hx hb dX7_settle_25 hl (by decide) rfl (fun ls hl => ?_)
          exact J27 _ _ _ _ _ _ _ _ h hW hS (lv_sub hl [2, 3, 1, 4, 0] rfl)
  unfold fX7_settle at h
  refine lv_aload_n hx hb dX7_settle_0 rfl (lv_at hl 0 rfl) ?_
  refine rw_get hx hb hts iX7 hown hW (fl 10 rfl) rfl rfl 1 (by decide) e9 rfl (v := .ref (E.2.1 11)) rfl dX7_settle_1 ?_
  refine lv_iconst (v := (4 : Int32)) hx hb dX7_settle_4 (by decide) ?_
  refine rc_Sv (As := [.ref (E.2.1 11), .int (4 : Int32)]) (rest := []) S hW hS h (kJ7_fill_53178 l E full 11 (4 : Int32) LI_full w) (va_cwS 2 hts gX7_settle_J7_fill_53178 rfl rfl rfl hdJ7_fill_53178 ⟨Nat.le_of_ble_eq_true rfl, Nat.le_of_ble_eq_true rfl⟩) rfl hl.1 rfl (Nat.le_of_ble_eq_true rfl) ⟨Nat.zero_le _, Nat.zero_le _⟩ dX7_settle_5 (fun _ w1 H locs h hW hS => ?_)
  refine lv_iconst (v := (1 : Int32)) hx hb dX7_settle_8 (by decide) ?_
  refine lv_istore_n (lv' := [(2, .int (1 : Int32)), (0, .ref (E.2.1 10)), (1, .ref (E.2.1 p1))]) hx hb dX7_settle_9 rfl hl (by decide) rfl (fun ls hl => ?_)
  refine lv_iconst (v := (0 : Int32)) hx hb dX7_settle_10 (by decide) ?_
  refine lv_istore_n (lv' := [(3, .int (0 : Int32)), (2, .int (1 : Int32)), (0, .ref (E.2.1 10)), (1, .ref (E.2.1 p1))]) hx hb dX7_settle_11 rfl hl (by decide) rfl (fun ls hl => ?_)
  exact J12 _ _ _ _ _ _ _ h hW hS (lv_sub hl [2, 3, 1, 0] rfl)
noncomputable def fX7_waterKept (p1 : Nat) (w : Wd) : Option (Int32 × Wd) :=
  bnd (fX7_settle p1 w) fun _ w1 => bnd (fX2_total 11 w1) fun x2 w3 => bnd (fX2_total p1 w3) fun x4 w5 => some ((x2 - x4), w5)
abbrev rmX7_waterKept : Room := { frames := 4, cells := 0, slots := 0, locals := 94 }
set_option maxHeartbeats 4000000 in
set_option maxRecDepth 100000 in
theorem kX7_waterKept (l : Launch) (E : Ev) (p1 : Nat) (w : Wd) (q : Int32 × Wd) (h : fX7_waterKept p1 w = some q) : CtI l yX7_waterKept wsX7_waterKept rmX7_waterKept E full [.ref (E.2.1 10), .ref (E.2.1 p1)] w q := by
  refine mkI (cc := cX7_waterKept) (maxL := 2) (by decide) rfl (Nat.le_of_ble_eq_true rfl) ?_
  intro p e s m args below meth c Q S hW hQ ls hl
  obtain ⟨hx, hb, hml, hown, hts⟩ := id S
  have hW0 := hW
  have hS : va_S (wA E full) s.heap s.heap [] := va_S.rf
  have hl : lv_has ls 2 [(0, .ref (E.2.1 10)), (1, .ref (E.2.1 p1))] := hl
  have iX7 : ∀ w ∈ wsX70, w ∈ wsX7_waterKept := by decide +kernel
  have e9 := hts (.fieldLink RX7 9 "CubeHeaps$View" "levels" "[I") (by decide +kernel)
  have e21 := hts (.fieldLink RX7 21 "CubeHeaps$View" "ground" "LCubeHeaps$Ground;") (by decide +kernel)
  unfold fX7_waterKept at h
  refine lv_aload_n hx hb dX7_waterKept_0 rfl (lv_at hl 0 rfl) ?_
  refine lv_aload_n hx hb dX7_waterKept_1 rfl (lv_at hl 1 rfl) ?_
  refine rc_Vv (k := 10) (As := [.ref (E.2.1 p1)]) (rest := []) S hW hS h (kX7_settle l E p1 w) (cwV 1 hts gX7_waterKept_X7_settle rfl rfl rfl hdX7_settle ⟨Nat.le_of_ble_eq_true rfl, Nat.le_of_ble_eq_true rfl⟩) (fl 10 rfl) rfl rfl rfl rfl hl.1 rfl (Nat.le_of_ble_eq_true rfl) ⟨Nat.zero_le _, Nat.zero_le _⟩ dX7_waterKept_2 (fun _ w1 H locs h hW hS => ?_)
  refine lv_aload_n hx hb dX7_waterKept_5 rfl (lv_at hl 0 rfl) ?_
  refine rw_get hx hb hts iX7 hown hW (fl 10 rfl) rfl rfl 0 (by decide) e21 rfl (v := .ref (E.2.1 1)) rfl dX7_waterKept_6 ?_
  refine lv_aload_n hx hb dX7_waterKept_9 rfl (lv_at hl 0 rfl) ?_
  refine rw_get hx hb hts iX7 hown hW (fl 10 rfl) rfl rfl 1 (by decide) e9 rfl (v := .ref (E.2.1 11)) rfl dX7_waterKept_10 ?_
  refine rc_Vi (k := 1) (As := [.ref (E.2.1 11)]) (rest := []) S hW hS h (kX2_total l E 11 w1) (cwV 1 hts gX7_waterKept_X2_total rfl rfl rfl hdX2_total ⟨Nat.le_of_ble_eq_true rfl, Nat.le_of_ble_eq_true rfl⟩) (fl 1 rfl) rfl rfl rfl rfl hl.1 rfl (Nat.le_of_ble_eq_true rfl) ⟨Nat.zero_le _, Nat.zero_le _⟩ dX7_waterKept_13 (fun x2 w3 H locs h hW hS => ?_)
  refine lv_aload_n hx hb dX7_waterKept_16 rfl (lv_at hl 0 rfl) ?_
  refine rw_get hx hb hts iX7 hown hW (fl 10 rfl) rfl rfl 0 (by decide) e21 rfl (v := .ref (E.2.1 1)) rfl dX7_waterKept_17 ?_
  refine lv_aload_n hx hb dX7_waterKept_20 rfl (lv_at hl 1 rfl) ?_
  refine rc_Vi (k := 1) (As := [.ref (E.2.1 p1)]) (rest := [.int x2]) S hW hS h (kX2_total l E p1 w3) (cwV 1 hts gX7_waterKept_X2_total rfl rfl rfl hdX2_total ⟨Nat.le_of_ble_eq_true rfl, Nat.le_of_ble_eq_true rfl⟩) (fl 1 rfl) rfl rfl rfl rfl hl.1 rfl (Nat.le_of_ble_eq_true rfl) ⟨Nat.zero_le _, Nat.zero_le _⟩ dX7_waterKept_21 (fun x4 w5 H locs h hW hS => ?_)
  refine lv_isub hx hb dX7_waterKept_24 ?_
  exact rrI hQ hW hS h dX7_waterKept_25
noncomputable def fX7_waterLevel (p1 : Nat) (p2 : Int32) (w : Wd) : Option (Int32 × Wd) :=
  bnd (fX7_settle p1 w) fun _ w1 => (gI w1 11 p2).bind fun x2 => some (x2, w1)
abbrev rmX7_waterLevel : Room := { frames := 4, cells := 0, slots := 0, locals := 94 }
set_option maxHeartbeats 4000000 in
set_option maxRecDepth 100000 in
theorem kX7_waterLevel (l : Launch) (E : Ev) (p1 : Nat) (p2 : Int32) (w : Wd) (q : Int32 × Wd) (h : fX7_waterLevel p1 p2 w = some q) : CtI l yX7_waterLevel wsX7_waterLevel rmX7_waterLevel E full [.ref (E.2.1 10), .ref (E.2.1 p1), .int p2] w q := by
  refine mkI (cc := cX7_waterLevel) (maxL := 3) (by decide) rfl (Nat.le_of_ble_eq_true rfl) ?_
  intro p e s m args below meth c Q S hW hQ ls hl
  obtain ⟨hx, hb, hml, hown, hts⟩ := id S
  have hW0 := hW
  have hS : va_S (wA E full) s.heap s.heap [] := va_S.rf
  have hl : lv_has ls 3 [(0, .ref (E.2.1 10)), (1, .ref (E.2.1 p1)), (2, .int p2)] := hl
  have iX7 : ∀ w ∈ wsX70, w ∈ wsX7_waterLevel := by decide +kernel
  have e9 := hts (.fieldLink RX7 9 "CubeHeaps$View" "levels" "[I") (by decide +kernel)
  unfold fX7_waterLevel at h
  refine lv_aload_n hx hb dX7_waterLevel_0 rfl (lv_at hl 0 rfl) ?_
  refine lv_aload_n hx hb dX7_waterLevel_1 rfl (lv_at hl 1 rfl) ?_
  refine rc_Vv (k := 10) (As := [.ref (E.2.1 p1)]) (rest := []) S hW hS h (kX7_settle l E p1 w) (cwV 1 hts gX7_waterLevel_X7_settle rfl rfl rfl hdX7_settle ⟨Nat.le_of_ble_eq_true rfl, Nat.le_of_ble_eq_true rfl⟩) (fl 10 rfl) rfl rfl rfl rfl hl.1 rfl (Nat.le_of_ble_eq_true rfl) ⟨Nat.zero_le _, Nat.zero_le _⟩ dX7_waterLevel_2 (fun _ w1 H locs h hW hS => ?_)
  refine lv_aload_n hx hb dX7_waterLevel_5 rfl (lv_at hl 0 rfl) ?_
  refine rw_get hx hb hts iX7 hown hW (fl 10 rfl) rfl rfl 1 (by decide) e9 rfl (v := .ref (E.2.1 11)) rfl dX7_waterLevel_6 ?_
  refine lv_iload_n hx hb dX7_waterLevel_9 rfl (lv_at hl 2 rfl) ?_
  refine rw_iald hx hb hW (fun _ => (fl 11 rfl)) h dX7_waterLevel_10 (fun x2 h => ?_)
  exact rrI hQ hW hS h dX7_waterLevel_11
noncomputable def bX8_ground_34 (p1 : Int32) (p2 : Int32) (k34 : Int32 → Wd → Option (Int32 × Wd)) (v3 : Int32)  (w : Wd) : Option (Int32 × Wd) :=
  if (4 : Int32) ≤ v3 then bnd (fX5_forget w) fun _ w2 => bnd (fX4_forget w2) fun _ w3 => bnd (fX2_cells w3) fun x4 w5 => some (x4, w5) else (ixA 4 v3).bind fun j6 => bnd (fJ7_fill_53178 (6 + j6) (0 : Int32) w) fun _ w7 => k34 (v3 + (1 : Int32)) w7
noncomputable def fX8_ground (p1 : Int32) (p2 : Int32) (w : Wd) : Option (Int32 × Wd) :=
  if p1 < (1 : Int32) then some ((-2 : Int32), w) else if (5 : Int32) < p1 then some ((-2 : Int32), w) else if p2 < (1 : Int32) then some ((-2 : Int32), w) else if p2 ≤ (5 : Int32) then bnd (fX2_become p1 p2 w) fun _ w1 => lp (fun _ _ => none) (bX8_ground_34 p1 p2) G (0 : Int32) w1 else some ((-2 : Int32), w)
abbrev rmX8_ground : Room := { frames := 4, cells := 0, slots := 0, locals := 92 }
set_option maxHeartbeats 4000000 in
set_option maxRecDepth 100000 in
theorem kX8_ground (l : Launch) (E : Ev) (p1 : Int32) (p2 : Int32) (w : Wd) (q : Int32 × Wd) (h : fX8_ground p1 p2 w = some q) : CtI l yX8_ground wsX8_ground rmX8_ground E full [.ref (E.2.1 0), .int p1, .int p2] w q := by
  refine mkI (cc := cX8_ground) (maxL := 4) (by decide) rfl (Nat.le_of_ble_eq_true rfl) ?_
  intro p e s m args below meth c Q S hW hQ ls hl
  obtain ⟨hx, hb, hml, hown, hts⟩ := id S
  have hW0 := hW
  have hS : va_S (wA E full) s.heap s.heap [] := va_S.rf
  have hl : lv_has ls 4 [(0, .ref (E.2.1 0)), (1, .int p1), (2, .int p2)] := hl
  have iX8 : ∀ w ∈ wsX80, w ∈ wsX8_ground := by decide +kernel
  have e14 := hts (.fieldLink RX8 14 "CubeHeaps" "ground" "LCubeHeaps$Ground;") (by decide +kernel)
  have e20 := hts (.fieldLink RX8 20 "CubeHeaps" "slots" "[[I") (by decide +kernel)
  have e37 := hts (.fieldLink RX8 37 "CubeHeaps" "told" "LCubeHeaps$Told;") (by decide +kernel)
  have e53 := hts (.fieldLink RX8 53 "CubeHeaps" "sums" "LCubeHeaps$Sums;") (by decide +kernel)
  have J34 : ∀ (n : Nat) (v3 : Int32) (w : Wd) (H : Heap) (locs : List Loc) (ls : Array Slot), lp (fun _ _ => none) (bX8_ground_34 p1 p2) n v3 w = some q → World E full w s H → va_S (wA E full) s.heap H locs → lv_has ls 4 [(0, .ref (E.2.1 0)), (3, .int v3)] → W p l e rmX8_ground s m args below meth c H locs 0 0 Q (F0 m 34 ls []) := by
    intro n
    induction n with
    | zero =>
      intro v3 w H locs ls h hW hS hl
      exact absurd (show (none : Option (Int32 × Wd)) = some q from h) (fun z => by cases z)
    | succ n ih34 =>
      intro v3 w H locs ls h hW hS hl
      have h : bX8_ground_34 p1 p2 (lp (fun _ _ => none) (bX8_ground_34 p1 p2) n) v3 w = some q := h
      generalize lp (fun _ _ => none) (bX8_ground_34 p1 p2) n = k34 at h ih34
      unfold bX8_ground_34 at h
      refine lv_iload_n hx hb dX8_ground_34 rfl (lv_at hl 1 rfl) ?_
      refine lv_iconst (v := (4 : Int32)) hx hb dX8_ground_35 (by decide) ?_
      refine rb_icmp_ge (tgt := 55) hx hb h dX8_ground_36 (by decide) (fun h => ?_) (fun h => ?_)
      · refine lv_aload_n hx hb dX8_ground_55 rfl (lv_at hl 0 rfl) ?_
        refine rw_get hx hb hts iX8 hown hW (fl 0 rfl) rfl rfl 3 (by decide) e37 rfl (v := .ref (E.2.1 14)) rfl dX8_ground_56 ?_
        refine rc_Vv (k := 14) (As := []) (rest := []) S hW hS h (kX5_forget l E full (by decide)  w) (cwV 0 hts gX8_ground_X5_forget rfl rfl rfl hdX5_forget ⟨Nat.le_of_ble_eq_true rfl, Nat.le_of_ble_eq_true rfl⟩) (fl 14 rfl) rfl rfl rfl rfl hl.1 rfl (Nat.le_of_ble_eq_true rfl) ⟨Nat.zero_le _, Nat.zero_le _⟩ dX8_ground_59 (fun _ w2 H locs h hW hS => ?_)
        refine lv_aload_n hx hb dX8_ground_62 rfl (lv_at hl 0 rfl) ?_
        refine rw_get hx hb hts iX8 hown hW (fl 0 rfl) rfl rfl 5 (by decide) e53 rfl (v := .ref (E.2.1 79)) rfl dX8_ground_63 ?_
        refine rc_Vv (k := 79) (As := []) (rest := []) S hW hS h (kX4_forget l E  w2) (cwV 0 hts gX8_ground_X4_forget rfl rfl rfl hdX4_forget ⟨Nat.le_of_ble_eq_true rfl, Nat.le_of_ble_eq_true rfl⟩) (fl 79 rfl) rfl rfl rfl rfl hl.1 rfl (Nat.le_of_ble_eq_true rfl) ⟨Nat.zero_le _, Nat.zero_le _⟩ dX8_ground_66 (fun _ w3 H locs h hW hS => ?_)
        refine lv_aload_n hx hb dX8_ground_69 rfl (lv_at hl 0 rfl) ?_
        refine rw_get hx hb hts iX8 hown hW (fl 0 rfl) rfl rfl 0 (by decide) e14 rfl (v := .ref (E.2.1 1)) rfl dX8_ground_70 ?_
        refine rc_Vi (k := 1) (As := []) (rest := []) S hW hS h (kX2_cells l E  w3) (cwV 0 hts gX8_ground_X2_cells rfl rfl rfl hdX2_cells ⟨Nat.le_of_ble_eq_true rfl, Nat.le_of_ble_eq_true rfl⟩) (fl 1 rfl) rfl rfl rfl rfl hl.1 rfl (Nat.le_of_ble_eq_true rfl) ⟨Nat.zero_le _, Nat.zero_le _⟩ dX8_ground_73 (fun x4 w5 H locs h hW hS => ?_)
        exact rrI hQ hW hS h dX8_ground_76
      · refine lv_aload_n hx hb dX8_ground_39 rfl (lv_at hl 0 rfl) ?_
        refine rw_get hx hb hts iX8 hown hW (fl 0 rfl) rfl rfl 1 (by decide) e20 rfl (v := .ref (E.2.1 5)) rfl dX8_ground_40 ?_
        refine lv_iload_n hx hb dX8_ground_43 rfl (lv_at hl 1 rfl) ?_
        refine rw_aaldI hx hb hW (fl 5 rfl) rfl h dX8_ground_44 (fun j6 h => ?_)
        refine lv_iconst (v := (0 : Int32)) hx hb dX8_ground_45 (by decide) ?_
        refine rc_Sv (As := [.ref (E.2.1 (6 + j6)), .int (0 : Int32)]) (rest := []) S hW hS h (kJ7_fill_53178 l E full (6 + j6) (0 : Int32) LI_full w) (va_cwS 2 hts gX8_ground_J7_fill_53178 rfl rfl rfl hdJ7_fill_53178 ⟨Nat.le_of_ble_eq_true rfl, Nat.le_of_ble_eq_true rfl⟩) rfl hl.1 rfl (Nat.le_of_ble_eq_true rfl) ⟨Nat.zero_le _, Nat.zero_le _⟩ dX8_ground_46 (fun _ w7 H locs h hW hS => ?_)
        refine lv_iinc (v := (v3 + (1 : Int32))) (lv' := [(3, .int (v3 + (1 : Int32))), (0, .ref (E.2.1 0))]) hx hb dX8_ground_49 hl (k := 1) rfl rfl (by decide) rfl (fun ls hl => ?_)
        refine lv_goto (tgt := 34) hx hb dX8_ground_52 (by decide) ?_
        exact ih34 _ _ _ _ _ h hW hS (lv_sub hl [1, 0] rfl)
  unfold fX8_ground at h
  refine lv_iload_n hx hb dX8_ground_0 rfl (lv_at hl 1 rfl) ?_
  refine lv_iconst (v := (1 : Int32)) hx hb dX8_ground_1 (by decide) ?_
  refine rb_icmp_lt (tgt := 20) hx hb h dX8_ground_2 (by decide) (fun h => ?_) (fun h => ?_)
  · refine lv_bipush (v := (-2 : Int32)) hx hb dX8_ground_20 (by decide) ?_
    exact rrI hQ hW hS h dX8_ground_22
  · refine lv_iload_n hx hb dX8_ground_5 rfl (lv_at hl 1 rfl) ?_
    refine lv_iconst (v := (5 : Int32)) hx hb dX8_ground_6 (by decide) ?_
    refine rb_icmp_gt (tgt := 20) hx hb h dX8_ground_7 (by decide) (fun h => ?_) (fun h => ?_)
    · refine lv_bipush (v := (-2 : Int32)) hx hb dX8_ground_20 (by decide) ?_
      exact rrI hQ hW hS h dX8_ground_22
    · refine lv_iload_n hx hb dX8_ground_10 rfl (lv_at hl 2 rfl) ?_
      refine lv_iconst (v := (1 : Int32)) hx hb dX8_ground_11 (by decide) ?_
      refine rb_icmp_lt (tgt := 20) hx hb h dX8_ground_12 (by decide) (fun h => ?_) (fun h => ?_)
      · refine lv_bipush (v := (-2 : Int32)) hx hb dX8_ground_20 (by decide) ?_
        exact rrI hQ hW hS h dX8_ground_22
      · refine lv_iload_n hx hb dX8_ground_15 rfl (lv_at hl 2 rfl) ?_
        refine lv_iconst (v := (5 : Int32)) hx hb dX8_ground_16 (by decide) ?_
        refine rb_icmp_le (tgt := 23) hx hb h dX8_ground_17 (by decide) (fun h => ?_) (fun h => ?_)
        · refine lv_aload_n hx hb dX8_ground_23 rfl (lv_at hl 0 rfl) ?_
          refine rw_get hx hb hts iX8 hown hW (fl 0 rfl) rfl rfl 0 (by decide) e14 rfl (v := .ref (E.2.1 1)) rfl dX8_ground_24 ?_
          refine lv_iload_n hx hb dX8_ground_27 rfl (lv_at hl 1 rfl) ?_
          refine lv_iload_n hx hb dX8_ground_28 rfl (lv_at hl 2 rfl) ?_
          refine rc_Vv (k := 1) (As := [.int p1, .int p2]) (rest := []) S hW hS h (kX2_become l E full (by decide) p1 p2 w) (cwV 2 hts gX8_ground_X2_become rfl rfl rfl hdX2_become ⟨Nat.le_of_ble_eq_true rfl, Nat.le_of_ble_eq_true rfl⟩) (fl 1 rfl) rfl rfl rfl rfl hl.1 rfl (Nat.le_of_ble_eq_true rfl) ⟨Nat.zero_le _, Nat.zero_le _⟩ dX8_ground_29 (fun _ w1 H locs h hW hS => ?_)
          refine lv_iconst (v := (0 : Int32)) hx hb dX8_ground_32 (by decide) ?_
          refine lv_istore_n (lv' := [(3, .int (0 : Int32)), (0, .ref (E.2.1 0)), (1, .int p1), (2, .int p2)]) hx hb dX8_ground_33 rfl hl (by decide) rfl (fun ls hl => ?_)
          exact J34 _ _ _ _ _ _ h hW hS (lv_sub hl [1, 0] rfl)
        · refine lv_bipush (v := (-2 : Int32)) hx hb dX8_ground_20 (by decide) ?_
          exact rrI hQ hW hS h dX8_ground_22
noncomputable def jX8_noSlot_9 (p0 : Int32)  (w : Wd) : Option (Int32 × Wd) :=
  zr (1 : Int32) w
noncomputable def fX8_noSlot (p0 : Int32) (w : Wd) : Option (Int32 × Wd) :=
  if p0 < 0 then jX8_noSlot_9 p0 w else if p0 < (4 : Int32) then zr (0 : Int32) w else jX8_noSlot_9 p0 w
abbrev rmX8_noSlot : Room := { frames := 0, cells := 0, slots := 0, locals := 0 }
set_option maxHeartbeats 4000000 in
set_option maxRecDepth 100000 in
theorem kX8_noSlot (l : Launch) (E : Ev) (p0 : Int32) (w : Wd) (q : Int32 × Wd) (h : fX8_noSlot p0 w = some q) : CtI l yX8_noSlot wsX8_noSlot rmX8_noSlot E full [.int p0] w q := by
  refine mkZ (cc := cX8_noSlot) (maxL := 1) (by decide) rfl (Nat.le_of_ble_eq_true rfl) ?_
  intro p e s m args below meth c Q S hW hQ ls hl
  obtain ⟨hx, hb, hml, hown, hts⟩ := id S
  have hW0 := hW
  have hS : va_S (wA E full) s.heap s.heap [] := va_S.rf
  have hl : lv_has ls 1 [(0, .int p0)] := hl
  have J9 : ∀  (w : Wd) (H : Heap) (locs : List Loc) (ls : Array Slot), jX8_noSlot_9 p0 w = some q → World E full w s H → va_S (wA E full) s.heap H locs → lv_has ls 1 [] → W p l e rmX8_noSlot s m args below meth c H locs 0 0 Q (F0 m 9 ls []) := by
    intro  w H locs ls h hW hS hl
    unfold jX8_noSlot_9 at h
    refine lv_iconst (v := (1 : Int32)) hx hb dX8_noSlot_9 (by decide) ?_
    refine lv_goto (tgt := 14) hx hb dX8_noSlot_10 (by decide) ?_
    exact rrZ hQ hW hS h dX8_noSlot_14
  unfold fX8_noSlot at h
  refine lv_iload_n hx hb dX8_noSlot_0 rfl (lv_at hl 0 rfl) ?_
  refine rb_if_lt (tgt := 9) hx hb h dX8_noSlot_1 (by decide) (fun h => ?_) (fun h => ?_)
  · exact J9  _ _ _ _ h hW hS (lv_sub hl [] rfl)
  · refine lv_iload_n hx hb dX8_noSlot_4 rfl (lv_at hl 0 rfl) ?_
    refine lv_iconst (v := (4 : Int32)) hx hb dX8_noSlot_5 (by decide) ?_
    refine rb_icmp_lt (tgt := 13) hx hb h dX8_noSlot_6 (by decide) (fun h => ?_) (fun h => ?_)
    · refine lv_iconst (v := (0 : Int32)) hx hb dX8_noSlot_13 (by decide) ?_
      exact rrZ hQ hW hS h dX8_noSlot_14
    · exact J9  _ _ _ _ h hW hS (lv_sub hl [] rfl)
noncomputable def jX8_noCell_15 (p1 : Int32)  (w : Wd) : Option (Int32 × Wd) :=
  zr (1 : Int32) w
noncomputable def fX8_noCell (p1 : Int32) (w : Wd) : Option (Int32 × Wd) :=
  if p1 < 0 then jX8_noCell_15 p1 w else bnd (fX2_cells w) fun x1 w2 => if p1 < x1 then zr (0 : Int32) w2 else jX8_noCell_15 p1 w2
abbrev rmX8_noCell : Room := { frames := 1, cells := 0, slots := 0, locals := 20 }
set_option maxHeartbeats 4000000 in
set_option maxRecDepth 100000 in
theorem kX8_noCell (l : Launch) (E : Ev) (p1 : Int32) (w : Wd) (q : Int32 × Wd) (h : fX8_noCell p1 w = some q) : CtI l yX8_noCell wsX8_noCell rmX8_noCell E full [.ref (E.2.1 0), .int p1] w q := by
  refine mkZ (cc := cX8_noCell) (maxL := 2) (by decide) rfl (Nat.le_of_ble_eq_true rfl) ?_
  intro p e s m args below meth c Q S hW hQ ls hl
  obtain ⟨hx, hb, hml, hown, hts⟩ := id S
  have hW0 := hW
  have hS : va_S (wA E full) s.heap s.heap [] := va_S.rf
  have hl : lv_has ls 2 [(0, .ref (E.2.1 0)), (1, .int p1)] := hl
  have iX8 : ∀ w ∈ wsX80, w ∈ wsX8_noCell := by decide +kernel
  have e14 := hts (.fieldLink RX8 14 "CubeHeaps" "ground" "LCubeHeaps$Ground;") (by decide +kernel)
  have J15 : ∀  (w : Wd) (H : Heap) (locs : List Loc) (ls : Array Slot), jX8_noCell_15 p1 w = some q → World E full w s H → va_S (wA E full) s.heap H locs → lv_has ls 2 [] → W p l e rmX8_noCell s m args below meth c H locs 0 0 Q (F0 m 15 ls []) := by
    intro  w H locs ls h hW hS hl
    unfold jX8_noCell_15 at h
    refine lv_iconst (v := (1 : Int32)) hx hb dX8_noCell_15 (by decide) ?_
    refine lv_goto (tgt := 20) hx hb dX8_noCell_16 (by decide) ?_
    exact rrZ hQ hW hS h dX8_noCell_20
  unfold fX8_noCell at h
  refine lv_iload_n hx hb dX8_noCell_0 rfl (lv_at hl 1 rfl) ?_
  refine rb_if_lt (tgt := 15) hx hb h dX8_noCell_1 (by decide) (fun h => ?_) (fun h => ?_)
  · exact J15  _ _ _ _ h hW hS (lv_sub hl [] rfl)
  · refine lv_iload_n hx hb dX8_noCell_4 rfl (lv_at hl 1 rfl) ?_
    refine lv_aload_n hx hb dX8_noCell_5 rfl (lv_at hl 0 rfl) ?_
    refine rw_get hx hb hts iX8 hown hW (fl 0 rfl) rfl rfl 0 (by decide) e14 rfl (v := .ref (E.2.1 1)) rfl dX8_noCell_6 ?_
    refine rc_Vi (k := 1) (As := []) (rest := [.int p1]) S hW hS h (kX2_cells l E  w) (cwV 0 hts gX8_noCell_X2_cells rfl rfl rfl hdX2_cells ⟨Nat.le_of_ble_eq_true rfl, Nat.le_of_ble_eq_true rfl⟩) (fl 1 rfl) rfl rfl rfl rfl hl.1 rfl (Nat.le_of_ble_eq_true rfl) ⟨Nat.zero_le _, Nat.zero_le _⟩ dX8_noCell_9 (fun x1 w2 H locs h hW hS => ?_)
    refine rb_icmp_lt (tgt := 19) hx hb h dX8_noCell_12 (by decide) (fun h => ?_) (fun h => ?_)
    · refine lv_iconst (v := (0 : Int32)) hx hb dX8_noCell_19 (by decide) ?_
      exact rrZ hQ hW hS h dX8_noCell_20
    · exact J15  _ _ _ _ h hW hS (lv_sub hl [] rfl)
noncomputable def fX8_set (p1 : Int32) (p2 : Int32) (p3 : Int32) (w : Wd) : Option (Int32 × Wd) :=
  bnd (fX8_noSlot p1 w) fun x1 w2 => if x1 = 0 then bnd (fX8_noCell p2 w2) fun x3 w4 => if x3 = 0 then if p3 < 0 then some ((-2 : Int32), w4) else if p3 ≤ (4 : Int32) then (ixA 4 p1).bind fun j5 => (gI w4 (6 + j5) p2).bind fun x6 => (ixA 4 p1).bind fun j7 => (sI w4 (6 + j7) p2 p3).bind fun w8 => some (x6, w8) else some ((-2 : Int32), w4) else some ((-1 : Int32), w4) else some ((-1 : Int32), w2)
abbrev rmX8_set : Room := { frames := 2, cells := 0, slots := 0, locals := 41 }
set_option maxHeartbeats 4000000 in
set_option maxRecDepth 100000 in
theorem kX8_set (l : Launch) (E : Ev) (p1 : Int32) (p2 : Int32) (p3 : Int32) (w : Wd) (q : Int32 × Wd) (h : fX8_set p1 p2 p3 w = some q) : CtI l yX8_set wsX8_set rmX8_set E full [.ref (E.2.1 0), .int p1, .int p2, .int p3] w q := by
  refine mkI (cc := cX8_set) (maxL := 5) (by decide) rfl (Nat.le_of_ble_eq_true rfl) ?_
  intro p e s m args below meth c Q S hW hQ ls hl
  obtain ⟨hx, hb, hml, hown, hts⟩ := id S
  have hW0 := hW
  have hS : va_S (wA E full) s.heap s.heap [] := va_S.rf
  have hl : lv_has ls 5 [(0, .ref (E.2.1 0)), (1, .int p1), (2, .int p2), (3, .int p3)] := hl
  have iX8 : ∀ w ∈ wsX80, w ∈ wsX8_set := by decide +kernel
  have e20 := hts (.fieldLink RX8 20 "CubeHeaps" "slots" "[[I") (by decide +kernel)
  unfold fX8_set at h
  refine lv_iload_n hx hb dX8_set_0 rfl (lv_at hl 1 rfl) ?_
  refine rc_Si (As := [.int p1]) (rest := []) S hW hS h (kX8_noSlot l E p1 w) (va_cwS 1 hts gX8_set_X8_noSlot rfl rfl rfl hdX8_noSlot ⟨Nat.le_of_ble_eq_true rfl, Nat.le_of_ble_eq_true rfl⟩) rfl hl.1 rfl (Nat.le_of_ble_eq_true rfl) ⟨Nat.zero_le _, Nat.zero_le _⟩ dX8_set_1 (fun x1 w2 H locs h hW hS => ?_)
  refine rb_if_ne (tgt := 15) hx hb h dX8_set_4 (by decide) (fun h => ?_) (fun h => ?_)
  · refine lv_iconst (v := (-1 : Int32)) hx hb dX8_set_15 (by decide) ?_
    exact rrI hQ hW hS h dX8_set_16
  · refine lv_aload_n hx hb dX8_set_7 rfl (lv_at hl 0 rfl) ?_
    refine lv_iload_n hx hb dX8_set_8 rfl (lv_at hl 2 rfl) ?_
    refine rc_Vi (k := 0) (As := [.int p2]) (rest := []) S hW hS h (kX8_noCell l E p2 w2) (cwV 1 hts gX8_set_X8_noCell rfl rfl rfl hdX8_noCell ⟨Nat.le_of_ble_eq_true rfl, Nat.le_of_ble_eq_true rfl⟩) (fl 0 rfl) rfl rfl rfl rfl hl.1 rfl (Nat.le_of_ble_eq_true rfl) ⟨Nat.zero_le _, Nat.zero_le _⟩ dX8_set_9 (fun x3 w4 H locs h hW hS => ?_)
    refine rb_if_eq (tgt := 17) hx hb h dX8_set_12 (by decide) (fun h => ?_) (fun h => ?_)
    · refine lv_iload_n hx hb dX8_set_17 rfl (lv_at hl 3 rfl) ?_
      refine rb_if_lt (tgt := 26) hx hb h dX8_set_18 (by decide) (fun h => ?_) (fun h => ?_)
      · refine lv_bipush (v := (-2 : Int32)) hx hb dX8_set_26 (by decide) ?_
        exact rrI hQ hW hS h dX8_set_28
      · refine lv_iload_n hx hb dX8_set_21 rfl (lv_at hl 3 rfl) ?_
        refine lv_iconst (v := (4 : Int32)) hx hb dX8_set_22 (by decide) ?_
        refine rb_icmp_le (tgt := 29) hx hb h dX8_set_23 (by decide) (fun h => ?_) (fun h => ?_)
        · refine lv_aload_n hx hb dX8_set_29 rfl (lv_at hl 0 rfl) ?_
          refine rw_get hx hb hts iX8 hown hW (fl 0 rfl) rfl rfl 1 (by decide) e20 rfl (v := .ref (E.2.1 5)) rfl dX8_set_30 ?_
          refine lv_iload_n hx hb dX8_set_33 rfl (lv_at hl 1 rfl) ?_
          refine rw_aaldI hx hb hW (fl 5 rfl) rfl h dX8_set_34 (fun j5 h => ?_)
          refine lv_iload_n hx hb dX8_set_35 rfl (lv_at hl 2 rfl) ?_
          refine rw_iald hx hb hW LI_full h dX8_set_36 (fun x6 h => ?_)
          refine lv_istore (lv' := [(4, .int x6), (0, .ref (E.2.1 0)), (1, .int p1), (2, .int p2), (3, .int p3)]) hx hb dX8_set_37 hl (by decide) rfl (fun ls hl => ?_)
          refine lv_aload_n hx hb dX8_set_39 rfl (lv_at hl 1 rfl) ?_
          refine rw_get hx hb hts iX8 hown hW (fl 0 rfl) rfl rfl 1 (by decide) e20 rfl (v := .ref (E.2.1 5)) rfl dX8_set_40 ?_
          refine lv_iload_n hx hb dX8_set_43 rfl (lv_at hl 2 rfl) ?_
          refine rw_aaldI hx hb hW (fl 5 rfl) rfl h dX8_set_44 (fun j7 h => ?_)
          refine lv_iload_n hx hb dX8_set_45 rfl (lv_at hl 3 rfl) ?_
          refine lv_iload_n hx hb dX8_set_46 rfl (lv_at hl 4 rfl) ?_
          refine rw_iast hx hb hW hS LI_full h dX8_set_47 (fun w8 H locs h hW hS => ?_)
          refine lv_iload hx hb dX8_set_48 (lv_at hl 0 rfl) ?_
          exact rrI hQ hW hS h dX8_set_50
        · refine lv_bipush (v := (-2 : Int32)) hx hb dX8_set_26 (by decide) ?_
          exact rrI hQ hW hS h dX8_set_28
    · refine lv_iconst (v := (-1 : Int32)) hx hb dX8_set_15 (by decide) ?_
      exact rrI hQ hW hS h dX8_set_16
noncomputable def fX8_height (p1 : Int32) (p2 : Int32) (w : Wd) : Option (Int32 × Wd) :=
  bnd (fX8_noSlot p1 w) fun x1 w2 => if x1 = 0 then bnd (fX8_noCell p2 w2) fun x3 w4 => if x3 = 0 then (ixA 4 p1).bind fun j5 => (gI w4 (6 + j5) p2).bind fun x6 => some (x6, w4) else some ((-1 : Int32), w4) else some ((-1 : Int32), w2)
abbrev rmX8_height : Room := { frames := 2, cells := 0, slots := 0, locals := 41 }
set_option maxHeartbeats 4000000 in
set_option maxRecDepth 100000 in
theorem kX8_height (l : Launch) (E : Ev) (p1 : Int32) (p2 : Int32) (w : Wd) (q : Int32 × Wd) (h : fX8_height p1 p2 w = some q) : CtI l yX8_height wsX8_height rmX8_height E full [.ref (E.2.1 0), .int p1, .int p2] w q := by
  refine mkI (cc := cX8_height) (maxL := 3) (by decide) rfl (Nat.le_of_ble_eq_true rfl) ?_
  intro p e s m args below meth c Q S hW hQ ls hl
  obtain ⟨hx, hb, hml, hown, hts⟩ := id S
  have hW0 := hW
  have hS : va_S (wA E full) s.heap s.heap [] := va_S.rf
  have hl : lv_has ls 3 [(0, .ref (E.2.1 0)), (1, .int p1), (2, .int p2)] := hl
  have iX8 : ∀ w ∈ wsX80, w ∈ wsX8_height := by decide +kernel
  have e20 := hts (.fieldLink RX8 20 "CubeHeaps" "slots" "[[I") (by decide +kernel)
  unfold fX8_height at h
  refine lv_iload_n hx hb dX8_height_0 rfl (lv_at hl 1 rfl) ?_
  refine rc_Si (As := [.int p1]) (rest := []) S hW hS h (kX8_noSlot l E p1 w) (va_cwS 1 hts gX8_height_X8_noSlot rfl rfl rfl hdX8_noSlot ⟨Nat.le_of_ble_eq_true rfl, Nat.le_of_ble_eq_true rfl⟩) rfl hl.1 rfl (Nat.le_of_ble_eq_true rfl) ⟨Nat.zero_le _, Nat.zero_le _⟩ dX8_height_1 (fun x1 w2 H locs h hW hS => ?_)
  refine rb_if_ne (tgt := 15) hx hb h dX8_height_4 (by decide) (fun h => ?_) (fun h => ?_)
  · refine lv_iconst (v := (-1 : Int32)) hx hb dX8_height_15 (by decide) ?_
    exact rrI hQ hW hS h dX8_height_16
  · refine lv_aload_n hx hb dX8_height_7 rfl (lv_at hl 0 rfl) ?_
    refine lv_iload_n hx hb dX8_height_8 rfl (lv_at hl 2 rfl) ?_
    refine rc_Vi (k := 0) (As := [.int p2]) (rest := []) S hW hS h (kX8_noCell l E p2 w2) (cwV 1 hts gX8_height_X8_noCell rfl rfl rfl hdX8_noCell ⟨Nat.le_of_ble_eq_true rfl, Nat.le_of_ble_eq_true rfl⟩) (fl 0 rfl) rfl rfl rfl rfl hl.1 rfl (Nat.le_of_ble_eq_true rfl) ⟨Nat.zero_le _, Nat.zero_le _⟩ dX8_height_9 (fun x3 w4 H locs h hW hS => ?_)
    refine rb_if_eq (tgt := 17) hx hb h dX8_height_12 (by decide) (fun h => ?_) (fun h => ?_)
    · refine lv_aload_n hx hb dX8_height_17 rfl (lv_at hl 0 rfl) ?_
      refine rw_get hx hb hts iX8 hown hW (fl 0 rfl) rfl rfl 1 (by decide) e20 rfl (v := .ref (E.2.1 5)) rfl dX8_height_18 ?_
      refine lv_iload_n hx hb dX8_height_21 rfl (lv_at hl 1 rfl) ?_
      refine rw_aaldI hx hb hW (fl 5 rfl) rfl h dX8_height_22 (fun j5 h => ?_)
      refine lv_iload_n hx hb dX8_height_23 rfl (lv_at hl 2 rfl) ?_
      refine rw_iald hx hb hW LI_full h dX8_height_24 (fun x6 h => ?_)
      exact rrI hQ hW hS h dX8_height_25
    · refine lv_iconst (v := (-1 : Int32)) hx hb dX8_height_15 (by decide) ?_
      exact rrI hQ hW hS h dX8_height_16
noncomputable def fX8_copy (p1 : Int32) (p2 : Int32) (w : Wd) : Option (Int32 × Wd) :=
  bnd (fX8_noSlot p1 w) fun x1 w2 => if x1 = 0 then bnd (fX8_noSlot p2 w2) fun x3 w4 => if x3 = 0 then (ixA 4 p1).bind fun j5 => (ixA 4 p2).bind fun j6 => bnd (fX2_overwrite (6 + j5) (6 + j6) w4) fun x7 w8 => some (x7, w8) else some ((-1 : Int32), w4) else some ((-1 : Int32), w2)
abbrev rmX8_copy : Room := { frames := 2, cells := 0, slots := 0, locals := 44 }
set_option maxHeartbeats 4000000 in
set_option maxRecDepth 100000 in
theorem kX8_copy (l : Launch) (E : Ev) (p1 : Int32) (p2 : Int32) (w : Wd) (q : Int32 × Wd) (h : fX8_copy p1 p2 w = some q) : CtI l yX8_copy wsX8_copy rmX8_copy E full [.ref (E.2.1 0), .int p1, .int p2] w q := by
  refine mkI (cc := cX8_copy) (maxL := 3) (by decide) rfl (Nat.le_of_ble_eq_true rfl) ?_
  intro p e s m args below meth c Q S hW hQ ls hl
  obtain ⟨hx, hb, hml, hown, hts⟩ := id S
  have hW0 := hW
  have hS : va_S (wA E full) s.heap s.heap [] := va_S.rf
  have hl : lv_has ls 3 [(0, .ref (E.2.1 0)), (1, .int p1), (2, .int p2)] := hl
  have iX8 : ∀ w ∈ wsX80, w ∈ wsX8_copy := by decide +kernel
  have e14 := hts (.fieldLink RX8 14 "CubeHeaps" "ground" "LCubeHeaps$Ground;") (by decide +kernel)
  have e20 := hts (.fieldLink RX8 20 "CubeHeaps" "slots" "[[I") (by decide +kernel)
  unfold fX8_copy at h
  refine lv_iload_n hx hb dX8_copy_0 rfl (lv_at hl 1 rfl) ?_
  refine rc_Si (As := [.int p1]) (rest := []) S hW hS h (kX8_noSlot l E p1 w) (va_cwS 1 hts gX8_copy_X8_noSlot rfl rfl rfl hdX8_noSlot ⟨Nat.le_of_ble_eq_true rfl, Nat.le_of_ble_eq_true rfl⟩) rfl hl.1 rfl (Nat.le_of_ble_eq_true rfl) ⟨Nat.zero_le _, Nat.zero_le _⟩ dX8_copy_1 (fun x1 w2 H locs h hW hS => ?_)
  refine rb_if_ne (tgt := 14) hx hb h dX8_copy_4 (by decide) (fun h => ?_) (fun h => ?_)
  · refine lv_iconst (v := (-1 : Int32)) hx hb dX8_copy_14 (by decide) ?_
    exact rrI hQ hW hS h dX8_copy_15
  · refine lv_iload_n hx hb dX8_copy_7 rfl (lv_at hl 2 rfl) ?_
    refine rc_Si (As := [.int p2]) (rest := []) S hW hS h (kX8_noSlot l E p2 w2) (va_cwS 1 hts gX8_copy_X8_noSlot rfl rfl rfl hdX8_noSlot ⟨Nat.le_of_ble_eq_true rfl, Nat.le_of_ble_eq_true rfl⟩) rfl hl.1 rfl (Nat.le_of_ble_eq_true rfl) ⟨Nat.zero_le _, Nat.zero_le _⟩ dX8_copy_8 (fun x3 w4 H locs h hW hS => ?_)
    refine rb_if_eq (tgt := 16) hx hb h dX8_copy_11 (by decide) (fun h => ?_) (fun h => ?_)
    · refine lv_aload_n hx hb dX8_copy_16 rfl (lv_at hl 0 rfl) ?_
      refine rw_get hx hb hts iX8 hown hW (fl 0 rfl) rfl rfl 0 (by decide) e14 rfl (v := .ref (E.2.1 1)) rfl dX8_copy_17 ?_
      refine lv_aload_n hx hb dX8_copy_20 rfl (lv_at hl 0 rfl) ?_
      refine rw_get hx hb hts iX8 hown hW (fl 0 rfl) rfl rfl 1 (by decide) e20 rfl (v := .ref (E.2.1 5)) rfl dX8_copy_21 ?_
      refine lv_iload_n hx hb dX8_copy_24 rfl (lv_at hl 1 rfl) ?_
      refine rw_aaldI hx hb hW (fl 5 rfl) rfl h dX8_copy_25 (fun j5 h => ?_)
      refine lv_aload_n hx hb dX8_copy_26 rfl (lv_at hl 0 rfl) ?_
      refine rw_get hx hb hts iX8 hown hW (fl 0 rfl) rfl rfl 1 (by decide) e20 rfl (v := .ref (E.2.1 5)) rfl dX8_copy_27 ?_
      refine lv_iload_n hx hb dX8_copy_30 rfl (lv_at hl 2 rfl) ?_
      refine rw_aaldI hx hb hW (fl 5 rfl) rfl h dX8_copy_31 (fun j6 h => ?_)
      refine rc_Vi (k := 1) (As := [.ref (E.2.1 (6 + j5)), .ref (E.2.1 (6 + j6))]) (rest := []) S hW hS h (kX2_overwrite l E (6 + j5) (6 + j6) w4) (cwV 2 hts gX8_copy_X2_overwrite rfl rfl rfl hdX2_overwrite ⟨Nat.le_of_ble_eq_true rfl, Nat.le_of_ble_eq_true rfl⟩) (fl 1 rfl) rfl rfl rfl rfl hl.1 rfl (Nat.le_of_ble_eq_true rfl) ⟨Nat.zero_le _, Nat.zero_le _⟩ dX8_copy_32 (fun x7 w8 H locs h hW hS => ?_)
      exact rrI hQ hW hS h dX8_copy_35
    · refine lv_iconst (v := (-1 : Int32)) hx hb dX8_copy_14 (by decide) ?_
      exact rrI hQ hW hS h dX8_copy_15
noncomputable def fX8_cubes (p1 : Int32) (w : Wd) : Option (Int32 × Wd) :=
  bnd (fX8_noSlot p1 w) fun x1 w2 => if x1 = 0 then (ixA 4 p1).bind fun j3 => bnd (fX2_total (6 + j3) w2) fun x4 w5 => some (x4, w5) else some ((-1 : Int32), w2)
abbrev rmX8_cubes : Room := { frames := 2, cells := 0, slots := 0, locals := 43 }
set_option maxHeartbeats 4000000 in
set_option maxRecDepth 100000 in
theorem kX8_cubes (l : Launch) (E : Ev) (p1 : Int32) (w : Wd) (q : Int32 × Wd) (h : fX8_cubes p1 w = some q) : CtI l yX8_cubes wsX8_cubes rmX8_cubes E full [.ref (E.2.1 0), .int p1] w q := by
  refine mkI (cc := cX8_cubes) (maxL := 2) (by decide) rfl (Nat.le_of_ble_eq_true rfl) ?_
  intro p e s m args below meth c Q S hW hQ ls hl
  obtain ⟨hx, hb, hml, hown, hts⟩ := id S
  have hW0 := hW
  have hS : va_S (wA E full) s.heap s.heap [] := va_S.rf
  have hl : lv_has ls 2 [(0, .ref (E.2.1 0)), (1, .int p1)] := hl
  have iX8 : ∀ w ∈ wsX80, w ∈ wsX8_cubes := by decide +kernel
  have e14 := hts (.fieldLink RX8 14 "CubeHeaps" "ground" "LCubeHeaps$Ground;") (by decide +kernel)
  have e20 := hts (.fieldLink RX8 20 "CubeHeaps" "slots" "[[I") (by decide +kernel)
  unfold fX8_cubes at h
  refine lv_iload_n hx hb dX8_cubes_0 rfl (lv_at hl 1 rfl) ?_
  refine rc_Si (As := [.int p1]) (rest := []) S hW hS h (kX8_noSlot l E p1 w) (va_cwS 1 hts gX8_cubes_X8_noSlot rfl rfl rfl hdX8_noSlot ⟨Nat.le_of_ble_eq_true rfl, Nat.le_of_ble_eq_true rfl⟩) rfl hl.1 rfl (Nat.le_of_ble_eq_true rfl) ⟨Nat.zero_le _, Nat.zero_le _⟩ dX8_cubes_1 (fun x1 w2 H locs h hW hS => ?_)
  refine rb_if_eq (tgt := 9) hx hb h dX8_cubes_4 (by decide) (fun h => ?_) (fun h => ?_)
  · refine lv_aload_n hx hb dX8_cubes_9 rfl (lv_at hl 0 rfl) ?_
    refine rw_get hx hb hts iX8 hown hW (fl 0 rfl) rfl rfl 0 (by decide) e14 rfl (v := .ref (E.2.1 1)) rfl dX8_cubes_10 ?_
    refine lv_aload_n hx hb dX8_cubes_13 rfl (lv_at hl 0 rfl) ?_
    refine rw_get hx hb hts iX8 hown hW (fl 0 rfl) rfl rfl 1 (by decide) e20 rfl (v := .ref (E.2.1 5)) rfl dX8_cubes_14 ?_
    refine lv_iload_n hx hb dX8_cubes_17 rfl (lv_at hl 1 rfl) ?_
    refine rw_aaldI hx hb hW (fl 5 rfl) rfl h dX8_cubes_18 (fun j3 h => ?_)
    refine rc_Vi (k := 1) (As := [.ref (E.2.1 (6 + j3))]) (rest := []) S hW hS h (kX2_total l E (6 + j3) w2) (cwV 1 hts gX8_cubes_X2_total rfl rfl rfl hdX2_total ⟨Nat.le_of_ble_eq_true rfl, Nat.le_of_ble_eq_true rfl⟩) (fl 1 rfl) rfl rfl rfl rfl hl.1 rfl (Nat.le_of_ble_eq_true rfl) ⟨Nat.zero_le _, Nat.zero_le _⟩ dX8_cubes_19 (fun x4 w5 H locs h hW hS => ?_)
    exact rrI hQ hW hS h dX8_cubes_22
  · refine lv_iconst (v := (-1 : Int32)) hx hb dX8_cubes_7 (by decide) ?_
    exact rrI hQ hW hS h dX8_cubes_8
noncomputable def jX8_noLine_16 (p1 : Int32) (p2 : Int32)  (w : Wd) : Option (Int32 × Wd) :=
  zr (1 : Int32) w
noncomputable def fX8_noLine (p1 : Int32) (p2 : Int32) (w : Wd) : Option (Int32 × Wd) :=
  if p2 < 0 then jX8_noLine_16 p1 p2 w else bnd (fX2_lines p1 w) fun x1 w2 => if p2 < x1 then zr (0 : Int32) w2 else jX8_noLine_16 p1 p2 w2
abbrev rmX8_noLine : Room := { frames := 1, cells := 0, slots := 0, locals := 21 }
set_option maxHeartbeats 4000000 in
set_option maxRecDepth 100000 in
theorem kX8_noLine (l : Launch) (E : Ev) (p1 : Int32) (p2 : Int32) (w : Wd) (q : Int32 × Wd) (h : fX8_noLine p1 p2 w = some q) : CtI l yX8_noLine wsX8_noLine rmX8_noLine E full [.ref (E.2.1 0), .int p1, .int p2] w q := by
  refine mkZ (cc := cX8_noLine) (maxL := 3) (by decide) rfl (Nat.le_of_ble_eq_true rfl) ?_
  intro p e s m args below meth c Q S hW hQ ls hl
  obtain ⟨hx, hb, hml, hown, hts⟩ := id S
  have hW0 := hW
  have hS : va_S (wA E full) s.heap s.heap [] := va_S.rf
  have hl : lv_has ls 3 [(0, .ref (E.2.1 0)), (1, .int p1), (2, .int p2)] := hl
  have iX8 : ∀ w ∈ wsX80, w ∈ wsX8_noLine := by decide +kernel
  have e14 := hts (.fieldLink RX8 14 "CubeHeaps" "ground" "LCubeHeaps$Ground;") (by decide +kernel)
  have J16 : ∀  (w : Wd) (H : Heap) (locs : List Loc) (ls : Array Slot), jX8_noLine_16 p1 p2 w = some q → World E full w s H → va_S (wA E full) s.heap H locs → lv_has ls 3 [] → W p l e rmX8_noLine s m args below meth c H locs 0 0 Q (F0 m 16 ls []) := by
    intro  w H locs ls h hW hS hl
    unfold jX8_noLine_16 at h
    refine lv_iconst (v := (1 : Int32)) hx hb dX8_noLine_16 (by decide) ?_
    refine lv_goto (tgt := 21) hx hb dX8_noLine_17 (by decide) ?_
    exact rrZ hQ hW hS h dX8_noLine_21
  unfold fX8_noLine at h
  refine lv_iload_n hx hb dX8_noLine_0 rfl (lv_at hl 2 rfl) ?_
  refine rb_if_lt (tgt := 16) hx hb h dX8_noLine_1 (by decide) (fun h => ?_) (fun h => ?_)
  · exact J16  _ _ _ _ h hW hS (lv_sub hl [] rfl)
  · refine lv_iload_n hx hb dX8_noLine_4 rfl (lv_at hl 2 rfl) ?_
    refine lv_aload_n hx hb dX8_noLine_5 rfl (lv_at hl 0 rfl) ?_
    refine rw_get hx hb hts iX8 hown hW (fl 0 rfl) rfl rfl 0 (by decide) e14 rfl (v := .ref (E.2.1 1)) rfl dX8_noLine_6 ?_
    refine lv_iload_n hx hb dX8_noLine_9 rfl (lv_at hl 1 rfl) ?_
    refine rc_Vi (k := 1) (As := [.int p1]) (rest := [.int p2]) S hW hS h (kX2_lines l E p1 w) (cwV 1 hts gX8_noLine_X2_lines rfl rfl rfl hdX2_lines ⟨Nat.le_of_ble_eq_true rfl, Nat.le_of_ble_eq_true rfl⟩) (fl 1 rfl) rfl rfl rfl rfl hl.1 rfl (Nat.le_of_ble_eq_true rfl) ⟨Nat.zero_le _, Nat.zero_le _⟩ dX8_noLine_10 (fun x1 w2 H locs h hW hS => ?_)
    refine rb_icmp_lt (tgt := 20) hx hb h dX8_noLine_13 (by decide) (fun h => ?_) (fun h => ?_)
    · refine lv_iconst (v := (0 : Int32)) hx hb dX8_noLine_20 (by decide) ?_
      exact rrZ hQ hW hS h dX8_noLine_21
    · exact J16  _ _ _ _ h hW hS (lv_sub hl [] rfl)
noncomputable def fX8_front (p1 : Int32) (p2 : Int32) (w : Wd) : Option (Int32 × Wd) :=
  bnd (fX8_noSlot p1 w) fun x1 w2 => if x1 = 0 then bnd (fX8_noLine (1 : Int32) p2 w2) fun x3 w4 => if x3 = 0 then (ixA 4 p1).bind fun j5 => bnd (fX7_tallest (6 + j5) (1 : Int32) p2 w4) fun x6 w7 => some (x6, w7) else some ((-1 : Int32), w4) else some ((-1 : Int32), w2)
abbrev rmX8_front : Room := { frames := 2, cells := 0, slots := 0, locals := 48 }
set_option maxHeartbeats 4000000 in
set_option maxRecDepth 100000 in
theorem kX8_front (l : Launch) (E : Ev) (p1 : Int32) (p2 : Int32) (w : Wd) (q : Int32 × Wd) (h : fX8_front p1 p2 w = some q) : CtI l yX8_front wsX8_front rmX8_front E full [.ref (E.2.1 0), .int p1, .int p2] w q := by
  refine mkI (cc := cX8_front) (maxL := 3) (by decide) rfl (Nat.le_of_ble_eq_true rfl) ?_
  intro p e s m args below meth c Q S hW hQ ls hl
  obtain ⟨hx, hb, hml, hown, hts⟩ := id S
  have hW0 := hW
  have hS : va_S (wA E full) s.heap s.heap [] := va_S.rf
  have hl : lv_has ls 3 [(0, .ref (E.2.1 0)), (1, .int p1), (2, .int p2)] := hl
  have iX8 : ∀ w ∈ wsX80, w ∈ wsX8_front := by decide +kernel
  have e20 := hts (.fieldLink RX8 20 "CubeHeaps" "slots" "[[I") (by decide +kernel)
  have e28 := hts (.fieldLink RX8 28 "CubeHeaps" "view" "LCubeHeaps$View;") (by decide +kernel)
  unfold fX8_front at h
  refine lv_iload_n hx hb dX8_front_0 rfl (lv_at hl 1 rfl) ?_
  refine rc_Si (As := [.int p1]) (rest := []) S hW hS h (kX8_noSlot l E p1 w) (va_cwS 1 hts gX8_front_X8_noSlot rfl rfl rfl hdX8_noSlot ⟨Nat.le_of_ble_eq_true rfl, Nat.le_of_ble_eq_true rfl⟩) rfl hl.1 rfl (Nat.le_of_ble_eq_true rfl) ⟨Nat.zero_le _, Nat.zero_le _⟩ dX8_front_1 (fun x1 w2 H locs h hW hS => ?_)
  refine rb_if_ne (tgt := 16) hx hb h dX8_front_4 (by decide) (fun h => ?_) (fun h => ?_)
  · refine lv_iconst (v := (-1 : Int32)) hx hb dX8_front_16 (by decide) ?_
    exact rrI hQ hW hS h dX8_front_17
  · refine lv_aload_n hx hb dX8_front_7 rfl (lv_at hl 0 rfl) ?_
    refine lv_iconst (v := (1 : Int32)) hx hb dX8_front_8 (by decide) ?_
    refine lv_iload_n hx hb dX8_front_9 rfl (lv_at hl 2 rfl) ?_
    refine rc_Vi (k := 0) (As := [.int (1 : Int32), .int p2]) (rest := []) S hW hS h (kX8_noLine l E (1 : Int32) p2 w2) (cwV 2 hts gX8_front_X8_noLine rfl rfl rfl hdX8_noLine ⟨Nat.le_of_ble_eq_true rfl, Nat.le_of_ble_eq_true rfl⟩) (fl 0 rfl) rfl rfl rfl rfl hl.1 rfl (Nat.le_of_ble_eq_true rfl) ⟨Nat.zero_le _, Nat.zero_le _⟩ dX8_front_10 (fun x3 w4 H locs h hW hS => ?_)
    refine rb_if_eq (tgt := 18) hx hb h dX8_front_13 (by decide) (fun h => ?_) (fun h => ?_)
    · refine lv_aload_n hx hb dX8_front_18 rfl (lv_at hl 0 rfl) ?_
      refine rw_get hx hb hts iX8 hown hW (fl 0 rfl) rfl rfl 2 (by decide) e28 rfl (v := .ref (E.2.1 10)) rfl dX8_front_19 ?_
      refine lv_aload_n hx hb dX8_front_22 rfl (lv_at hl 0 rfl) ?_
      refine rw_get hx hb hts iX8 hown hW (fl 0 rfl) rfl rfl 1 (by decide) e20 rfl (v := .ref (E.2.1 5)) rfl dX8_front_23 ?_
      refine lv_iload_n hx hb dX8_front_26 rfl (lv_at hl 1 rfl) ?_
      refine rw_aaldI hx hb hW (fl 5 rfl) rfl h dX8_front_27 (fun j5 h => ?_)
      refine lv_iconst (v := (1 : Int32)) hx hb dX8_front_28 (by decide) ?_
      refine lv_iload_n hx hb dX8_front_29 rfl (lv_at hl 2 rfl) ?_
      refine rc_Vi (k := 10) (As := [.ref (E.2.1 (6 + j5)), .int (1 : Int32), .int p2]) (rest := []) S hW hS h (kX7_tallest l E (6 + j5) (1 : Int32) p2 w4) (cwV 3 hts gX8_front_X7_tallest rfl rfl rfl hdX7_tallest ⟨Nat.le_of_ble_eq_true rfl, Nat.le_of_ble_eq_true rfl⟩) (fl 10 rfl) rfl rfl rfl rfl hl.1 rfl (Nat.le_of_ble_eq_true rfl) ⟨Nat.zero_le _, Nat.zero_le _⟩ dX8_front_30 (fun x6 w7 H locs h hW hS => ?_)
      exact rrI hQ hW hS h dX8_front_33
    · refine lv_iconst (v := (-1 : Int32)) hx hb dX8_front_16 (by decide) ?_
      exact rrI hQ hW hS h dX8_front_17
noncomputable def fX8_side (p1 : Int32) (p2 : Int32) (w : Wd) : Option (Int32 × Wd) :=
  bnd (fX8_noSlot p1 w) fun x1 w2 => if x1 = 0 then bnd (fX8_noLine (0 : Int32) p2 w2) fun x3 w4 => if x3 = 0 then (ixA 4 p1).bind fun j5 => bnd (fX7_tallest (6 + j5) (0 : Int32) p2 w4) fun x6 w7 => some (x6, w7) else some ((-1 : Int32), w4) else some ((-1 : Int32), w2)
abbrev rmX8_side : Room := { frames := 2, cells := 0, slots := 0, locals := 48 }
set_option maxHeartbeats 4000000 in
set_option maxRecDepth 100000 in
theorem kX8_side (l : Launch) (E : Ev) (p1 : Int32) (p2 : Int32) (w : Wd) (q : Int32 × Wd) (h : fX8_side p1 p2 w = some q) : CtI l yX8_side wsX8_side rmX8_side E full [.ref (E.2.1 0), .int p1, .int p2] w q := by
  refine mkI (cc := cX8_side) (maxL := 3) (by decide) rfl (Nat.le_of_ble_eq_true rfl) ?_
  intro p e s m args below meth c Q S hW hQ ls hl
  obtain ⟨hx, hb, hml, hown, hts⟩ := id S
  have hW0 := hW
  have hS : va_S (wA E full) s.heap s.heap [] := va_S.rf
  have hl : lv_has ls 3 [(0, .ref (E.2.1 0)), (1, .int p1), (2, .int p2)] := hl
  have iX8 : ∀ w ∈ wsX80, w ∈ wsX8_side := by decide +kernel
  have e20 := hts (.fieldLink RX8 20 "CubeHeaps" "slots" "[[I") (by decide +kernel)
  have e28 := hts (.fieldLink RX8 28 "CubeHeaps" "view" "LCubeHeaps$View;") (by decide +kernel)
  unfold fX8_side at h
  refine lv_iload_n hx hb dX8_side_0 rfl (lv_at hl 1 rfl) ?_
  refine rc_Si (As := [.int p1]) (rest := []) S hW hS h (kX8_noSlot l E p1 w) (va_cwS 1 hts gX8_side_X8_noSlot rfl rfl rfl hdX8_noSlot ⟨Nat.le_of_ble_eq_true rfl, Nat.le_of_ble_eq_true rfl⟩) rfl hl.1 rfl (Nat.le_of_ble_eq_true rfl) ⟨Nat.zero_le _, Nat.zero_le _⟩ dX8_side_1 (fun x1 w2 H locs h hW hS => ?_)
  refine rb_if_ne (tgt := 16) hx hb h dX8_side_4 (by decide) (fun h => ?_) (fun h => ?_)
  · refine lv_iconst (v := (-1 : Int32)) hx hb dX8_side_16 (by decide) ?_
    exact rrI hQ hW hS h dX8_side_17
  · refine lv_aload_n hx hb dX8_side_7 rfl (lv_at hl 0 rfl) ?_
    refine lv_iconst (v := (0 : Int32)) hx hb dX8_side_8 (by decide) ?_
    refine lv_iload_n hx hb dX8_side_9 rfl (lv_at hl 2 rfl) ?_
    refine rc_Vi (k := 0) (As := [.int (0 : Int32), .int p2]) (rest := []) S hW hS h (kX8_noLine l E (0 : Int32) p2 w2) (cwV 2 hts gX8_side_X8_noLine rfl rfl rfl hdX8_noLine ⟨Nat.le_of_ble_eq_true rfl, Nat.le_of_ble_eq_true rfl⟩) (fl 0 rfl) rfl rfl rfl rfl hl.1 rfl (Nat.le_of_ble_eq_true rfl) ⟨Nat.zero_le _, Nat.zero_le _⟩ dX8_side_10 (fun x3 w4 H locs h hW hS => ?_)
    refine rb_if_eq (tgt := 18) hx hb h dX8_side_13 (by decide) (fun h => ?_) (fun h => ?_)
    · refine lv_aload_n hx hb dX8_side_18 rfl (lv_at hl 0 rfl) ?_
      refine rw_get hx hb hts iX8 hown hW (fl 0 rfl) rfl rfl 2 (by decide) e28 rfl (v := .ref (E.2.1 10)) rfl dX8_side_19 ?_
      refine lv_aload_n hx hb dX8_side_22 rfl (lv_at hl 0 rfl) ?_
      refine rw_get hx hb hts iX8 hown hW (fl 0 rfl) rfl rfl 1 (by decide) e20 rfl (v := .ref (E.2.1 5)) rfl dX8_side_23 ?_
      refine lv_iload_n hx hb dX8_side_26 rfl (lv_at hl 1 rfl) ?_
      refine rw_aaldI hx hb hW (fl 5 rfl) rfl h dX8_side_27 (fun j5 h => ?_)
      refine lv_iconst (v := (0 : Int32)) hx hb dX8_side_28 (by decide) ?_
      refine lv_iload_n hx hb dX8_side_29 rfl (lv_at hl 2 rfl) ?_
      refine rc_Vi (k := 10) (As := [.ref (E.2.1 (6 + j5)), .int (0 : Int32), .int p2]) (rest := []) S hW hS h (kX7_tallest l E (6 + j5) (0 : Int32) p2 w4) (cwV 3 hts gX8_side_X7_tallest rfl rfl rfl hdX7_tallest ⟨Nat.le_of_ble_eq_true rfl, Nat.le_of_ble_eq_true rfl⟩) (fl 10 rfl) rfl rfl rfl rfl hl.1 rfl (Nat.le_of_ble_eq_true rfl) ⟨Nat.zero_le _, Nat.zero_le _⟩ dX8_side_30 (fun x6 w7 H locs h hW hS => ?_)
      exact rrI hQ hW hS h dX8_side_33
    · refine lv_iconst (v := (-1 : Int32)) hx hb dX8_side_16 (by decide) ?_
      exact rrI hQ hW hS h dX8_side_17
noncomputable def fX8_sum (p1 : Int32) (p2 : Int32) (p3 : Int32) (w : Wd) : Option (Int32 × Wd) :=
  bnd (fX8_noSlot p1 w) fun x1 w2 => if x1 = 0 then bnd (fX8_noLine p2 p3 w2) fun x3 w4 => if x3 = 0 then (ixA 4 p1).bind fun j5 => bnd (fX2_lineTotal (6 + j5) p2 p3 w4) fun x6 w7 => some (x6, w7) else some ((-1 : Int32), w4) else some ((-1 : Int32), w2)
abbrev rmX8_sum : Room := { frames := 2, cells := 0, slots := 0, locals := 48 }
set_option maxHeartbeats 4000000 in
set_option maxRecDepth 100000 in
theorem kX8_sum (l : Launch) (E : Ev) (p1 : Int32) (p2 : Int32) (p3 : Int32) (w : Wd) (q : Int32 × Wd) (h : fX8_sum p1 p2 p3 w = some q) : CtI l yX8_sum wsX8_sum rmX8_sum E full [.ref (E.2.1 0), .int p1, .int p2, .int p3] w q := by
  refine mkI (cc := cX8_sum) (maxL := 4) (by decide) rfl (Nat.le_of_ble_eq_true rfl) ?_
  intro p e s m args below meth c Q S hW hQ ls hl
  obtain ⟨hx, hb, hml, hown, hts⟩ := id S
  have hW0 := hW
  have hS : va_S (wA E full) s.heap s.heap [] := va_S.rf
  have hl : lv_has ls 4 [(0, .ref (E.2.1 0)), (1, .int p1), (2, .int p2), (3, .int p3)] := hl
  have iX8 : ∀ w ∈ wsX80, w ∈ wsX8_sum := by decide +kernel
  have e14 := hts (.fieldLink RX8 14 "CubeHeaps" "ground" "LCubeHeaps$Ground;") (by decide +kernel)
  have e20 := hts (.fieldLink RX8 20 "CubeHeaps" "slots" "[[I") (by decide +kernel)
  unfold fX8_sum at h
  refine lv_iload_n hx hb dX8_sum_0 rfl (lv_at hl 1 rfl) ?_
  refine rc_Si (As := [.int p1]) (rest := []) S hW hS h (kX8_noSlot l E p1 w) (va_cwS 1 hts gX8_sum_X8_noSlot rfl rfl rfl hdX8_noSlot ⟨Nat.le_of_ble_eq_true rfl, Nat.le_of_ble_eq_true rfl⟩) rfl hl.1 rfl (Nat.le_of_ble_eq_true rfl) ⟨Nat.zero_le _, Nat.zero_le _⟩ dX8_sum_1 (fun x1 w2 H locs h hW hS => ?_)
  refine rb_if_ne (tgt := 16) hx hb h dX8_sum_4 (by decide) (fun h => ?_) (fun h => ?_)
  · refine lv_iconst (v := (-1 : Int32)) hx hb dX8_sum_16 (by decide) ?_
    exact rrI hQ hW hS h dX8_sum_17
  · refine lv_aload_n hx hb dX8_sum_7 rfl (lv_at hl 0 rfl) ?_
    refine lv_iload_n hx hb dX8_sum_8 rfl (lv_at hl 2 rfl) ?_
    refine lv_iload_n hx hb dX8_sum_9 rfl (lv_at hl 3 rfl) ?_
    refine rc_Vi (k := 0) (As := [.int p2, .int p3]) (rest := []) S hW hS h (kX8_noLine l E p2 p3 w2) (cwV 2 hts gX8_sum_X8_noLine rfl rfl rfl hdX8_noLine ⟨Nat.le_of_ble_eq_true rfl, Nat.le_of_ble_eq_true rfl⟩) (fl 0 rfl) rfl rfl rfl rfl hl.1 rfl (Nat.le_of_ble_eq_true rfl) ⟨Nat.zero_le _, Nat.zero_le _⟩ dX8_sum_10 (fun x3 w4 H locs h hW hS => ?_)
    refine rb_if_eq (tgt := 18) hx hb h dX8_sum_13 (by decide) (fun h => ?_) (fun h => ?_)
    · refine lv_aload_n hx hb dX8_sum_18 rfl (lv_at hl 0 rfl) ?_
      refine rw_get hx hb hts iX8 hown hW (fl 0 rfl) rfl rfl 0 (by decide) e14 rfl (v := .ref (E.2.1 1)) rfl dX8_sum_19 ?_
      refine lv_aload_n hx hb dX8_sum_22 rfl (lv_at hl 0 rfl) ?_
      refine rw_get hx hb hts iX8 hown hW (fl 0 rfl) rfl rfl 1 (by decide) e20 rfl (v := .ref (E.2.1 5)) rfl dX8_sum_23 ?_
      refine lv_iload_n hx hb dX8_sum_26 rfl (lv_at hl 1 rfl) ?_
      refine rw_aaldI hx hb hW (fl 5 rfl) rfl h dX8_sum_27 (fun j5 h => ?_)
      refine lv_iload_n hx hb dX8_sum_28 rfl (lv_at hl 2 rfl) ?_
      refine lv_iload_n hx hb dX8_sum_29 rfl (lv_at hl 3 rfl) ?_
      refine rc_Vi (k := 1) (As := [.ref (E.2.1 (6 + j5)), .int p2, .int p3]) (rest := []) S hW hS h (kX2_lineTotal l E (6 + j5) p2 p3 w4) (cwV 3 hts gX8_sum_X2_lineTotal rfl rfl rfl hdX2_lineTotal ⟨Nat.le_of_ble_eq_true rfl, Nat.le_of_ble_eq_true rfl⟩) (fl 1 rfl) rfl rfl rfl rfl hl.1 rfl (Nat.le_of_ble_eq_true rfl) ⟨Nat.zero_le _, Nat.zero_le _⟩ dX8_sum_30 (fun x6 w7 H locs h hW hS => ?_)
      exact rrI hQ hW hS h dX8_sum_33
    · refine lv_iconst (v := (-1 : Int32)) hx hb dX8_sum_16 (by decide) ?_
      exact rrI hQ hW hS h dX8_sum_17
noncomputable def fX8_seen (p1 : Int32) (p2 : Int32) (p3 : Int32) (w : Wd) : Option (Int32 × Wd) :=
  bnd (fX8_noSlot p1 w) fun x1 w2 => if x1 = 0 then if p2 < 0 then some ((-2 : Int32), w2) else if p2 < (4 : Int32) then bnd (fX7_alongColumn p2 w2) fun x3 w4 => bnd (fX8_noLine x3 p3 w4) fun x5 w6 => if x5 = 0 then (ixA 4 p1).bind fun j7 => bnd (fX7_towersSeen (6 + j7) p2 p3 w6) fun x8 w9 => some (x8, w9) else some ((-1 : Int32), w6) else some ((-2 : Int32), w2) else some ((-1 : Int32), w2)
abbrev rmX8_seen : Room := { frames := 2, cells := 0, slots := 0, locals := 53 }
set_option maxHeartbeats 4000000 in
set_option maxRecDepth 100000 in
theorem kX8_seen (l : Launch) (E : Ev) (p1 : Int32) (p2 : Int32) (p3 : Int32) (w : Wd) (q : Int32 × Wd) (h : fX8_seen p1 p2 p3 w = some q) : CtI l yX8_seen wsX8_seen rmX8_seen E full [.ref (E.2.1 0), .int p1, .int p2, .int p3] w q := by
  refine mkI (cc := cX8_seen) (maxL := 4) (by decide) rfl (Nat.le_of_ble_eq_true rfl) ?_
  intro p e s m args below meth c Q S hW hQ ls hl
  obtain ⟨hx, hb, hml, hown, hts⟩ := id S
  have hW0 := hW
  have hS : va_S (wA E full) s.heap s.heap [] := va_S.rf
  have hl : lv_has ls 4 [(0, .ref (E.2.1 0)), (1, .int p1), (2, .int p2), (3, .int p3)] := hl
  have iX8 : ∀ w ∈ wsX80, w ∈ wsX8_seen := by decide +kernel
  have e20 := hts (.fieldLink RX8 20 "CubeHeaps" "slots" "[[I") (by decide +kernel)
  have e28 := hts (.fieldLink RX8 28 "CubeHeaps" "view" "LCubeHeaps$View;") (by decide +kernel)
  unfold fX8_seen at h
  refine lv_iload_n hx hb dX8_seen_0 rfl (lv_at hl 1 rfl) ?_
  refine rc_Si (As := [.int p1]) (rest := []) S hW hS h (kX8_noSlot l E p1 w) (va_cwS 1 hts gX8_seen_X8_noSlot rfl rfl rfl hdX8_noSlot ⟨Nat.le_of_ble_eq_true rfl, Nat.le_of_ble_eq_true rfl⟩) rfl hl.1 rfl (Nat.le_of_ble_eq_true rfl) ⟨Nat.zero_le _, Nat.zero_le _⟩ dX8_seen_1 (fun x1 w2 H locs h hW hS => ?_)
  refine rb_if_eq (tgt := 9) hx hb h dX8_seen_4 (by decide) (fun h => ?_) (fun h => ?_)
  · refine lv_iload_n hx hb dX8_seen_9 rfl (lv_at hl 2 rfl) ?_
    refine rb_if_lt (tgt := 18) hx hb h dX8_seen_10 (by decide) (fun h => ?_) (fun h => ?_)
    · refine lv_bipush (v := (-2 : Int32)) hx hb dX8_seen_18 (by decide) ?_
      exact rrI hQ hW hS h dX8_seen_20
    · refine lv_iload_n hx hb dX8_seen_13 rfl (lv_at hl 2 rfl) ?_
      refine lv_iconst (v := (4 : Int32)) hx hb dX8_seen_14 (by decide) ?_
      refine rb_icmp_lt (tgt := 21) hx hb h dX8_seen_15 (by decide) (fun h => ?_) (fun h => ?_)
      · refine lv_aload_n hx hb dX8_seen_21 rfl (lv_at hl 0 rfl) ?_
        refine lv_iload_n hx hb dX8_seen_22 rfl (lv_at hl 2 rfl) ?_
        refine rc_Si (As := [.int p2]) (rest := [.ref (E.2.1 0)]) S hW hS h (kX7_alongColumn l E p2 w2) (va_cwS 1 hts gX8_seen_X7_alongColumn rfl rfl rfl hdX7_alongColumn ⟨Nat.le_of_ble_eq_true rfl, Nat.le_of_ble_eq_true rfl⟩) rfl hl.1 rfl (Nat.le_of_ble_eq_true rfl) ⟨Nat.zero_le _, Nat.zero_le _⟩ dX8_seen_23 (fun x3 w4 H locs h hW hS => ?_)
        refine lv_iload_n hx hb dX8_seen_26 rfl (lv_at hl 3 rfl) ?_
        refine rc_Vi (k := 0) (As := [.int x3, .int p3]) (rest := []) S hW hS h (kX8_noLine l E x3 p3 w4) (cwV 2 hts gX8_seen_X8_noLine rfl rfl rfl hdX8_noLine ⟨Nat.le_of_ble_eq_true rfl, Nat.le_of_ble_eq_true rfl⟩) (fl 0 rfl) rfl rfl rfl rfl hl.1 rfl (Nat.le_of_ble_eq_true rfl) ⟨Nat.zero_le _, Nat.zero_le _⟩ dX8_seen_27 (fun x5 w6 H locs h hW hS => ?_)
        refine rb_if_eq (tgt := 35) hx hb h dX8_seen_30 (by decide) (fun h => ?_) (fun h => ?_)
        · refine lv_aload_n hx hb dX8_seen_35 rfl (lv_at hl 0 rfl) ?_
          refine rw_get hx hb hts iX8 hown hW (fl 0 rfl) rfl rfl 2 (by decide) e28 rfl (v := .ref (E.2.1 10)) rfl dX8_seen_36 ?_
          refine lv_aload_n hx hb dX8_seen_39 rfl (lv_at hl 0 rfl) ?_
          refine rw_get hx hb hts iX8 hown hW (fl 0 rfl) rfl rfl 1 (by decide) e20 rfl (v := .ref (E.2.1 5)) rfl dX8_seen_40 ?_
          refine lv_iload_n hx hb dX8_seen_43 rfl (lv_at hl 1 rfl) ?_
          refine rw_aaldI hx hb hW (fl 5 rfl) rfl h dX8_seen_44 (fun j7 h => ?_)
          refine lv_iload_n hx hb dX8_seen_45 rfl (lv_at hl 2 rfl) ?_
          refine lv_iload_n hx hb dX8_seen_46 rfl (lv_at hl 3 rfl) ?_
          refine rc_Vi (k := 10) (As := [.ref (E.2.1 (6 + j7)), .int p2, .int p3]) (rest := []) S hW hS h (kX7_towersSeen l E (6 + j7) p2 p3 w6) (cwV 3 hts gX8_seen_X7_towersSeen rfl rfl rfl hdX7_towersSeen ⟨Nat.le_of_ble_eq_true rfl, Nat.le_of_ble_eq_true rfl⟩) (fl 10 rfl) rfl rfl rfl rfl hl.1 rfl (Nat.le_of_ble_eq_true rfl) ⟨Nat.zero_le _, Nat.zero_le _⟩ dX8_seen_47 (fun x8 w9 H locs h hW hS => ?_)
          exact rrI hQ hW hS h dX8_seen_50
        · refine lv_iconst (v := (-1 : Int32)) hx hb dX8_seen_33 (by decide) ?_
          exact rrI hQ hW hS h dX8_seen_34
      · refine lv_bipush (v := (-2 : Int32)) hx hb dX8_seen_18 (by decide) ?_
        exact rrI hQ hW hS h dX8_seen_20
  · refine lv_iconst (v := (-1 : Int32)) hx hb dX8_seen_7 (by decide) ?_
    exact rrI hQ hW hS h dX8_seen_8
noncomputable def fX8_skin (p1 : Int32) (w : Wd) : Option (Int32 × Wd) :=
  bnd (fX8_noSlot p1 w) fun x1 w2 => if x1 = 0 then (ixA 4 p1).bind fun j3 => bnd (fX7_openFaces (6 + j3) w2) fun x4 w5 => some (x4, w5) else some ((-1 : Int32), w2)
abbrev rmX8_skin : Room := { frames := 3, cells := 0, slots := 0, locals := 70 }
set_option maxHeartbeats 4000000 in
set_option maxRecDepth 100000 in
theorem kX8_skin (l : Launch) (E : Ev) (p1 : Int32) (w : Wd) (q : Int32 × Wd) (h : fX8_skin p1 w = some q) : CtI l yX8_skin wsX8_skin rmX8_skin E full [.ref (E.2.1 0), .int p1] w q := by
  refine mkI (cc := cX8_skin) (maxL := 2) (by decide) rfl (Nat.le_of_ble_eq_true rfl) ?_
  intro p e s m args below meth c Q S hW hQ ls hl
  obtain ⟨hx, hb, hml, hown, hts⟩ := id S
  have hW0 := hW
  have hS : va_S (wA E full) s.heap s.heap [] := va_S.rf
  have hl : lv_has ls 2 [(0, .ref (E.2.1 0)), (1, .int p1)] := hl
  have iX8 : ∀ w ∈ wsX80, w ∈ wsX8_skin := by decide +kernel
  have e20 := hts (.fieldLink RX8 20 "CubeHeaps" "slots" "[[I") (by decide +kernel)
  have e28 := hts (.fieldLink RX8 28 "CubeHeaps" "view" "LCubeHeaps$View;") (by decide +kernel)
  unfold fX8_skin at h
  refine lv_iload_n hx hb dX8_skin_0 rfl (lv_at hl 1 rfl) ?_
  refine rc_Si (As := [.int p1]) (rest := []) S hW hS h (kX8_noSlot l E p1 w) (va_cwS 1 hts gX8_skin_X8_noSlot rfl rfl rfl hdX8_noSlot ⟨Nat.le_of_ble_eq_true rfl, Nat.le_of_ble_eq_true rfl⟩) rfl hl.1 rfl (Nat.le_of_ble_eq_true rfl) ⟨Nat.zero_le _, Nat.zero_le _⟩ dX8_skin_1 (fun x1 w2 H locs h hW hS => ?_)
  refine rb_if_eq (tgt := 9) hx hb h dX8_skin_4 (by decide) (fun h => ?_) (fun h => ?_)
  · refine lv_aload_n hx hb dX8_skin_9 rfl (lv_at hl 0 rfl) ?_
    refine rw_get hx hb hts iX8 hown hW (fl 0 rfl) rfl rfl 2 (by decide) e28 rfl (v := .ref (E.2.1 10)) rfl dX8_skin_10 ?_
    refine lv_aload_n hx hb dX8_skin_13 rfl (lv_at hl 0 rfl) ?_
    refine rw_get hx hb hts iX8 hown hW (fl 0 rfl) rfl rfl 1 (by decide) e20 rfl (v := .ref (E.2.1 5)) rfl dX8_skin_14 ?_
    refine lv_iload_n hx hb dX8_skin_17 rfl (lv_at hl 1 rfl) ?_
    refine rw_aaldI hx hb hW (fl 5 rfl) rfl h dX8_skin_18 (fun j3 h => ?_)
    refine rc_Vi (k := 10) (As := [.ref (E.2.1 (6 + j3))]) (rest := []) S hW hS h (kX7_openFaces l E (6 + j3) w2) (cwV 1 hts gX8_skin_X7_openFaces rfl rfl rfl hdX7_openFaces ⟨Nat.le_of_ble_eq_true rfl, Nat.le_of_ble_eq_true rfl⟩) (fl 10 rfl) rfl rfl rfl rfl hl.1 rfl (Nat.le_of_ble_eq_true rfl) ⟨Nat.zero_le _, Nat.zero_le _⟩ dX8_skin_19 (fun x4 w5 H locs h hW hS => ?_)
    exact rrI hQ hW hS h dX8_skin_22
  · refine lv_iconst (v := (-1 : Int32)) hx hb dX8_skin_7 (by decide) ?_
    exact rrI hQ hW hS h dX8_skin_8
noncomputable def fX8_layer (p1 : Int32) (p2 : Int32) (p3 : Int32) (w : Wd) : Option (Int32 × Wd) :=
  bnd (fX8_noSlot p1 w) fun x1 w2 => if x1 = 0 then if p2 < (1 : Int32) then some ((-2 : Int32), w2) else if p2 ≤ (4 : Int32) then if p3 = 0 then (ixA 4 p1).bind fun j3 => bnd (fX7_layerCells (6 + j3) p2 w2) fun x4 w5 => some (x4, w5) else (ixA 4 p1).bind fun j6 => bnd (fX7_layerParts (6 + j6) p2 w2) fun x7 w8 => some (x7, w8) else some ((-2 : Int32), w2) else some ((-1 : Int32), w2)
abbrev rmX8_layer : Room := { frames := 3, cells := 0, slots := 0, locals := 74 }
set_option maxHeartbeats 4000000 in
set_option maxRecDepth 100000 in
theorem kX8_layer (l : Launch) (E : Ev) (p1 : Int32) (p2 : Int32) (p3 : Int32) (w : Wd) (q : Int32 × Wd) (h : fX8_layer p1 p2 p3 w = some q) : CtI l yX8_layer wsX8_layer rmX8_layer E full [.ref (E.2.1 0), .int p1, .int p2, .int p3] w q := by
  refine mkI (cc := cX8_layer) (maxL := 4) (by decide) rfl (Nat.le_of_ble_eq_true rfl) ?_
  intro p e s m args below meth c Q S hW hQ ls hl
  obtain ⟨hx, hb, hml, hown, hts⟩ := id S
  have hW0 := hW
  have hS : va_S (wA E full) s.heap s.heap [] := va_S.rf
  have hl : lv_has ls 4 [(0, .ref (E.2.1 0)), (1, .int p1), (2, .int p2), (3, .int p3)] := hl
  have iX8 : ∀ w ∈ wsX80, w ∈ wsX8_layer := by decide +kernel
  have e20 := hts (.fieldLink RX8 20 "CubeHeaps" "slots" "[[I") (by decide +kernel)
  have e28 := hts (.fieldLink RX8 28 "CubeHeaps" "view" "LCubeHeaps$View;") (by decide +kernel)
  unfold fX8_layer at h
  refine lv_iload_n hx hb dX8_layer_0 rfl (lv_at hl 1 rfl) ?_
  refine rc_Si (As := [.int p1]) (rest := []) S hW hS h (kX8_noSlot l E p1 w) (va_cwS 1 hts gX8_layer_X8_noSlot rfl rfl rfl hdX8_noSlot ⟨Nat.le_of_ble_eq_true rfl, Nat.le_of_ble_eq_true rfl⟩) rfl hl.1 rfl (Nat.le_of_ble_eq_true rfl) ⟨Nat.zero_le _, Nat.zero_le _⟩ dX8_layer_1 (fun x1 w2 H locs h hW hS => ?_)
  refine rb_if_eq (tgt := 9) hx hb h dX8_layer_4 (by decide) (fun h => ?_) (fun h => ?_)
  · refine lv_iload_n hx hb dX8_layer_9 rfl (lv_at hl 2 rfl) ?_
    refine lv_iconst (v := (1 : Int32)) hx hb dX8_layer_10 (by decide) ?_
    refine rb_icmp_lt (tgt := 19) hx hb h dX8_layer_11 (by decide) (fun h => ?_) (fun h => ?_)
    · refine lv_bipush (v := (-2 : Int32)) hx hb dX8_layer_19 (by decide) ?_
      exact rrI hQ hW hS h dX8_layer_21
    · refine lv_iload_n hx hb dX8_layer_14 rfl (lv_at hl 2 rfl) ?_
      refine lv_iconst (v := (4 : Int32)) hx hb dX8_layer_15 (by decide) ?_
      refine rb_icmp_le (tgt := 22) hx hb h dX8_layer_16 (by decide) (fun h => ?_) (fun h => ?_)
      · refine lv_iload_n hx hb dX8_layer_22 rfl (lv_at hl 3 rfl) ?_
        refine rb_if_eq (tgt := 43) hx hb h dX8_layer_23 (by decide) (fun h => ?_) (fun h => ?_)
        · refine lv_aload_n hx hb dX8_layer_43 rfl (lv_at hl 0 rfl) ?_
          refine rw_get hx hb hts iX8 hown hW (fl 0 rfl) rfl rfl 2 (by decide) e28 rfl (v := .ref (E.2.1 10)) rfl dX8_layer_44 ?_
          refine lv_aload_n hx hb dX8_layer_47 rfl (lv_at hl 0 rfl) ?_
          refine rw_get hx hb hts iX8 hown hW (fl 0 rfl) rfl rfl 1 (by decide) e20 rfl (v := .ref (E.2.1 5)) rfl dX8_layer_48 ?_
          refine lv_iload_n hx hb dX8_layer_51 rfl (lv_at hl 1 rfl) ?_
          refine rw_aaldI hx hb hW (fl 5 rfl) rfl h dX8_layer_52 (fun j3 h => ?_)
          refine lv_iload_n hx hb dX8_layer_53 rfl (lv_at hl 2 rfl) ?_
          refine rc_Vi (k := 10) (As := [.ref (E.2.1 (6 + j3)), .int p2]) (rest := []) S hW hS h (kX7_layerCells l E (6 + j3) p2 w2) (cwV 2 hts gX8_layer_X7_layerCells rfl rfl rfl hdX7_layerCells ⟨Nat.le_of_ble_eq_true rfl, Nat.le_of_ble_eq_true rfl⟩) (fl 10 rfl) rfl rfl rfl rfl hl.1 rfl (Nat.le_of_ble_eq_true rfl) ⟨Nat.zero_le _, Nat.zero_le _⟩ dX8_layer_54 (fun x4 w5 H locs h hW hS => ?_)
          exact rrI hQ hW hS h dX8_layer_57
        · refine lv_aload_n hx hb dX8_layer_26 rfl (lv_at hl 0 rfl) ?_
          refine rw_get hx hb hts iX8 hown hW (fl 0 rfl) rfl rfl 2 (by decide) e28 rfl (v := .ref (E.2.1 10)) rfl dX8_layer_27 ?_
          refine lv_aload_n hx hb dX8_layer_30 rfl (lv_at hl 0 rfl) ?_
          refine rw_get hx hb hts iX8 hown hW (fl 0 rfl) rfl rfl 1 (by decide) e20 rfl (v := .ref (E.2.1 5)) rfl dX8_layer_31 ?_
          refine lv_iload_n hx hb dX8_layer_34 rfl (lv_at hl 1 rfl) ?_
          refine rw_aaldI hx hb hW (fl 5 rfl) rfl h dX8_layer_35 (fun j6 h => ?_)
          refine lv_iload_n hx hb dX8_layer_36 rfl (lv_at hl 2 rfl) ?_
          refine rc_Vi (k := 10) (As := [.ref (E.2.1 (6 + j6)), .int p2]) (rest := []) S hW hS h (kX7_layerParts l E (6 + j6) p2 w2) (cwV 2 hts gX8_layer_X7_layerParts rfl rfl rfl hdX7_layerParts ⟨Nat.le_of_ble_eq_true rfl, Nat.le_of_ble_eq_true rfl⟩) (fl 10 rfl) rfl rfl rfl rfl hl.1 rfl (Nat.le_of_ble_eq_true rfl) ⟨Nat.zero_le _, Nat.zero_le _⟩ dX8_layer_37 (fun x7 w8 H locs h hW hS => ?_)
          refine lv_goto (tgt := 57) hx hb dX8_layer_40 (by decide) ?_
          exact rrI hQ hW hS h dX8_layer_57
      · refine lv_bipush (v := (-2 : Int32)) hx hb dX8_layer_19 (by decide) ?_
        exact rrI hQ hW hS h dX8_layer_21
  · refine lv_iconst (v := (-1 : Int32)) hx hb dX8_layer_7 (by decide) ?_
    exact rrI hQ hW hS h dX8_layer_8
noncomputable def fX8_water (p1 : Int32) (w : Wd) : Option (Int32 × Wd) :=
  bnd (fX8_noSlot p1 w) fun x1 w2 => if x1 = 0 then (ixA 4 p1).bind fun j3 => bnd (fX7_waterKept (6 + j3) w2) fun x4 w5 => some (x4, w5) else some ((-1 : Int32), w2)
abbrev rmX8_water : Room := { frames := 5, cells := 0, slots := 0, locals := 115 }
set_option maxHeartbeats 4000000 in
set_option maxRecDepth 100000 in
theorem kX8_water (l : Launch) (E : Ev) (p1 : Int32) (w : Wd) (q : Int32 × Wd) (h : fX8_water p1 w = some q) : CtI l yX8_water wsX8_water rmX8_water E full [.ref (E.2.1 0), .int p1] w q := by
  refine mkI (cc := cX8_water) (maxL := 2) (by decide) rfl (Nat.le_of_ble_eq_true rfl) ?_
  intro p e s m args below meth c Q S hW hQ ls hl
  obtain ⟨hx, hb, hml, hown, hts⟩ := id S
  have hW0 := hW
  have hS : va_S (wA E full) s.heap s.heap [] := va_S.rf
  have hl : lv_has ls 2 [(0, .ref (E.2.1 0)), (1, .int p1)] := hl
  have iX8 : ∀ w ∈ wsX80, w ∈ wsX8_water := by decide +kernel
  have e20 := hts (.fieldLink RX8 20 "CubeHeaps" "slots" "[[I") (by decide +kernel)
  have e28 := hts (.fieldLink RX8 28 "CubeHeaps" "view" "LCubeHeaps$View;") (by decide +kernel)
  unfold fX8_water at h
  refine lv_iload_n hx hb dX8_water_0 rfl (lv_at hl 1 rfl) ?_
  refine rc_Si (As := [.int p1]) (rest := []) S hW hS h (kX8_noSlot l E p1 w) (va_cwS 1 hts gX8_water_X8_noSlot rfl rfl rfl hdX8_noSlot ⟨Nat.le_of_ble_eq_true rfl, Nat.le_of_ble_eq_true rfl⟩) rfl hl.1 rfl (Nat.le_of_ble_eq_true rfl) ⟨Nat.zero_le _, Nat.zero_le _⟩ dX8_water_1 (fun x1 w2 H locs h hW hS => ?_)
  refine rb_if_eq (tgt := 9) hx hb h dX8_water_4 (by decide) (fun h => ?_) (fun h => ?_)
  · refine lv_aload_n hx hb dX8_water_9 rfl (lv_at hl 0 rfl) ?_
    refine rw_get hx hb hts iX8 hown hW (fl 0 rfl) rfl rfl 2 (by decide) e28 rfl (v := .ref (E.2.1 10)) rfl dX8_water_10 ?_
    refine lv_aload_n hx hb dX8_water_13 rfl (lv_at hl 0 rfl) ?_
    refine rw_get hx hb hts iX8 hown hW (fl 0 rfl) rfl rfl 1 (by decide) e20 rfl (v := .ref (E.2.1 5)) rfl dX8_water_14 ?_
    refine lv_iload_n hx hb dX8_water_17 rfl (lv_at hl 1 rfl) ?_
    refine rw_aaldI hx hb hW (fl 5 rfl) rfl h dX8_water_18 (fun j3 h => ?_)
    refine rc_Vi (k := 10) (As := [.ref (E.2.1 (6 + j3))]) (rest := []) S hW hS h (kX7_waterKept l E (6 + j3) w2) (cwV 1 hts gX8_water_X7_waterKept rfl rfl rfl hdX7_waterKept ⟨Nat.le_of_ble_eq_true rfl, Nat.le_of_ble_eq_true rfl⟩) (fl 10 rfl) rfl rfl rfl rfl hl.1 rfl (Nat.le_of_ble_eq_true rfl) ⟨Nat.zero_le _, Nat.zero_le _⟩ dX8_water_19 (fun x4 w5 H locs h hW hS => ?_)
    exact rrI hQ hW hS h dX8_water_22
  · refine lv_iconst (v := (-1 : Int32)) hx hb dX8_water_7 (by decide) ?_
    exact rrI hQ hW hS h dX8_water_8
noncomputable def fX8_level (p1 : Int32) (p2 : Int32) (w : Wd) : Option (Int32 × Wd) :=
  bnd (fX8_noSlot p1 w) fun x1 w2 => if x1 = 0 then bnd (fX8_noCell p2 w2) fun x3 w4 => if x3 = 0 then (ixA 4 p1).bind fun j5 => bnd (fX7_waterLevel (6 + j5) p2 w4) fun x6 w7 => some (x6, w7) else some ((-1 : Int32), w4) else some ((-1 : Int32), w2)
abbrev rmX8_level : Room := { frames := 5, cells := 0, slots := 0, locals := 116 }
set_option maxHeartbeats 4000000 in
set_option maxRecDepth 100000 in
theorem kX8_level (l : Launch) (E : Ev) (p1 : Int32) (p2 : Int32) (w : Wd) (q : Int32 × Wd) (h : fX8_level p1 p2 w = some q) : CtI l yX8_level wsX8_level rmX8_level E full [.ref (E.2.1 0), .int p1, .int p2] w q := by
  refine mkI (cc := cX8_level) (maxL := 3) (by decide) rfl (Nat.le_of_ble_eq_true rfl) ?_
  intro p e s m args below meth c Q S hW hQ ls hl
  obtain ⟨hx, hb, hml, hown, hts⟩ := id S
  have hW0 := hW
  have hS : va_S (wA E full) s.heap s.heap [] := va_S.rf
  have hl : lv_has ls 3 [(0, .ref (E.2.1 0)), (1, .int p1), (2, .int p2)] := hl
  have iX8 : ∀ w ∈ wsX80, w ∈ wsX8_level := by decide +kernel
  have e20 := hts (.fieldLink RX8 20 "CubeHeaps" "slots" "[[I") (by decide +kernel)
  have e28 := hts (.fieldLink RX8 28 "CubeHeaps" "view" "LCubeHeaps$View;") (by decide +kernel)
  unfold fX8_level at h
  refine lv_iload_n hx hb dX8_level_0 rfl (lv_at hl 1 rfl) ?_
  refine rc_Si (As := [.int p1]) (rest := []) S hW hS h (kX8_noSlot l E p1 w) (va_cwS 1 hts gX8_level_X8_noSlot rfl rfl rfl hdX8_noSlot ⟨Nat.le_of_ble_eq_true rfl, Nat.le_of_ble_eq_true rfl⟩) rfl hl.1 rfl (Nat.le_of_ble_eq_true rfl) ⟨Nat.zero_le _, Nat.zero_le _⟩ dX8_level_1 (fun x1 w2 H locs h hW hS => ?_)
  refine rb_if_ne (tgt := 15) hx hb h dX8_level_4 (by decide) (fun h => ?_) (fun h => ?_)
  · refine lv_iconst (v := (-1 : Int32)) hx hb dX8_level_15 (by decide) ?_
    exact rrI hQ hW hS h dX8_level_16
  · refine lv_aload_n hx hb dX8_level_7 rfl (lv_at hl 0 rfl) ?_
    refine lv_iload_n hx hb dX8_level_8 rfl (lv_at hl 2 rfl) ?_
    refine rc_Vi (k := 0) (As := [.int p2]) (rest := []) S hW hS h (kX8_noCell l E p2 w2) (cwV 1 hts gX8_level_X8_noCell rfl rfl rfl hdX8_noCell ⟨Nat.le_of_ble_eq_true rfl, Nat.le_of_ble_eq_true rfl⟩) (fl 0 rfl) rfl rfl rfl rfl hl.1 rfl (Nat.le_of_ble_eq_true rfl) ⟨Nat.zero_le _, Nat.zero_le _⟩ dX8_level_9 (fun x3 w4 H locs h hW hS => ?_)
    refine rb_if_eq (tgt := 17) hx hb h dX8_level_12 (by decide) (fun h => ?_) (fun h => ?_)
    · refine lv_aload_n hx hb dX8_level_17 rfl (lv_at hl 0 rfl) ?_
      refine rw_get hx hb hts iX8 hown hW (fl 0 rfl) rfl rfl 2 (by decide) e28 rfl (v := .ref (E.2.1 10)) rfl dX8_level_18 ?_
      refine lv_aload_n hx hb dX8_level_21 rfl (lv_at hl 0 rfl) ?_
      refine rw_get hx hb hts iX8 hown hW (fl 0 rfl) rfl rfl 1 (by decide) e20 rfl (v := .ref (E.2.1 5)) rfl dX8_level_22 ?_
      refine lv_iload_n hx hb dX8_level_25 rfl (lv_at hl 1 rfl) ?_
      refine rw_aaldI hx hb hW (fl 5 rfl) rfl h dX8_level_26 (fun j5 h => ?_)
      refine lv_iload_n hx hb dX8_level_27 rfl (lv_at hl 2 rfl) ?_
      refine rc_Vi (k := 10) (As := [.ref (E.2.1 (6 + j5)), .int p2]) (rest := []) S hW hS h (kX7_waterLevel l E (6 + j5) p2 w4) (cwV 2 hts gX8_level_X7_waterLevel rfl rfl rfl hdX7_waterLevel ⟨Nat.le_of_ble_eq_true rfl, Nat.le_of_ble_eq_true rfl⟩) (fl 10 rfl) rfl rfl rfl rfl hl.1 rfl (Nat.le_of_ble_eq_true rfl) ⟨Nat.zero_le _, Nat.zero_le _⟩ dX8_level_28 (fun x6 w7 H locs h hW hS => ?_)
      exact rrI hQ hW hS h dX8_level_31
    · refine lv_iconst (v := (-1 : Int32)) hx hb dX8_level_15 (by decide) ?_
      exact rrI hQ hW hS h dX8_level_16
noncomputable def jX8_tell_29 (p1 : Int32) (p2 : Int32) (p3 : Int32)  (w : Wd) : Option (Int32 × Wd) :=
  bnd (fX5_putLine p1 p2 p3 w) fun x3 w4 => some (x3, w4)
noncomputable def fX8_tell (p1 : Int32) (p2 : Int32) (p3 : Int32) (w : Wd) : Option (Int32 × Wd) :=
  bnd (fX8_noLine p1 p2 w) fun x1 w2 => if x1 = 0 then if p3 = (-9 : Int32) then jX8_tell_29 p1 p2 p3 w2 else if p3 < 0 then some ((-2 : Int32), w2) else if p3 ≤ (4 : Int32) then jX8_tell_29 p1 p2 p3 w2 else some ((-2 : Int32), w2) else some ((-1 : Int32), w2)
abbrev rmX8_tell : Room := { frames := 2, cells := 0, slots := 0, locals := 48 }
set_option maxHeartbeats 4000000 in
set_option maxRecDepth 100000 in
theorem kX8_tell (l : Launch) (E : Ev) (p1 : Int32) (p2 : Int32) (p3 : Int32) (w : Wd) (q : Int32 × Wd) (h : fX8_tell p1 p2 p3 w = some q) : CtI l yX8_tell wsX8_tell rmX8_tell E full [.ref (E.2.1 0), .int p1, .int p2, .int p3] w q := by
  refine mkI (cc := cX8_tell) (maxL := 4) (by decide) rfl (Nat.le_of_ble_eq_true rfl) ?_
  intro p e s m args below meth c Q S hW hQ ls hl
  obtain ⟨hx, hb, hml, hown, hts⟩ := id S
  have hW0 := hW
  have hS : va_S (wA E full) s.heap s.heap [] := va_S.rf
  have hl : lv_has ls 4 [(0, .ref (E.2.1 0)), (1, .int p1), (2, .int p2), (3, .int p3)] := hl
  have iX8 : ∀ w ∈ wsX80, w ∈ wsX8_tell := by decide +kernel
  have e37 := hts (.fieldLink RX8 37 "CubeHeaps" "told" "LCubeHeaps$Told;") (by decide +kernel)
  have J29 : ∀  (w : Wd) (H : Heap) (locs : List Loc) (ls : Array Slot), jX8_tell_29 p1 p2 p3 w = some q → World E full w s H → va_S (wA E full) s.heap H locs → lv_has ls 4 [(0, .ref (E.2.1 0)), (1, .int p1), (2, .int p2), (3, .int p3)] → W p l e rmX8_tell s m args below meth c H locs 0 0 Q (F0 m 29 ls []) := by
    intro  w H locs ls h hW hS hl
    unfold jX8_tell_29 at h
    refine lv_aload_n hx hb dX8_tell_29 rfl (lv_at hl 0 rfl) ?_
    refine rw_get hx hb hts iX8 hown hW (fl 0 rfl) rfl rfl 3 (by decide) e37 rfl (v := .ref (E.2.1 14)) rfl dX8_tell_30 ?_
    refine lv_iload_n hx hb dX8_tell_33 rfl (lv_at hl 1 rfl) ?_
    refine lv_iload_n hx hb dX8_tell_34 rfl (lv_at hl 2 rfl) ?_
    refine lv_iload_n hx hb dX8_tell_35 rfl (lv_at hl 3 rfl) ?_
    refine rc_Vi (k := 14) (As := [.int p1, .int p2, .int p3]) (rest := []) S hW hS h (kX5_putLine l E p1 p2 p3 w) (cwV 3 hts gX8_tell_X5_putLine rfl rfl rfl hdX5_putLine ⟨Nat.le_of_ble_eq_true rfl, Nat.le_of_ble_eq_true rfl⟩) (fl 14 rfl) rfl rfl rfl rfl hl.1 rfl (Nat.le_of_ble_eq_true rfl) ⟨Nat.zero_le _, Nat.zero_le _⟩ dX8_tell_36 (fun x3 w4 H locs h hW hS => ?_)
    exact rrI hQ hW hS h dX8_tell_39
  unfold fX8_tell at h
  refine lv_aload_n hx hb dX8_tell_0 rfl (lv_at hl 0 rfl) ?_
  refine lv_iload_n hx hb dX8_tell_1 rfl (lv_at hl 1 rfl) ?_
  refine lv_iload_n hx hb dX8_tell_2 rfl (lv_at hl 2 rfl) ?_
  refine rc_Vi (k := 0) (As := [.int p1, .int p2]) (rest := []) S hW hS h (kX8_noLine l E p1 p2 w) (cwV 2 hts gX8_tell_X8_noLine rfl rfl rfl hdX8_noLine ⟨Nat.le_of_ble_eq_true rfl, Nat.le_of_ble_eq_true rfl⟩) (fl 0 rfl) rfl rfl rfl rfl hl.1 rfl (Nat.le_of_ble_eq_true rfl) ⟨Nat.zero_le _, Nat.zero_le _⟩ dX8_tell_3 (fun x1 w2 H locs h hW hS => ?_)
  refine rb_if_eq (tgt := 11) hx hb h dX8_tell_6 (by decide) (fun h => ?_) (fun h => ?_)
  · refine lv_iload_n hx hb dX8_tell_11 rfl (lv_at hl 3 rfl) ?_
    refine lv_bipush (v := (-9 : Int32)) hx hb dX8_tell_12 (by decide) ?_
    refine rb_icmp_eq (tgt := 29) hx hb h dX8_tell_14 (by decide) (fun h => ?_) (fun h => ?_)
    · exact J29  _ _ _ _ h hW hS (hl)
    · refine lv_iload_n hx hb dX8_tell_17 rfl (lv_at hl 3 rfl) ?_
      refine rb_if_lt (tgt := 26) hx hb h dX8_tell_18 (by decide) (fun h => ?_) (fun h => ?_)
      · refine lv_bipush (v := (-2 : Int32)) hx hb dX8_tell_26 (by decide) ?_
        exact rrI hQ hW hS h dX8_tell_28
      · refine lv_iload_n hx hb dX8_tell_21 rfl (lv_at hl 3 rfl) ?_
        refine lv_iconst (v := (4 : Int32)) hx hb dX8_tell_22 (by decide) ?_
        refine rb_icmp_le (tgt := 29) hx hb h dX8_tell_23 (by decide) (fun h => ?_) (fun h => ?_)
        · exact J29  _ _ _ _ h hW hS (hl)
        · refine lv_bipush (v := (-2 : Int32)) hx hb dX8_tell_26 (by decide) ?_
          exact rrI hQ hW hS h dX8_tell_28
  · refine lv_iconst (v := (-1 : Int32)) hx hb dX8_tell_9 (by decide) ?_
    exact rrI hQ hW hS h dX8_tell_10
noncomputable def jX8_tellTop_28 (p1 : Int32) (p2 : Int32)  (w : Wd) : Option (Int32 × Wd) :=
  bnd (fX5_putTop p1 p2 w) fun x3 w4 => some (x3, w4)
noncomputable def fX8_tellTop (p1 : Int32) (p2 : Int32) (w : Wd) : Option (Int32 × Wd) :=
  bnd (fX8_noCell p1 w) fun x1 w2 => if x1 = 0 then if p2 = (-9 : Int32) then jX8_tellTop_28 p1 p2 w2 else if p2 = 0 then jX8_tellTop_28 p1 p2 w2 else if p2 = (1 : Int32) then jX8_tellTop_28 p1 p2 w2 else some ((-2 : Int32), w2) else some ((-1 : Int32), w2)
abbrev rmX8_tellTop : Room := { frames := 2, cells := 0, slots := 0, locals := 41 }
set_option maxHeartbeats 4000000 in
set_option maxRecDepth 100000 in
theorem kX8_tellTop (l : Launch) (E : Ev) (p1 : Int32) (p2 : Int32) (w : Wd) (q : Int32 × Wd) (h : fX8_tellTop p1 p2 w = some q) : CtI l yX8_tellTop wsX8_tellTop rmX8_tellTop E full [.ref (E.2.1 0), .int p1, .int p2] w q := by
  refine mkI (cc := cX8_tellTop) (maxL := 3) (by decide) rfl (Nat.le_of_ble_eq_true rfl) ?_
  intro p e s m args below meth c Q S hW hQ ls hl
  obtain ⟨hx, hb, hml, hown, hts⟩ := id S
  have hW0 := hW
  have hS : va_S (wA E full) s.heap s.heap [] := va_S.rf
  have hl : lv_has ls 3 [(0, .ref (E.2.1 0)), (1, .int p1), (2, .int p2)] := hl
  have iX8 : ∀ w ∈ wsX80, w ∈ wsX8_tellTop := by decide +kernel
  have e37 := hts (.fieldLink RX8 37 "CubeHeaps" "told" "LCubeHeaps$Told;") (by decide +kernel)
  have J28 : ∀  (w : Wd) (H : Heap) (locs : List Loc) (ls : Array Slot), jX8_tellTop_28 p1 p2 w = some q → World E full w s H → va_S (wA E full) s.heap H locs → lv_has ls 3 [(0, .ref (E.2.1 0)), (1, .int p1), (2, .int p2)] → W p l e rmX8_tellTop s m args below meth c H locs 0 0 Q (F0 m 28 ls []) := by
    intro  w H locs ls h hW hS hl
    unfold jX8_tellTop_28 at h
    refine lv_aload_n hx hb dX8_tellTop_28 rfl (lv_at hl 0 rfl) ?_
    refine rw_get hx hb hts iX8 hown hW (fl 0 rfl) rfl rfl 3 (by decide) e37 rfl (v := .ref (E.2.1 14)) rfl dX8_tellTop_29 ?_
    refine lv_iload_n hx hb dX8_tellTop_32 rfl (lv_at hl 1 rfl) ?_
    refine lv_iload_n hx hb dX8_tellTop_33 rfl (lv_at hl 2 rfl) ?_
    refine rc_Vi (k := 14) (As := [.int p1, .int p2]) (rest := []) S hW hS h (kX5_putTop l E p1 p2 w) (cwV 2 hts gX8_tellTop_X5_putTop rfl rfl rfl hdX5_putTop ⟨Nat.le_of_ble_eq_true rfl, Nat.le_of_ble_eq_true rfl⟩) (fl 14 rfl) rfl rfl rfl rfl hl.1 rfl (Nat.le_of_ble_eq_true rfl) ⟨Nat.zero_le _, Nat.zero_le _⟩ dX8_tellTop_34 (fun x3 w4 H locs h hW hS => ?_)
    exact rrI hQ hW hS h dX8_tellTop_37
  unfold fX8_tellTop at h
  refine lv_aload_n hx hb dX8_tellTop_0 rfl (lv_at hl 0 rfl) ?_
  refine lv_iload_n hx hb dX8_tellTop_1 rfl (lv_at hl 1 rfl) ?_
  refine rc_Vi (k := 0) (As := [.int p1]) (rest := []) S hW hS h (kX8_noCell l E p1 w) (cwV 1 hts gX8_tellTop_X8_noCell rfl rfl rfl hdX8_noCell ⟨Nat.le_of_ble_eq_true rfl, Nat.le_of_ble_eq_true rfl⟩) (fl 0 rfl) rfl rfl rfl rfl hl.1 rfl (Nat.le_of_ble_eq_true rfl) ⟨Nat.zero_le _, Nat.zero_le _⟩ dX8_tellTop_2 (fun x1 w2 H locs h hW hS => ?_)
  refine rb_if_eq (tgt := 10) hx hb h dX8_tellTop_5 (by decide) (fun h => ?_) (fun h => ?_)
  · refine lv_iload_n hx hb dX8_tellTop_10 rfl (lv_at hl 2 rfl) ?_
    refine lv_bipush (v := (-9 : Int32)) hx hb dX8_tellTop_11 (by decide) ?_
    refine rb_icmp_eq (tgt := 28) hx hb h dX8_tellTop_13 (by decide) (fun h => ?_) (fun h => ?_)
    · exact J28  _ _ _ _ h hW hS (hl)
    · refine lv_iload_n hx hb dX8_tellTop_16 rfl (lv_at hl 2 rfl) ?_
      refine rb_if_eq (tgt := 28) hx hb h dX8_tellTop_17 (by decide) (fun h => ?_) (fun h => ?_)
      · exact J28  _ _ _ _ h hW hS (hl)
      · refine lv_iload_n hx hb dX8_tellTop_20 rfl (lv_at hl 2 rfl) ?_
        refine lv_iconst (v := (1 : Int32)) hx hb dX8_tellTop_21 (by decide) ?_
        refine rb_icmp_eq (tgt := 28) hx hb h dX8_tellTop_22 (by decide) (fun h => ?_) (fun h => ?_)
        · exact J28  _ _ _ _ h hW hS (hl)
        · refine lv_bipush (v := (-2 : Int32)) hx hb dX8_tellTop_25 (by decide) ?_
          exact rrI hQ hW hS h dX8_tellTop_27
  · refine lv_iconst (v := (-1 : Int32)) hx hb dX8_tellTop_8 (by decide) ?_
    exact rrI hQ hW hS h dX8_tellTop_9
noncomputable def fX8_tellAs (p1 : Int32) (p2 : Int32) (w : Wd) : Option (Int32 × Wd) :=
  bnd (fX8_noSlot p1 w) fun x1 w2 => if x1 = 0 then (ixA 4 p1).bind fun j3 => bnd (fX5_linesAs (6 + j3) w2) fun x4 w5 => if p2 = 0 then some (x4, w5) else (ixA 4 p1).bind fun j6 => bnd (fX5_topsAs (6 + j6) w5) fun x7 w8 => some ((x4 + x7), w8) else some ((-1 : Int32), w2)
abbrev rmX8_tellAs : Room := { frames := 4, cells := 0, slots := 0, locals := 94 }
set_option maxHeartbeats 4000000 in
set_option maxRecDepth 100000 in
theorem kX8_tellAs (l : Launch) (E : Ev) (p1 : Int32) (p2 : Int32) (w : Wd) (q : Int32 × Wd) (h : fX8_tellAs p1 p2 w = some q) : CtI l yX8_tellAs wsX8_tellAs rmX8_tellAs E full [.ref (E.2.1 0), .int p1, .int p2] w q := by
  refine mkI (cc := cX8_tellAs) (maxL := 4) (by decide) rfl (Nat.le_of_ble_eq_true rfl) ?_
  intro p e s m args below meth c Q S hW hQ ls hl
  obtain ⟨hx, hb, hml, hown, hts⟩ := id S
  have hW0 := hW
  have hS : va_S (wA E full) s.heap s.heap [] := va_S.rf
  have hl : lv_has ls 4 [(0, .ref (E.2.1 0)), (1, .int p1), (2, .int p2)] := hl
  have iX8 : ∀ w ∈ wsX80, w ∈ wsX8_tellAs := by decide +kernel
  have e20 := hts (.fieldLink RX8 20 "CubeHeaps" "slots" "[[I") (by decide +kernel)
  have e37 := hts (.fieldLink RX8 37 "CubeHeaps" "told" "LCubeHeaps$Told;") (by decide +kernel)
  unfold fX8_tellAs at h
  refine lv_iload_n hx hb dX8_tellAs_0 rfl (lv_at hl 1 rfl) ?_
  refine rc_Si (As := [.int p1]) (rest := []) S hW hS h (kX8_noSlot l E p1 w) (va_cwS 1 hts gX8_tellAs_X8_noSlot rfl rfl rfl hdX8_noSlot ⟨Nat.le_of_ble_eq_true rfl, Nat.le_of_ble_eq_true rfl⟩) rfl hl.1 rfl (Nat.le_of_ble_eq_true rfl) ⟨Nat.zero_le _, Nat.zero_le _⟩ dX8_tellAs_1 (fun x1 w2 H locs h hW hS => ?_)
  refine rb_if_eq (tgt := 9) hx hb h dX8_tellAs_4 (by decide) (fun h => ?_) (fun h => ?_)
  · refine lv_aload_n hx hb dX8_tellAs_9 rfl (lv_at hl 0 rfl) ?_
    refine rw_get hx hb hts iX8 hown hW (fl 0 rfl) rfl rfl 3 (by decide) e37 rfl (v := .ref (E.2.1 14)) rfl dX8_tellAs_10 ?_
    refine lv_aload_n hx hb dX8_tellAs_13 rfl (lv_at hl 0 rfl) ?_
    refine rw_get hx hb hts iX8 hown hW (fl 0 rfl) rfl rfl 1 (by decide) e20 rfl (v := .ref (E.2.1 5)) rfl dX8_tellAs_14 ?_
    refine lv_iload_n hx hb dX8_tellAs_17 rfl (lv_at hl 1 rfl) ?_
    refine rw_aaldI hx hb hW (fl 5 rfl) rfl h dX8_tellAs_18 (fun j3 h => ?_)
    refine rc_Vi (k := 14) (As := [.ref (E.2.1 (6 + j3))]) (rest := []) S hW hS h (kX5_linesAs l E (6 + j3) w2) (cwV 1 hts gX8_tellAs_X5_linesAs rfl rfl rfl hdX5_linesAs ⟨Nat.le_of_ble_eq_true rfl, Nat.le_of_ble_eq_true rfl⟩) (fl 14 rfl) rfl rfl rfl rfl hl.1 rfl (Nat.le_of_ble_eq_true rfl) ⟨Nat.zero_le _, Nat.zero_le _⟩ dX8_tellAs_19 (fun x4 w5 H locs h hW hS => ?_)
    refine lv_istore_n (lv' := [(3, .int x4), (0, .ref (E.2.1 0)), (1, .int p1), (2, .int p2)]) hx hb dX8_tellAs_22 rfl hl (by decide) rfl (fun ls hl => ?_)
    refine lv_iload_n hx hb dX8_tellAs_23 rfl (lv_at hl 3 rfl) ?_
    refine rb_if_eq (tgt := 45) hx hb h dX8_tellAs_24 (by decide) (fun h => ?_) (fun h => ?_)
    · refine lv_iload_n hx hb dX8_tellAs_45 rfl (lv_at hl 0 rfl) ?_
      exact rrI hQ hW hS h dX8_tellAs_46
    · refine lv_iload_n hx hb dX8_tellAs_27 rfl (lv_at hl 0 rfl) ?_
      refine lv_aload_n hx hb dX8_tellAs_28 rfl (lv_at hl 1 rfl) ?_
      refine rw_get hx hb hts iX8 hown hW (fl 0 rfl) rfl rfl 3 (by decide) e37 rfl (v := .ref (E.2.1 14)) rfl dX8_tellAs_29 ?_
      refine lv_aload_n hx hb dX8_tellAs_32 rfl (lv_at hl 1 rfl) ?_
      refine rw_get hx hb hts iX8 hown hW (fl 0 rfl) rfl rfl 1 (by decide) e20 rfl (v := .ref (E.2.1 5)) rfl dX8_tellAs_33 ?_
      refine lv_iload_n hx hb dX8_tellAs_36 rfl (lv_at hl 2 rfl) ?_
      refine rw_aaldI hx hb hW (fl 5 rfl) rfl h dX8_tellAs_37 (fun j6 h => ?_)
      refine rc_Vi (k := 14) (As := [.ref (E.2.1 (6 + j6))]) (rest := [.int x4]) S hW hS h (kX5_topsAs l E (6 + j6) w5) (cwV 1 hts gX8_tellAs_X5_topsAs rfl rfl rfl hdX5_topsAs ⟨Nat.le_of_ble_eq_true rfl, Nat.le_of_ble_eq_true rfl⟩) (fl 14 rfl) rfl rfl rfl rfl hl.1 rfl (Nat.le_of_ble_eq_true rfl) ⟨Nat.zero_le _, Nat.zero_le _⟩ dX8_tellAs_38 (fun x7 w8 H locs h hW hS => ?_)
      refine lv_iadd hx hb dX8_tellAs_41 ?_
      refine lv_goto (tgt := 46) hx hb dX8_tellAs_42 (by decide) ?_
      exact rrI hQ hW hS h dX8_tellAs_46
  · refine lv_iconst (v := (-1 : Int32)) hx hb dX8_tellAs_7 (by decide) ?_
    exact rrI hQ hW hS h dX8_tellAs_8
noncomputable def fX8_fits (p1 : Int32) (w : Wd) : Option (Int32 × Wd) :=
  bnd (fX8_noSlot p1 w) fun x1 w2 => if x1 = 0 then (ixA 4 p1).bind fun j3 => bnd (fX5_agrees (6 + j3) w2) fun x4 w5 => if x4 = 0 then some ((0 : Int32), w5) else some ((1 : Int32), w5) else some ((-1 : Int32), w2)
abbrev rmX8_fits : Room := { frames := 4, cells := 0, slots := 0, locals := 93 }
set_option maxHeartbeats 4000000 in
set_option maxRecDepth 100000 in
theorem kX8_fits (l : Launch) (E : Ev) (p1 : Int32) (w : Wd) (q : Int32 × Wd) (h : fX8_fits p1 w = some q) : CtI l yX8_fits wsX8_fits rmX8_fits E full [.ref (E.2.1 0), .int p1] w q := by
  refine mkI (cc := cX8_fits) (maxL := 2) (by decide) rfl (Nat.le_of_ble_eq_true rfl) ?_
  intro p e s m args below meth c Q S hW hQ ls hl
  obtain ⟨hx, hb, hml, hown, hts⟩ := id S
  have hW0 := hW
  have hS : va_S (wA E full) s.heap s.heap [] := va_S.rf
  have hl : lv_has ls 2 [(0, .ref (E.2.1 0)), (1, .int p1)] := hl
  have iX8 : ∀ w ∈ wsX80, w ∈ wsX8_fits := by decide +kernel
  have e20 := hts (.fieldLink RX8 20 "CubeHeaps" "slots" "[[I") (by decide +kernel)
  have e37 := hts (.fieldLink RX8 37 "CubeHeaps" "told" "LCubeHeaps$Told;") (by decide +kernel)
  unfold fX8_fits at h
  refine lv_iload_n hx hb dX8_fits_0 rfl (lv_at hl 1 rfl) ?_
  refine rc_Si (As := [.int p1]) (rest := []) S hW hS h (kX8_noSlot l E p1 w) (va_cwS 1 hts gX8_fits_X8_noSlot rfl rfl rfl hdX8_noSlot ⟨Nat.le_of_ble_eq_true rfl, Nat.le_of_ble_eq_true rfl⟩) rfl hl.1 rfl (Nat.le_of_ble_eq_true rfl) ⟨Nat.zero_le _, Nat.zero_le _⟩ dX8_fits_1 (fun x1 w2 H locs h hW hS => ?_)
  refine rb_if_eq (tgt := 9) hx hb h dX8_fits_4 (by decide) (fun h => ?_) (fun h => ?_)
  · refine lv_aload_n hx hb dX8_fits_9 rfl (lv_at hl 0 rfl) ?_
    refine rw_get hx hb hts iX8 hown hW (fl 0 rfl) rfl rfl 3 (by decide) e37 rfl (v := .ref (E.2.1 14)) rfl dX8_fits_10 ?_
    refine lv_aload_n hx hb dX8_fits_13 rfl (lv_at hl 0 rfl) ?_
    refine rw_get hx hb hts iX8 hown hW (fl 0 rfl) rfl rfl 1 (by decide) e20 rfl (v := .ref (E.2.1 5)) rfl dX8_fits_14 ?_
    refine lv_iload_n hx hb dX8_fits_17 rfl (lv_at hl 1 rfl) ?_
    refine rw_aaldI hx hb hW (fl 5 rfl) rfl h dX8_fits_18 (fun j3 h => ?_)
    refine rc_Vi (k := 14) (As := [.ref (E.2.1 (6 + j3))]) (rest := []) S hW hS h (kX5_agrees l E (6 + j3) w2) (cwV 1 hts gX8_fits_X5_agrees rfl rfl rfl hdX5_agrees ⟨Nat.le_of_ble_eq_true rfl, Nat.le_of_ble_eq_true rfl⟩) (fl 14 rfl) rfl rfl rfl rfl hl.1 rfl (Nat.le_of_ble_eq_true rfl) ⟨Nat.zero_le _, Nat.zero_le _⟩ dX8_fits_19 (fun x4 w5 H locs h hW hS => ?_)
    refine rb_if_eq (tgt := 29) hx hb h dX8_fits_22 (by decide) (fun h => ?_) (fun h => ?_)
    · refine lv_iconst (v := (0 : Int32)) hx hb dX8_fits_29 (by decide) ?_
      exact rrI hQ hW hS h dX8_fits_30
    · refine lv_iconst (v := (1 : Int32)) hx hb dX8_fits_25 (by decide) ?_
      refine lv_goto (tgt := 30) hx hb dX8_fits_26 (by decide) ?_
      exact rrI hQ hW hS h dX8_fits_30
  · refine lv_iconst (v := (-1 : Int32)) hx hb dX8_fits_7 (by decide) ?_
    exact rrI hQ hW hS h dX8_fits_8
noncomputable def fX8_fitted  (w : Wd) : Option (Nat × Wd) :=
  bnd (fX1_refresh w) fun _ w1 => some (19, w1)
abbrev rmX8_fitted : Room := { frames := 5, cells := 0, slots := 0, locals := 116 }
set_option maxHeartbeats 4000000 in
set_option maxRecDepth 100000 in
theorem kX8_fitted (l : Launch) (E : Ev)  (w : Wd) (q : Nat × Wd) (h : fX8_fitted w = some q) : CtR l yX8_fitted wsX8_fitted rmX8_fitted E full [.ref (E.2.1 0)] w q := by
  refine mkR (cc := cX8_fitted) (maxL := 1) (by decide) rfl (Nat.le_of_ble_eq_true rfl) ?_
  intro p e s m args below meth c Q S hW hQ ls hl
  obtain ⟨hx, hb, hml, hown, hts⟩ := id S
  have hW0 := hW
  have hS : va_S (wA E full) s.heap s.heap [] := va_S.rf
  have hl : lv_has ls 1 [(0, .ref (E.2.1 0))] := hl
  have iX8 : ∀ w ∈ wsX80, w ∈ wsX8_fitted := by decide +kernel
  have e46 := hts (.fieldLink RX8 46 "CubeHeaps" "fitting" "LCubeHeaps$Fitting;") (by decide +kernel)
  unfold fX8_fitted at h
  refine lv_aload_n hx hb dX8_fitted_0 rfl (lv_at hl 0 rfl) ?_
  refine rw_get hx hb hts iX8 hown hW (fl 0 rfl) rfl rfl 4 (by decide) e46 rfl (v := .ref (E.2.1 19)) rfl dX8_fitted_1 ?_
  refine rc_Vv (k := 19) (As := []) (rest := []) S hW hS h (kX1_refresh l E  w) (cwV 0 hts gX8_fitted_X1_refresh rfl rfl rfl hdX1_refresh ⟨Nat.le_of_ble_eq_true rfl, Nat.le_of_ble_eq_true rfl⟩) (fl 19 rfl) rfl rfl rfl rfl hl.1 rfl (Nat.le_of_ble_eq_true rfl) ⟨Nat.zero_le _, Nat.zero_le _⟩ dX8_fitted_4 (fun _ w1 H locs h hW hS => ?_)
  refine lv_aload_n hx hb dX8_fitted_7 rfl (lv_at hl 0 rfl) ?_
  refine rw_get hx hb hts iX8 hown hW (fl 0 rfl) rfl rfl 4 (by decide) e46 rfl (v := .ref (E.2.1 19)) rfl dX8_fitted_8 ?_
  exact rrR hQ hW hS h dX8_fitted_11
noncomputable def fX8_heaps  (w : Wd) : Option (Int64 × Wd) :=
  bnd (fX8_fitted w) fun x1 w2 => if x1 = 19 then bnd (fX1_all w2) fun x3 w4 => some (x3, w4) else none
abbrev rmX8_heaps : Room := { frames := 6, cells := 0, slots := 0, locals := 136 }
set_option maxHeartbeats 4000000 in
set_option maxRecDepth 100000 in
theorem kX8_heaps (l : Launch) (E : Ev)  (w : Wd) (q : Int64 × Wd) (h : fX8_heaps w = some q) : CtL l yX8_heaps wsX8_heaps rmX8_heaps E full [.ref (E.2.1 0)] w q := by
  refine mkL (cc := cX8_heaps) (maxL := 1) (by decide) rfl (Nat.le_of_ble_eq_true rfl) ?_
  intro p e s m args below meth c Q S hW hQ ls hl
  obtain ⟨hx, hb, hml, hown, hts⟩ := id S
  have hW0 := hW
  have hS : va_S (wA E full) s.heap s.heap [] := va_S.rf
  have hl : lv_has ls 1 [(0, .ref (E.2.1 0))] := hl
  unfold fX8_heaps at h
  refine lv_aload_n hx hb dX8_heaps_0 rfl (lv_at hl 0 rfl) ?_
  refine rc_Vr (k := 0) (As := []) (rest := []) S hW hS h (kX8_fitted l E  w) (cwV 0 hts gX8_heaps_X8_fitted rfl rfl rfl hdX8_fitted ⟨Nat.le_of_ble_eq_true rfl, Nat.le_of_ble_eq_true rfl⟩) (fl 0 rfl) rfl rfl rfl rfl hl.1 rfl (Nat.le_of_ble_eq_true rfl) ⟨Nat.zero_le _, Nat.zero_le _⟩ dX8_heaps_1 (fun x1 w2 H locs h hW hS => ?_)
  obtain ⟨h9, h8⟩ := rq h
  clear h
  subst h9
  have h := h8
  refine rc_Vl (k := 19) (As := []) (rest := []) S hW hS h (kX1_all l E  w2) (cwV 0 hts gX8_heaps_X1_all rfl rfl rfl hdX1_all ⟨Nat.le_of_ble_eq_true rfl, Nat.le_of_ble_eq_true rfl⟩) (fl 19 rfl) rfl rfl rfl rfl hl.1 rfl (Nat.le_of_ble_eq_true rfl) ⟨Nat.zero_le _, Nat.zero_le _⟩ dX8_heaps_4 (fun x3 w4 H locs h hW hS => ?_)
  exact rrL hQ hW hS h dX8_heaps_7
noncomputable def fX8_with (p1 : Int32) (p2 : Int32) (w : Wd) : Option (Int64 × Wd) :=
  bnd (fX8_noCell p1 w) fun x1 w2 => if x1 = 0 then if p2 < 0 then some ((-2 : Int64), w2) else if p2 ≤ (4 : Int32) then bnd (fX8_fitted w2) fun x3 w4 => if x3 = 19 then bnd (fX1_having p1 p2 w4) fun x5 w6 => some (x5, w6) else none else some ((-2 : Int64), w2) else some ((-1 : Int64), w2)
abbrev rmX8_with : Room := { frames := 6, cells := 0, slots := 0, locals := 136 }
set_option maxHeartbeats 4000000 in
set_option maxRecDepth 100000 in
theorem kX8_with (l : Launch) (E : Ev) (p1 : Int32) (p2 : Int32) (w : Wd) (q : Int64 × Wd) (h : fX8_with p1 p2 w = some q) : CtL l yX8_with wsX8_with rmX8_with E full [.ref (E.2.1 0), .int p1, .int p2] w q := by
  refine mkL (cc := cX8_with) (maxL := 3) (by decide) rfl (Nat.le_of_ble_eq_true rfl) ?_
  intro p e s m args below meth c Q S hW hQ ls hl
  obtain ⟨hx, hb, hml, hown, hts⟩ := id S
  have hW0 := hW
  have hS : va_S (wA E full) s.heap s.heap [] := va_S.rf
  have hl : lv_has ls 3 [(0, .ref (E.2.1 0)), (1, .int p1), (2, .int p2)] := hl
  unfold fX8_with at h
  refine lv_aload_n hx hb dX8_with_0 rfl (lv_at hl 0 rfl) ?_
  refine lv_iload_n hx hb dX8_with_1 rfl (lv_at hl 1 rfl) ?_
  refine rc_Vi (k := 0) (As := [.int p1]) (rest := []) S hW hS h (kX8_noCell l E p1 w) (cwV 1 hts gX8_with_X8_noCell rfl rfl rfl hdX8_noCell ⟨Nat.le_of_ble_eq_true rfl, Nat.le_of_ble_eq_true rfl⟩) (fl 0 rfl) rfl rfl rfl rfl hl.1 rfl (Nat.le_of_ble_eq_true rfl) ⟨Nat.zero_le _, Nat.zero_le _⟩ dX8_with_2 (fun x1 w2 H locs h hW hS => ?_)
  refine rb_if_eq (tgt := 12) hx hb h dX8_with_5 (by decide) (fun h => ?_) (fun h => ?_)
  · refine lv_iload_n hx hb dX8_with_12 rfl (lv_at hl 2 rfl) ?_
    refine rb_if_lt (tgt := 21) hx hb h dX8_with_13 (by decide) (fun h => ?_) (fun h => ?_)
    · refine lv_ldc2 (own := RX8) (v := (-2 : Int64)) hx hb hown (hts _ (by decide +kernel)) dX8_with_21 ?_
      exact rrL hQ hW hS h dX8_with_24
    · refine lv_iload_n hx hb dX8_with_16 rfl (lv_at hl 2 rfl) ?_
      refine lv_iconst (v := (4 : Int32)) hx hb dX8_with_17 (by decide) ?_
      refine rb_icmp_le (tgt := 25) hx hb h dX8_with_18 (by decide) (fun h => ?_) (fun h => ?_)
      · refine lv_aload_n hx hb dX8_with_25 rfl (lv_at hl 0 rfl) ?_
        refine rc_Vr (k := 0) (As := []) (rest := []) S hW hS h (kX8_fitted l E  w2) (cwV 0 hts gX8_with_X8_fitted rfl rfl rfl hdX8_fitted ⟨Nat.le_of_ble_eq_true rfl, Nat.le_of_ble_eq_true rfl⟩) (fl 0 rfl) rfl rfl rfl rfl hl.1 rfl (Nat.le_of_ble_eq_true rfl) ⟨Nat.zero_le _, Nat.zero_le _⟩ dX8_with_26 (fun x3 w4 H locs h hW hS => ?_)
        obtain ⟨h9, h8⟩ := rq h
        clear h
        subst h9
        have h := h8
        refine lv_iload_n hx hb dX8_with_29 rfl (lv_at hl 1 rfl) ?_
        refine lv_iload_n hx hb dX8_with_30 rfl (lv_at hl 2 rfl) ?_
        refine rc_Vl (k := 19) (As := [.int p1, .int p2]) (rest := []) S hW hS h (kX1_having l E p1 p2 w4) (cwV 2 hts gX8_with_X1_having rfl rfl rfl hdX1_having ⟨Nat.le_of_ble_eq_true rfl, Nat.le_of_ble_eq_true rfl⟩) (fl 19 rfl) rfl rfl rfl rfl hl.1 rfl (Nat.le_of_ble_eq_true rfl) ⟨Nat.zero_le _, Nat.zero_le _⟩ dX8_with_31 (fun x5 w6 H locs h hW hS => ?_)
        exact rrL hQ hW hS h dX8_with_34
      · refine lv_ldc2 (own := RX8) (v := (-2 : Int64)) hx hb hown (hts _ (by decide +kernel)) dX8_with_21 ?_
        exact rrL hQ hW hS h dX8_with_24
  · refine lv_ldc2 (own := RX8) (v := (-1 : Int64)) hx hb hown (hts _ (by decide +kernel)) dX8_with_8 ?_
    exact rrL hQ hW hS h dX8_with_11
noncomputable def fX8_span (p1 : Int32) (p2 : Int32) (w : Wd) : Option (Int32 × Wd) :=
  bnd (fX8_noCell p1 w) fun x1 w2 => if x1 = 0 then bnd (fX8_fitted w2) fun x3 w4 => if x3 = 19 then bnd (fX1_extreme p1 p2 w4) fun x5 w6 => some (x5, w6) else none else some ((-1 : Int32), w2)
abbrev rmX8_span : Room := { frames := 6, cells := 0, slots := 0, locals := 136 }
set_option maxHeartbeats 4000000 in
set_option maxRecDepth 100000 in
theorem kX8_span (l : Launch) (E : Ev) (p1 : Int32) (p2 : Int32) (w : Wd) (q : Int32 × Wd) (h : fX8_span p1 p2 w = some q) : CtI l yX8_span wsX8_span rmX8_span E full [.ref (E.2.1 0), .int p1, .int p2] w q := by
  refine mkI (cc := cX8_span) (maxL := 3) (by decide) rfl (Nat.le_of_ble_eq_true rfl) ?_
  intro p e s m args below meth c Q S hW hQ ls hl
  obtain ⟨hx, hb, hml, hown, hts⟩ := id S
  have hW0 := hW
  have hS : va_S (wA E full) s.heap s.heap [] := va_S.rf
  have hl : lv_has ls 3 [(0, .ref (E.2.1 0)), (1, .int p1), (2, .int p2)] := hl
  unfold fX8_span at h
  refine lv_aload_n hx hb dX8_span_0 rfl (lv_at hl 0 rfl) ?_
  refine lv_iload_n hx hb dX8_span_1 rfl (lv_at hl 1 rfl) ?_
  refine rc_Vi (k := 0) (As := [.int p1]) (rest := []) S hW hS h (kX8_noCell l E p1 w) (cwV 1 hts gX8_span_X8_noCell rfl rfl rfl hdX8_noCell ⟨Nat.le_of_ble_eq_true rfl, Nat.le_of_ble_eq_true rfl⟩) (fl 0 rfl) rfl rfl rfl rfl hl.1 rfl (Nat.le_of_ble_eq_true rfl) ⟨Nat.zero_le _, Nat.zero_le _⟩ dX8_span_2 (fun x1 w2 H locs h hW hS => ?_)
  refine rb_if_eq (tgt := 10) hx hb h dX8_span_5 (by decide) (fun h => ?_) (fun h => ?_)
  · refine lv_aload_n hx hb dX8_span_10 rfl (lv_at hl 0 rfl) ?_
    refine rc_Vr (k := 0) (As := []) (rest := []) S hW hS h (kX8_fitted l E  w2) (cwV 0 hts gX8_span_X8_fitted rfl rfl rfl hdX8_fitted ⟨Nat.le_of_ble_eq_true rfl, Nat.le_of_ble_eq_true rfl⟩) (fl 0 rfl) rfl rfl rfl rfl hl.1 rfl (Nat.le_of_ble_eq_true rfl) ⟨Nat.zero_le _, Nat.zero_le _⟩ dX8_span_11 (fun x3 w4 H locs h hW hS => ?_)
    obtain ⟨h9, h8⟩ := rq h
    clear h
    subst h9
    have h := h8
    refine lv_iload_n hx hb dX8_span_14 rfl (lv_at hl 1 rfl) ?_
    refine lv_iload_n hx hb dX8_span_15 rfl (lv_at hl 2 rfl) ?_
    refine rc_Vi (k := 19) (As := [.int p1, .int p2]) (rest := []) S hW hS h (kX1_extreme l E p1 p2 w4) (cwV 2 hts gX8_span_X1_extreme rfl rfl rfl hdX1_extreme ⟨Nat.le_of_ble_eq_true rfl, Nat.le_of_ble_eq_true rfl⟩) (fl 19 rfl) rfl rfl rfl rfl hl.1 rfl (Nat.le_of_ble_eq_true rfl) ⟨Nat.zero_le _, Nat.zero_le _⟩ dX8_span_16 (fun x5 w6 H locs h hW hS => ?_)
    exact rrI hQ hW hS h dX8_span_19
  · refine lv_iconst (v := (-1 : Int32)) hx hb dX8_span_8 (by decide) ?_
    exact rrI hQ hW hS h dX8_span_9
noncomputable def fX8_count (p1 : Int32) (w : Wd) : Option (Int32 × Wd) :=
  bnd (fX8_fitted w) fun x1 w2 => if x1 = 19 then bnd (fX1_all w2) fun x3 w4 => if x3 = (0 : Int64) then some ((-9 : Int32), w4) else if p1 = 0 then bnd (fX1_fewestCubes w4) fun x5 w6 => some (x5, w6) else bnd (fX1_mostCubes w4) fun x7 w8 => some (x7, w8) else none
abbrev rmX8_count : Room := { frames := 6, cells := 0, slots := 0, locals := 136 }
set_option maxHeartbeats 4000000 in
set_option maxRecDepth 100000 in
theorem kX8_count (l : Launch) (E : Ev) (p1 : Int32) (w : Wd) (q : Int32 × Wd) (h : fX8_count p1 w = some q) : CtI l yX8_count wsX8_count rmX8_count E full [.ref (E.2.1 0), .int p1] w q := by
  refine mkI (cc := cX8_count) (maxL := 2) (by decide) rfl (Nat.le_of_ble_eq_true rfl) ?_
  intro p e s m args below meth c Q S hW hQ ls hl
  obtain ⟨hx, hb, hml, hown, hts⟩ := id S
  have hW0 := hW
  have hS : va_S (wA E full) s.heap s.heap [] := va_S.rf
  have hl : lv_has ls 2 [(0, .ref (E.2.1 0)), (1, .int p1)] := hl
  have iX8 : ∀ w ∈ wsX80, w ∈ wsX8_count := by decide +kernel
  have e46 := hts (.fieldLink RX8 46 "CubeHeaps" "fitting" "LCubeHeaps$Fitting;") (by decide +kernel)
  unfold fX8_count at h
  refine lv_aload_n hx hb dX8_count_0 rfl (lv_at hl 0 rfl) ?_
  refine rc_Vr (k := 0) (As := []) (rest := []) S hW hS h (kX8_fitted l E  w) (cwV 0 hts gX8_count_X8_fitted rfl rfl rfl hdX8_fitted ⟨Nat.le_of_ble_eq_true rfl, Nat.le_of_ble_eq_true rfl⟩) (fl 0 rfl) rfl rfl rfl rfl hl.1 rfl (Nat.le_of_ble_eq_true rfl) ⟨Nat.zero_le _, Nat.zero_le _⟩ dX8_count_1 (fun x1 w2 H locs h hW hS => ?_)
  obtain ⟨h9, h8⟩ := rq h
  clear h
  subst h9
  have h := h8
  refine rc_Vl (k := 19) (As := []) (rest := []) S hW hS h (kX1_all l E  w2) (cwV 0 hts gX8_count_X1_all rfl rfl rfl hdX1_all ⟨Nat.le_of_ble_eq_true rfl, Nat.le_of_ble_eq_true rfl⟩) (fl 19 rfl) rfl rfl rfl rfl hl.1 rfl (Nat.le_of_ble_eq_true rfl) ⟨Nat.zero_le _, Nat.zero_le _⟩ dX8_count_4 (fun x3 w4 H locs h hW hS => ?_)
  refine lv_lconst (v := (0 : Int64)) hx hb dX8_count_7 (by decide) ?_
  refine rb_lcmp_ne (tgt := 15) hx hb h dX8_count_8 dX8_count_9 (by decide) (fun h => ?_) (fun h => ?_)
  · refine lv_iload_n hx hb dX8_count_15 rfl (lv_at hl 1 rfl) ?_
    refine rb_if_eq (tgt := 29) hx hb h dX8_count_16 (by decide) (fun h => ?_) (fun h => ?_)
    · refine lv_aload_n hx hb dX8_count_29 rfl (lv_at hl 0 rfl) ?_
      refine rw_get hx hb hts iX8 hown hW (fl 0 rfl) rfl rfl 4 (by decide) e46 rfl (v := .ref (E.2.1 19)) rfl dX8_count_30 ?_
      refine rc_Vi (k := 19) (As := []) (rest := []) S hW hS h (kX1_fewestCubes l E  w4) (cwV 0 hts gX8_count_X1_fewestCubes rfl rfl rfl hdX1_fewestCubes ⟨Nat.le_of_ble_eq_true rfl, Nat.le_of_ble_eq_true rfl⟩) (fl 19 rfl) rfl rfl rfl rfl hl.1 rfl (Nat.le_of_ble_eq_true rfl) ⟨Nat.zero_le _, Nat.zero_le _⟩ dX8_count_33 (fun x5 w6 H locs h hW hS => ?_)
      exact rrI hQ hW hS h dX8_count_36
    · refine lv_aload_n hx hb dX8_count_19 rfl (lv_at hl 0 rfl) ?_
      refine rw_get hx hb hts iX8 hown hW (fl 0 rfl) rfl rfl 4 (by decide) e46 rfl (v := .ref (E.2.1 19)) rfl dX8_count_20 ?_
      refine rc_Vi (k := 19) (As := []) (rest := []) S hW hS h (kX1_mostCubes l E  w4) (cwV 0 hts gX8_count_X1_mostCubes rfl rfl rfl hdX1_mostCubes ⟨Nat.le_of_ble_eq_true rfl, Nat.le_of_ble_eq_true rfl⟩) (fl 19 rfl) rfl rfl rfl rfl hl.1 rfl (Nat.le_of_ble_eq_true rfl) ⟨Nat.zero_le _, Nat.zero_le _⟩ dX8_count_23 (fun x7 w8 H locs h hW hS => ?_)
      refine lv_goto (tgt := 36) hx hb dX8_count_26 (by decide) ?_
      exact rrI hQ hW hS h dX8_count_36
  · refine lv_bipush (v := (-9 : Int32)) hx hb dX8_count_12 (by decide) ?_
    exact rrI hQ hW hS h dX8_count_14
noncomputable def fX8_lay (p1 : Int32) (p2 : Int64) (w : Wd) : Option (Int32 × Wd) :=
  bnd (fX8_noSlot p1 w) fun x1 w2 => if x1 = 0 then if p2 < (0 : Int64) then some ((-2 : Int32), w2) else bnd (fX8_fitted w2) fun x3 w4 => if x3 = 19 then bnd (fX1_all w4) fun x5 w6 => if p2 < x5 then (ixA 4 p1).bind fun j7 => bnd (fX1_fill (6 + j7) p2 w6) fun _ w8 => (ixA 4 p1).bind fun j9 => bnd (fX2_total (6 + j9) w8) fun x10 w11 => some (x10, w11) else some ((-2 : Int32), w6) else none else some ((-1 : Int32), w2)
abbrev rmX8_lay : Room := { frames := 6, cells := 0, slots := 0, locals := 136 }
set_option maxHeartbeats 4000000 in
set_option maxRecDepth 100000 in
theorem kX8_lay (l : Launch) (E : Ev) (p1 : Int32) (p2 : Int64) (w : Wd) (q : Int32 × Wd) (h : fX8_lay p1 p2 w = some q) : CtI l yX8_lay wsX8_lay rmX8_lay E full [.ref (E.2.1 0), .int p1, .long p2] w q := by
  refine mkI (cc := cX8_lay) (maxL := 4) (by decide) rfl (Nat.le_of_ble_eq_true rfl) ?_
  intro p e s m args below meth c Q S hW hQ ls hl
  obtain ⟨hx, hb, hml, hown, hts⟩ := id S
  have hW0 := hW
  have hS : va_S (wA E full) s.heap s.heap [] := va_S.rf
  have hl : lv_has ls 4 [(0, .ref (E.2.1 0)), (1, .int p1), (2, .long p2)] := hl
  have iX8 : ∀ w ∈ wsX80, w ∈ wsX8_lay := by decide +kernel
  have e14 := hts (.fieldLink RX8 14 "CubeHeaps" "ground" "LCubeHeaps$Ground;") (by decide +kernel)
  have e20 := hts (.fieldLink RX8 20 "CubeHeaps" "slots" "[[I") (by decide +kernel)
  have e46 := hts (.fieldLink RX8 46 "CubeHeaps" "fitting" "LCubeHeaps$Fitting;") (by decide +kernel)
  unfold fX8_lay at h
  refine lv_iload_n hx hb dX8_lay_0 rfl (lv_at hl 1 rfl) ?_
  refine rc_Si (As := [.int p1]) (rest := []) S hW hS h (kX8_noSlot l E p1 w) (va_cwS 1 hts gX8_lay_X8_noSlot rfl rfl rfl hdX8_noSlot ⟨Nat.le_of_ble_eq_true rfl, Nat.le_of_ble_eq_true rfl⟩) rfl hl.1 rfl (Nat.le_of_ble_eq_true rfl) ⟨Nat.zero_le _, Nat.zero_le _⟩ dX8_lay_1 (fun x1 w2 H locs h hW hS => ?_)
  refine rb_if_eq (tgt := 9) hx hb h dX8_lay_4 (by decide) (fun h => ?_) (fun h => ?_)
  · refine lv_lload_n hx hb dX8_lay_9 rfl (lv_at hl 2 rfl) ?_
    refine lv_lconst (v := (0 : Int64)) hx hb dX8_lay_10 (by decide) ?_
    refine rb_lcmp_lt (tgt := 27) hx hb h dX8_lay_11 dX8_lay_12 (by decide) (fun h => ?_) (fun h => ?_)
    · refine lv_bipush (v := (-2 : Int32)) hx hb dX8_lay_27 (by decide) ?_
      exact rrI hQ hW hS h dX8_lay_29
    · refine lv_lload_n hx hb dX8_lay_15 rfl (lv_at hl 2 rfl) ?_
      refine lv_aload_n hx hb dX8_lay_16 rfl (lv_at hl 0 rfl) ?_
      refine rc_Vr (k := 0) (As := []) (rest := [.long p2]) S hW hS h (kX8_fitted l E  w2) (cwV 0 hts gX8_lay_X8_fitted rfl rfl rfl hdX8_fitted ⟨Nat.le_of_ble_eq_true rfl, Nat.le_of_ble_eq_true rfl⟩) (fl 0 rfl) rfl rfl rfl rfl hl.1 rfl (Nat.le_of_ble_eq_true rfl) ⟨Nat.zero_le _, Nat.zero_le _⟩ dX8_lay_17 (fun x3 w4 H locs h hW hS => ?_)
      obtain ⟨h9, h8⟩ := rq h
      clear h
      subst h9
      have h := h8
      refine rc_Vl (k := 19) (As := []) (rest := [.long p2]) S hW hS h (kX1_all l E  w4) (cwV 0 hts gX8_lay_X1_all rfl rfl rfl hdX1_all ⟨Nat.le_of_ble_eq_true rfl, Nat.le_of_ble_eq_true rfl⟩) (fl 19 rfl) rfl rfl rfl rfl hl.1 rfl (Nat.le_of_ble_eq_true rfl) ⟨Nat.zero_le _, Nat.zero_le _⟩ dX8_lay_20 (fun x5 w6 H locs h hW hS => ?_)
      refine rb_lcmp_lt (tgt := 30) hx hb h dX8_lay_23 dX8_lay_24 (by decide) (fun h => ?_) (fun h => ?_)
      · refine lv_aload_n hx hb dX8_lay_30 rfl (lv_at hl 0 rfl) ?_
        refine rw_get hx hb hts iX8 hown hW (fl 0 rfl) rfl rfl 4 (by decide) e46 rfl (v := .ref (E.2.1 19)) rfl dX8_lay_31 ?_
        refine lv_aload_n hx hb dX8_lay_34 rfl (lv_at hl 0 rfl) ?_
        refine rw_get hx hb hts iX8 hown hW (fl 0 rfl) rfl rfl 1 (by decide) e20 rfl (v := .ref (E.2.1 5)) rfl dX8_lay_35 ?_
        refine lv_iload_n hx hb dX8_lay_38 rfl (lv_at hl 1 rfl) ?_
        refine rw_aaldI hx hb hW (fl 5 rfl) rfl h dX8_lay_39 (fun j7 h => ?_)
        refine lv_lload_n hx hb dX8_lay_40 rfl (lv_at hl 2 rfl) ?_
        refine rc_Vv (k := 19) (As := [.ref (E.2.1 (6 + j7)), .long p2]) (rest := []) S hW hS h (kX1_fill l E (6 + j7) p2 w6) (cwV 2 hts gX8_lay_X1_fill rfl rfl rfl hdX1_fill ⟨Nat.le_of_ble_eq_true rfl, Nat.le_of_ble_eq_true rfl⟩) (fl 19 rfl) rfl rfl rfl rfl hl.1 rfl (Nat.le_of_ble_eq_true rfl) ⟨Nat.zero_le _, Nat.zero_le _⟩ dX8_lay_41 (fun _ w8 H locs h hW hS => ?_)
        refine lv_aload_n hx hb dX8_lay_44 rfl (lv_at hl 0 rfl) ?_
        refine rw_get hx hb hts iX8 hown hW (fl 0 rfl) rfl rfl 0 (by decide) e14 rfl (v := .ref (E.2.1 1)) rfl dX8_lay_45 ?_
        refine lv_aload_n hx hb dX8_lay_48 rfl (lv_at hl 0 rfl) ?_
        refine rw_get hx hb hts iX8 hown hW (fl 0 rfl) rfl rfl 1 (by decide) e20 rfl (v := .ref (E.2.1 5)) rfl dX8_lay_49 ?_
        refine lv_iload_n hx hb dX8_lay_52 rfl (lv_at hl 1 rfl) ?_
        refine rw_aaldI hx hb hW (fl 5 rfl) rfl h dX8_lay_53 (fun j9 h => ?_)
        refine rc_Vi (k := 1) (As := [.ref (E.2.1 (6 + j9))]) (rest := []) S hW hS h (kX2_total l E (6 + j9) w8) (cwV 1 hts gX8_lay_X2_total rfl rfl rfl hdX2_total ⟨Nat.le_of_ble_eq_true rfl, Nat.le_of_ble_eq_true rfl⟩) (fl 1 rfl) rfl rfl rfl rfl hl.1 rfl (Nat.le_of_ble_eq_true rfl) ⟨Nat.zero_le _, Nat.zero_le _⟩ dX8_lay_54 (fun x10 w11 H locs h hW hS => ?_)
        exact rrI hQ hW hS h dX8_lay_57
      · refine lv_bipush (v := (-2 : Int32)) hx hb dX8_lay_27 (by decide) ?_
        exact rrI hQ hW hS h dX8_lay_29
  · refine lv_iconst (v := (-1 : Int32)) hx hb dX8_lay_7 (by decide) ?_
    exact rrI hQ hW hS h dX8_lay_8
noncomputable def fX8_place (p1 : Int32) (w : Wd) : Option (Int64 × Wd) :=
  bnd (fX8_noSlot p1 w) fun x1 w2 => if x1 = 0 then (ixA 4 p1).bind fun j3 => bnd (fX5_agrees (6 + j3) w2) fun x4 w5 => if x4 = 0 then some ((-3 : Int64), w5) else bnd (fX8_fitted w5) fun x6 w7 => if x6 = 19 then (ixA 4 p1).bind fun j8 => bnd (fX1_smaller (6 + j8) w7) fun x9 w10 => some (x9, w10) else none else some ((-1 : Int64), w2)
abbrev rmX8_place : Room := { frames := 6, cells := 0, slots := 0, locals := 136 }
set_option maxHeartbeats 4000000 in
set_option maxRecDepth 100000 in
theorem kX8_place (l : Launch) (E : Ev) (p1 : Int32) (w : Wd) (q : Int64 × Wd) (h : fX8_place p1 w = some q) : CtL l yX8_place wsX8_place rmX8_place E full [.ref (E.2.1 0), .int p1] w q := by
  refine mkL (cc := cX8_place) (maxL := 2) (by decide) rfl (Nat.le_of_ble_eq_true rfl) ?_
  intro p e s m args below meth c Q S hW hQ ls hl
  obtain ⟨hx, hb, hml, hown, hts⟩ := id S
  have hW0 := hW
  have hS : va_S (wA E full) s.heap s.heap [] := va_S.rf
  have hl : lv_has ls 2 [(0, .ref (E.2.1 0)), (1, .int p1)] := hl
  have iX8 : ∀ w ∈ wsX80, w ∈ wsX8_place := by decide +kernel
  have e20 := hts (.fieldLink RX8 20 "CubeHeaps" "slots" "[[I") (by decide +kernel)
  have e37 := hts (.fieldLink RX8 37 "CubeHeaps" "told" "LCubeHeaps$Told;") (by decide +kernel)
  unfold fX8_place at h
  refine lv_iload_n hx hb dX8_place_0 rfl (lv_at hl 1 rfl) ?_
  refine rc_Si (As := [.int p1]) (rest := []) S hW hS h (kX8_noSlot l E p1 w) (va_cwS 1 hts gX8_place_X8_noSlot rfl rfl rfl hdX8_noSlot ⟨Nat.le_of_ble_eq_true rfl, Nat.le_of_ble_eq_true rfl⟩) rfl hl.1 rfl (Nat.le_of_ble_eq_true rfl) ⟨Nat.zero_le _, Nat.zero_le _⟩ dX8_place_1 (fun x1 w2 H locs h hW hS => ?_)
  refine rb_if_eq (tgt := 11) hx hb h dX8_place_4 (by decide) (fun h => ?_) (fun h => ?_)
  · refine lv_aload_n hx hb dX8_place_11 rfl (lv_at hl 0 rfl) ?_
    refine rw_get hx hb hts iX8 hown hW (fl 0 rfl) rfl rfl 3 (by decide) e37 rfl (v := .ref (E.2.1 14)) rfl dX8_place_12 ?_
    refine lv_aload_n hx hb dX8_place_15 rfl (lv_at hl 0 rfl) ?_
    refine rw_get hx hb hts iX8 hown hW (fl 0 rfl) rfl rfl 1 (by decide) e20 rfl (v := .ref (E.2.1 5)) rfl dX8_place_16 ?_
    refine lv_iload_n hx hb dX8_place_19 rfl (lv_at hl 1 rfl) ?_
    refine rw_aaldI hx hb hW (fl 5 rfl) rfl h dX8_place_20 (fun j3 h => ?_)
    refine rc_Vi (k := 14) (As := [.ref (E.2.1 (6 + j3))]) (rest := []) S hW hS h (kX5_agrees l E (6 + j3) w2) (cwV 1 hts gX8_place_X5_agrees rfl rfl rfl hdX5_agrees ⟨Nat.le_of_ble_eq_true rfl, Nat.le_of_ble_eq_true rfl⟩) (fl 14 rfl) rfl rfl rfl rfl hl.1 rfl (Nat.le_of_ble_eq_true rfl) ⟨Nat.zero_le _, Nat.zero_le _⟩ dX8_place_21 (fun x4 w5 H locs h hW hS => ?_)
    refine rb_if_ne (tgt := 31) hx hb h dX8_place_24 (by decide) (fun h => ?_) (fun h => ?_)
    · refine lv_aload_n hx hb dX8_place_31 rfl (lv_at hl 0 rfl) ?_
      refine rc_Vr (k := 0) (As := []) (rest := []) S hW hS h (kX8_fitted l E  w5) (cwV 0 hts gX8_place_X8_fitted rfl rfl rfl hdX8_fitted ⟨Nat.le_of_ble_eq_true rfl, Nat.le_of_ble_eq_true rfl⟩) (fl 0 rfl) rfl rfl rfl rfl hl.1 rfl (Nat.le_of_ble_eq_true rfl) ⟨Nat.zero_le _, Nat.zero_le _⟩ dX8_place_32 (fun x6 w7 H locs h hW hS => ?_)
      obtain ⟨h9, h8⟩ := rq h
      clear h
      subst h9
      have h := h8
      refine lv_aload_n hx hb dX8_place_35 rfl (lv_at hl 0 rfl) ?_
      refine rw_get hx hb hts iX8 hown hW (fl 0 rfl) rfl rfl 1 (by decide) e20 rfl (v := .ref (E.2.1 5)) rfl dX8_place_36 ?_
      refine lv_iload_n hx hb dX8_place_39 rfl (lv_at hl 1 rfl) ?_
      refine rw_aaldI hx hb hW (fl 5 rfl) rfl h dX8_place_40 (fun j8 h => ?_)
      refine rc_Vl (k := 19) (As := [.ref (E.2.1 (6 + j8))]) (rest := []) S hW hS h (kX1_smaller l E (6 + j8) w7) (cwV 1 hts gX8_place_X1_smaller rfl rfl rfl hdX1_smaller ⟨Nat.le_of_ble_eq_true rfl, Nat.le_of_ble_eq_true rfl⟩) (fl 19 rfl) rfl rfl rfl rfl hl.1 rfl (Nat.le_of_ble_eq_true rfl) ⟨Nat.zero_le _, Nat.zero_le _⟩ dX8_place_41 (fun x9 w10 H locs h hW hS => ?_)
      exact rrL hQ hW hS h dX8_place_44
    · refine lv_ldc2 (own := RX8) (v := (-3 : Int64)) hx hb hown (hts _ (by decide +kernel)) dX8_place_27 ?_
      exact rrL hQ hW hS h dX8_place_30
  · refine lv_ldc2 (own := RX8) (v := (-1 : Int64)) hx hb hown (hts _ (by decide +kernel)) dX8_place_7 ?_
    exact rrL hQ hW hS h dX8_place_10
noncomputable def fX8_tellSum (p1 : Int32) (p2 : Int32) (p3 : Int32) (w : Wd) : Option (Int32 × Wd) :=
  bnd (fX8_noLine p1 p2 w) fun x1 w2 => if x1 = 0 then if p3 < 0 then some ((-2 : Int32), w2) else if p3 ≤ (20 : Int32) then bnd (fX4_put p1 p2 p3 w2) fun x3 w4 => some (x3, w4) else some ((-2 : Int32), w2) else some ((-1 : Int32), w2)
abbrev rmX8_tellSum : Room := { frames := 2, cells := 0, slots := 0, locals := 48 }
set_option maxHeartbeats 4000000 in
set_option maxRecDepth 100000 in
theorem kX8_tellSum (l : Launch) (E : Ev) (p1 : Int32) (p2 : Int32) (p3 : Int32) (w : Wd) (q : Int32 × Wd) (h : fX8_tellSum p1 p2 p3 w = some q) : CtI l yX8_tellSum wsX8_tellSum rmX8_tellSum E full [.ref (E.2.1 0), .int p1, .int p2, .int p3] w q := by
  refine mkI (cc := cX8_tellSum) (maxL := 4) (by decide) rfl (Nat.le_of_ble_eq_true rfl) ?_
  intro p e s m args below meth c Q S hW hQ ls hl
  obtain ⟨hx, hb, hml, hown, hts⟩ := id S
  have hW0 := hW
  have hS : va_S (wA E full) s.heap s.heap [] := va_S.rf
  have hl : lv_has ls 4 [(0, .ref (E.2.1 0)), (1, .int p1), (2, .int p2), (3, .int p3)] := hl
  have iX8 : ∀ w ∈ wsX80, w ∈ wsX8_tellSum := by decide +kernel
  have e53 := hts (.fieldLink RX8 53 "CubeHeaps" "sums" "LCubeHeaps$Sums;") (by decide +kernel)
  unfold fX8_tellSum at h
  refine lv_aload_n hx hb dX8_tellSum_0 rfl (lv_at hl 0 rfl) ?_
  refine lv_iload_n hx hb dX8_tellSum_1 rfl (lv_at hl 1 rfl) ?_
  refine lv_iload_n hx hb dX8_tellSum_2 rfl (lv_at hl 2 rfl) ?_
  refine rc_Vi (k := 0) (As := [.int p1, .int p2]) (rest := []) S hW hS h (kX8_noLine l E p1 p2 w) (cwV 2 hts gX8_tellSum_X8_noLine rfl rfl rfl hdX8_noLine ⟨Nat.le_of_ble_eq_true rfl, Nat.le_of_ble_eq_true rfl⟩) (fl 0 rfl) rfl rfl rfl rfl hl.1 rfl (Nat.le_of_ble_eq_true rfl) ⟨Nat.zero_le _, Nat.zero_le _⟩ dX8_tellSum_3 (fun x1 w2 H locs h hW hS => ?_)
  refine rb_if_eq (tgt := 11) hx hb h dX8_tellSum_6 (by decide) (fun h => ?_) (fun h => ?_)
  · refine lv_iload_n hx hb dX8_tellSum_11 rfl (lv_at hl 3 rfl) ?_
    refine rb_if_lt (tgt := 21) hx hb h dX8_tellSum_12 (by decide) (fun h => ?_) (fun h => ?_)
    · refine lv_bipush (v := (-2 : Int32)) hx hb dX8_tellSum_21 (by decide) ?_
      exact rrI hQ hW hS h dX8_tellSum_23
    · refine lv_iload_n hx hb dX8_tellSum_15 rfl (lv_at hl 3 rfl) ?_
      refine lv_bipush (v := (20 : Int32)) hx hb dX8_tellSum_16 (by decide) ?_
      refine rb_icmp_le (tgt := 24) hx hb h dX8_tellSum_18 (by decide) (fun h => ?_) (fun h => ?_)
      · refine lv_aload_n hx hb dX8_tellSum_24 rfl (lv_at hl 0 rfl) ?_
        refine rw_get hx hb hts iX8 hown hW (fl 0 rfl) rfl rfl 5 (by decide) e53 rfl (v := .ref (E.2.1 79)) rfl dX8_tellSum_25 ?_
        refine lv_iload_n hx hb dX8_tellSum_28 rfl (lv_at hl 1 rfl) ?_
        refine lv_iload_n hx hb dX8_tellSum_29 rfl (lv_at hl 2 rfl) ?_
        refine lv_iload_n hx hb dX8_tellSum_30 rfl (lv_at hl 3 rfl) ?_
        refine rc_Vi (k := 79) (As := [.int p1, .int p2, .int p3]) (rest := []) S hW hS h (kX4_put l E p1 p2 p3 w2) (cwV 3 hts gX8_tellSum_X4_put rfl rfl rfl hdX4_put ⟨Nat.le_of_ble_eq_true rfl, Nat.le_of_ble_eq_true rfl⟩) (fl 79 rfl) rfl rfl rfl rfl hl.1 rfl (Nat.le_of_ble_eq_true rfl) ⟨Nat.zero_le _, Nat.zero_le _⟩ dX8_tellSum_31 (fun x3 w4 H locs h hW hS => ?_)
        exact rrI hQ hW hS h dX8_tellSum_34
      · refine lv_bipush (v := (-2 : Int32)) hx hb dX8_tellSum_21 (by decide) ?_
        exact rrI hQ hW hS h dX8_tellSum_23
  · refine lv_iconst (v := (-1 : Int32)) hx hb dX8_tellSum_9 (by decide) ?_
    exact rrI hQ hW hS h dX8_tellSum_10
