noncomputable def jX5_linesAgree_46 (p1 : Nat) (p2 : Int32) (k2 : Int32 → Wd → Option (Int32 × Wd)) (v3 : Int32)  (w : Wd) : Option (Int32 × Wd) :=
  k2 (v3 + (1 : Int32)) w
noncomputable def bX5_linesAgree_2 (p1 : Nat) (p2 : Int32) (k2 : Int32 → Wd → Option (Int32 × Wd)) (v3 : Int32)  (w : Wd) : Option (Int32 × Wd) :=
  bnd (fX2_lines p2 w) fun x1 w2 => if x1 ≤ v3 then zr (1 : Int32) w2 else bnd (fX5_line p2 v3 w2) fun x3 w4 => if x3 = (-9 : Int32) then jX5_linesAgree_46 p1 p2 k2 v3 w4 else bnd (fX7_tallest p1 p2 v3 w4) fun x5 w6 => if x3 = x5 then jX5_linesAgree_46 p1 p2 k2 v3 w6 else zr (0 : Int32) w6
noncomputable def fX5_linesAgree (p1 : Nat) (p2 : Int32) (w : Wd) : Option (Int32 × Wd) :=
  lp (fun _ _ => none) (bX5_linesAgree_2 p1 p2) G (0 : Int32) w
abbrev rmX5_linesAgree : Room := { frames := 2, cells := 0, slots := 0, locals := 48 }
set_option maxHeartbeats 4000000 in
set_option maxRecDepth 100000 in
theorem kX5_linesAgree (l : Launch) (E : Ev) (p1 : Nat) (p2 : Int32) (w : Wd) (q : Int32 × Wd) (h : fX5_linesAgree p1 p2 w = some q) : CtI l yX5_linesAgree wsX5_linesAgree rmX5_linesAgree E full [.ref (E.2.1 14), .ref (E.2.1 p1), .int p2] w q := by
  refine mkZ (cc := cX5_linesAgree) (maxL := 5) (by decide) rfl (Nat.le_of_ble_eq_true rfl) ?_
  intro p e s m args below meth c Q S hW hQ ls hl
  obtain ⟨hx, hb, hml, hown, hts⟩ := id S
  have hW0 := hW
  have hS : va_S (wA E full) s.heap s.heap [] := va_S.rf
  have hl : lv_has ls 5 [(0, .ref (E.2.1 14)), (1, .ref (E.2.1 p1)), (2, .int p2)] := hl
  have iX5 : ∀ w ∈ wsX50, w ∈ wsX5_linesAgree := by decide +kernel
  have e26 := hts (.fieldLink RX5 26 "CubeHeaps$Told" "ground" "LCubeHeaps$Ground;") (by decide +kernel)
  have e30 := hts (.fieldLink RX5 30 "CubeHeaps$Told" "view" "LCubeHeaps$View;") (by decide +kernel)
  have J2 : ∀ (n : Nat) (v3 : Int32) (w : Wd) (H : Heap) (locs : List Loc) (ls : Array Slot), lp (fun _ _ => none) (bX5_linesAgree_2 p1 p2) n v3 w = some q → World E full w s H → va_S (wA E full) s.heap H locs → lv_has ls 5 [(0, .ref (E.2.1 14)), (1, .ref (E.2.1 p1)), (2, .int p2), (3, .int v3)] → W p l e rmX5_linesAgree s m args below meth c H locs 0 0 Q (F0 m 2 ls []) := by
    intro n
    induction n with
    | zero =>
      intro v3 w H locs ls h hW hS hl
      exact absurd (show (none : Option (Int32 × Wd)) = some q from h) (fun z => by cases z)
    | succ n ih2 =>
      intro v3 w H locs ls h hW hS hl
      have h : bX5_linesAgree_2 p1 p2 (lp (fun _ _ => none) (bX5_linesAgree_2 p1 p2) n) v3 w = some q := h
      generalize lp (fun _ _ => none) (bX5_linesAgree_2 p1 p2) n = k2 at h ih2
      have J46 : ∀ (v3 : Int32) (w : Wd) (H : Heap) (locs : List Loc) (ls : Array Slot), jX5_linesAgree_46 p1 p2 k2 v3 w = some q → World E full w s H → va_S (wA E full) s.heap H locs → lv_has ls 5 [(0, .ref (E.2.1 14)), (1, .ref (E.2.1 p1)), (2, .int p2), (3, .int v3)] → W p l e rmX5_linesAgree s m args below meth c H locs 0 0 Q (F0 m 46 ls []) := by
        intro v3 w H locs ls h hW hS hl
        unfold jX5_linesAgree_46 at h
        refine lv_iinc (v := (v3 + (1 : Int32))) (lv' := [(3, .int (v3 + (1 : Int32))), (0, .ref (E.2.1 14)), (1, .ref (E.2.1 p1)), (2, .int p2)]) hx hb dX5_linesAgree_46 hl (k := 3) rfl rfl (by decide) rfl (fun ls hl => ?_)
        refine lv_goto (tgt := 2) hx hb dX5_linesAgree_49 (by decide) ?_
        exact ih2 _ _ _ _ _ h hW hS (lv_sub hl [1, 2, 3, 0] rfl)
      unfold bX5_linesAgree_2 at h
      refine lv_iload_n hx hb dX5_linesAgree_2 rfl (lv_at hl 3 rfl) ?_
      refine lv_aload_n hx hb dX5_linesAgree_3 rfl (lv_at hl 0 rfl) ?_
      refine rw_get hx hb hts iX5 hown hW (fl 14 rfl) rfl rfl 0 (by decide) e26 rfl (v := .ref (E.2.1 1)) rfl dX5_linesAgree_4 ?_
      refine lv_iload_n hx hb dX5_linesAgree_7 rfl (lv_at hl 2 rfl) ?_
      refine rc_Vi (k := 1) (As := [.int p2]) (rest := [.int v3]) S hW hS h (kX2_lines l E p2 w) (cwV 1 hts gX5_linesAgree_X2_lines rfl rfl rfl hdX2_lines ⟨Nat.le_of_ble_eq_true rfl, Nat.le_of_ble_eq_true rfl⟩) (fl 1 rfl) rfl rfl rfl rfl hl.1 rfl (Nat.le_of_ble_eq_true rfl) ⟨Nat.zero_le _, Nat.zero_le _⟩ dX5_linesAgree_8 (fun x1 w2 H locs h hW hS => ?_)
      refine rb_icmp_ge (tgt := 52) hx hb h dX5_linesAgree_11 (by decide) (fun h => ?_) (fun h => ?_)
      · refine lv_iconst (v := (1 : Int32)) hx hb dX5_linesAgree_52 (by decide) ?_
        exact rrZ hQ hW hS h dX5_linesAgree_53
      · refine lv_aload_n hx hb dX5_linesAgree_14 rfl (lv_at hl 0 rfl) ?_
        refine lv_iload_n hx hb dX5_linesAgree_15 rfl (lv_at hl 2 rfl) ?_
        refine lv_iload_n hx hb dX5_linesAgree_16 rfl (lv_at hl 3 rfl) ?_
        refine rc_Vi (k := 14) (As := [.int p2, .int v3]) (rest := []) S hW hS h (kX5_line l E p2 v3 w2) (cwV 2 hts gX5_linesAgree_X5_line rfl rfl rfl hdX5_line ⟨Nat.le_of_ble_eq_true rfl, Nat.le_of_ble_eq_true rfl⟩) (fl 14 rfl) rfl rfl rfl rfl hl.1 rfl (Nat.le_of_ble_eq_true rfl) ⟨Nat.zero_le _, Nat.zero_le _⟩ dX5_linesAgree_17 (fun x3 w4 H locs h hW hS => ?_)
        refine lv_istore (lv' := [(4, .int x3), (0, .ref (E.2.1 14)), (1, .ref (E.2.1 p1)), (2, .int p2), (3, .int v3)]) hx hb dX5_linesAgree_20 hl (by decide) rfl (fun ls hl => ?_)
        refine lv_iload hx hb dX5_linesAgree_22 (lv_at hl 0 rfl) ?_
        refine lv_bipush (v := (-9 : Int32)) hx hb dX5_linesAgree_24 (by decide) ?_
        refine rb_icmp_eq (tgt := 46) hx hb h dX5_linesAgree_26 (by decide) (fun h => ?_) (fun h => ?_)
        · exact J46 _ _ _ _ _ h hW hS (lv_sub hl [1, 2, 3, 4] rfl)
        · refine lv_iload hx hb dX5_linesAgree_29 (lv_at hl 0 rfl) ?_
          refine lv_aload_n hx hb dX5_linesAgree_31 rfl (lv_at hl 1 rfl) ?_
          refine rw_get hx hb hts iX5 hown hW (fl 14 rfl) rfl rfl 1 (by decide) e30 rfl (v := .ref (E.2.1 10)) rfl dX5_linesAgree_32 ?_
          refine lv_aload_n hx hb dX5_linesAgree_35 rfl (lv_at hl 2 rfl) ?_
          refine lv_iload_n hx hb dX5_linesAgree_36 rfl (lv_at hl 3 rfl) ?_
          refine lv_iload_n hx hb dX5_linesAgree_37 rfl (lv_at hl 4 rfl) ?_
          refine rc_Vi (k := 10) (As := [.ref (E.2.1 p1), .int p2, .int v3]) (rest := [.int x3]) S hW hS h (kX7_tallest l E p1 p2 v3 w4) (cwV 3 hts gX5_linesAgree_X7_tallest rfl rfl rfl hdX7_tallest ⟨Nat.le_of_ble_eq_true rfl, Nat.le_of_ble_eq_true rfl⟩) (fl 10 rfl) rfl rfl rfl rfl hl.1 rfl (Nat.le_of_ble_eq_true rfl) ⟨Nat.zero_le _, Nat.zero_le _⟩ dX5_linesAgree_38 (fun x5 w6 H locs h hW hS => ?_)
          refine rb_icmp_eq (tgt := 46) hx hb h dX5_linesAgree_41 (by decide) (fun h => ?_) (fun h => ?_)
          · exact J46 _ _ _ _ _ h hW hS (lv_sub hl [1, 2, 3, 4] rfl)
          · refine lv_iconst (v := (0 : Int32)) hx hb dX5_linesAgree_44 (by decide) ?_
            exact rrZ hQ hW hS h dX5_linesAgree_45
  unfold fX5_linesAgree at h
  refine lv_iconst (v := (0 : Int32)) hx hb dX5_linesAgree_0 (by decide) ?_
  refine lv_istore_n (lv' := [(3, .int (0 : Int32)), (0, .ref (E.2.1 14)), (1, .ref (E.2.1 p1)), (2, .int p2)]) hx hb dX5_linesAgree_1 rfl hl (by decide) rfl (fun ls hl => ?_)
  exact J2 _ _ _ _ _ _ h hW hS (lv_sub hl [1, 2, 3, 0] rfl)
noncomputable def jX5_topsAgree_40 (p1 : Nat) (k2 : Int32 → Wd → Option (Int32 × Wd)) (v2 : Int32)  (w : Wd) : Option (Int32 × Wd) :=
  k2 (v2 + (1 : Int32)) w
noncomputable def bX5_topsAgree_2 (p1 : Nat) (k2 : Int32 → Wd → Option (Int32 × Wd)) (v2 : Int32)  (w : Wd) : Option (Int32 × Wd) :=
  bnd (fX2_cells w) fun x1 w2 => if x1 ≤ v2 then zr (1 : Int32) w2 else (gI w2 18 v2).bind fun x3 => if x3 = (-9 : Int32) then jX5_topsAgree_40 p1 k2 v2 w2 else (gI w2 18 v2).bind fun x4 => bnd (fX5_topOf p1 v2 w2) fun x5 w6 => if x4 = x5 then jX5_topsAgree_40 p1 k2 v2 w6 else zr (0 : Int32) w6
noncomputable def fX5_topsAgree (p1 : Nat) (w : Wd) : Option (Int32 × Wd) :=
  lp (fun _ _ => none) (bX5_topsAgree_2 p1) G (0 : Int32) w
abbrev rmX5_topsAgree : Room := { frames := 1, cells := 0, slots := 0, locals := 21 }
set_option maxHeartbeats 4000000 in
set_option maxRecDepth 100000 in
theorem kX5_topsAgree (l : Launch) (E : Ev) (p1 : Nat) (w : Wd) (q : Int32 × Wd) (h : fX5_topsAgree p1 w = some q) : CtI l yX5_topsAgree wsX5_topsAgree rmX5_topsAgree E full [.ref (E.2.1 14), .ref (E.2.1 p1)] w q := by
  refine mkZ (cc := cX5_topsAgree) (maxL := 3) (by decide) rfl (Nat.le_of_ble_eq_true rfl) ?_
  intro p e s m args below meth c Q S hW hQ ls hl
  obtain ⟨hx, hb, hml, hown, hts⟩ := id S
  have hW0 := hW
  have hS : va_S (wA E full) s.heap s.heap [] := va_S.rf
  have hl : lv_has ls 3 [(0, .ref (E.2.1 14)), (1, .ref (E.2.1 p1))] := hl
  have iX5 : ∀ w ∈ wsX50, w ∈ wsX5_topsAgree := by decide +kernel
  have e18 := hts (.fieldLink RX5 18 "CubeHeaps$Told" "tops" "[I") (by decide +kernel)
  have e26 := hts (.fieldLink RX5 26 "CubeHeaps$Told" "ground" "LCubeHeaps$Ground;") (by decide +kernel)
  have J2 : ∀ (n : Nat) (v2 : Int32) (w : Wd) (H : Heap) (locs : List Loc) (ls : Array Slot), lp (fun _ _ => none) (bX5_topsAgree_2 p1) n v2 w = some q → World E full w s H → va_S (wA E full) s.heap H locs → lv_has ls 3 [(0, .ref (E.2.1 14)), (1, .ref (E.2.1 p1)), (2, .int v2)] → W p l e rmX5_topsAgree s m args below meth c H locs 0 0 Q (F0 m 2 ls []) := by
    intro n
    induction n with
    | zero =>
      intro v2 w H locs ls h hW hS hl
      exact absurd (show (none : Option (Int32 × Wd)) = some q from h) (fun z => by cases z)
    | succ n ih2 =>
      intro v2 w H locs ls h hW hS hl
      have h : bX5_topsAgree_2 p1 (lp (fun _ _ => none) (bX5_topsAgree_2 p1) n) v2 w = some q := h
      generalize lp (fun _ _ => none) (bX5_topsAgree_2 p1) n = k2 at h ih2
      have J40 : ∀ (v2 : Int32) (w : Wd) (H : Heap) (locs : List Loc) (ls : Array Slot), jX5_topsAgree_40 p1 k2 v2 w = some q → World E full w s H → va_S (wA E full) s.heap H locs → lv_has ls 3 [(0, .ref (E.2.1 14)), (1, .ref (E.2.1 p1)), (2, .int v2)] → W p l e rmX5_topsAgree s m args below meth c H locs 0 0 Q (F0 m 40 ls []) := by
        intro v2 w H locs ls h hW hS hl
        unfold jX5_topsAgree_40 at h
        refine lv_iinc (v := (v2 + (1 : Int32))) (lv' := [(2, .int (v2 + (1 : Int32))), (0, .ref (E.2.1 14)), (1, .ref (E.2.1 p1))]) hx hb dX5_topsAgree_40 hl (k := 2) rfl rfl (by decide) rfl (fun ls hl => ?_)
        refine lv_goto (tgt := 2) hx hb dX5_topsAgree_43 (by decide) ?_
        exact ih2 _ _ _ _ _ h hW hS (lv_sub hl [1, 2, 0] rfl)
      unfold bX5_topsAgree_2 at h
      refine lv_iload_n hx hb dX5_topsAgree_2 rfl (lv_at hl 2 rfl) ?_
      refine lv_aload_n hx hb dX5_topsAgree_3 rfl (lv_at hl 0 rfl) ?_
      refine rw_get hx hb hts iX5 hown hW (fl 14 rfl) rfl rfl 0 (by decide) e26 rfl (v := .ref (E.2.1 1)) rfl dX5_topsAgree_4 ?_
      refine rc_Vi (k := 1) (As := []) (rest := [.int v2]) S hW hS h (kX2_cells l E  w) (cwV 0 hts gX5_topsAgree_X2_cells rfl rfl rfl hdX2_cells ⟨Nat.le_of_ble_eq_true rfl, Nat.le_of_ble_eq_true rfl⟩) (fl 1 rfl) rfl rfl rfl rfl hl.1 rfl (Nat.le_of_ble_eq_true rfl) ⟨Nat.zero_le _, Nat.zero_le _⟩ dX5_topsAgree_7 (fun x1 w2 H locs h hW hS => ?_)
      refine rb_icmp_ge (tgt := 46) hx hb h dX5_topsAgree_10 (by decide) (fun h => ?_) (fun h => ?_)
      · refine lv_iconst (v := (1 : Int32)) hx hb dX5_topsAgree_46 (by decide) ?_
        exact rrZ hQ hW hS h dX5_topsAgree_47
      · refine lv_aload_n hx hb dX5_topsAgree_13 rfl (lv_at hl 0 rfl) ?_
        refine rw_get hx hb hts iX5 hown hW (fl 14 rfl) rfl rfl 3 (by decide) e18 rfl (v := .ref (E.2.1 18)) rfl dX5_topsAgree_14 ?_
        refine lv_iload_n hx hb dX5_topsAgree_17 rfl (lv_at hl 2 rfl) ?_
        refine rw_iald hx hb hW (fun _ => (fl 18 rfl)) h dX5_topsAgree_18 (fun x3 h => ?_)
        refine lv_bipush (v := (-9 : Int32)) hx hb dX5_topsAgree_19 (by decide) ?_
        refine rb_icmp_eq (tgt := 40) hx hb h dX5_topsAgree_21 (by decide) (fun h => ?_) (fun h => ?_)
        · exact J40 _ _ _ _ _ h hW hS (hl)
        · refine lv_aload_n hx hb dX5_topsAgree_24 rfl (lv_at hl 0 rfl) ?_
          refine rw_get hx hb hts iX5 hown hW (fl 14 rfl) rfl rfl 3 (by decide) e18 rfl (v := .ref (E.2.1 18)) rfl dX5_topsAgree_25 ?_
          refine lv_iload_n hx hb dX5_topsAgree_28 rfl (lv_at hl 2 rfl) ?_
          refine rw_iald hx hb hW (fun _ => (fl 18 rfl)) h dX5_topsAgree_29 (fun x4 h => ?_)
          refine lv_aload_n hx hb dX5_topsAgree_30 rfl (lv_at hl 1 rfl) ?_
          refine lv_iload_n hx hb dX5_topsAgree_31 rfl (lv_at hl 2 rfl) ?_
          refine rc_Si (As := [.ref (E.2.1 p1), .int v2]) (rest := [.int x4]) S hW hS h (kX5_topOf l E p1 v2 w2) (va_cwS 2 hts gX5_topsAgree_X5_topOf rfl rfl rfl hdX5_topOf ⟨Nat.le_of_ble_eq_true rfl, Nat.le_of_ble_eq_true rfl⟩) rfl hl.1 rfl (Nat.le_of_ble_eq_true rfl) ⟨Nat.zero_le _, Nat.zero_le _⟩ dX5_topsAgree_32 (fun x5 w6 H locs h hW hS => ?_)
          refine rb_icmp_eq (tgt := 40) hx hb h dX5_topsAgree_35 (by decide) (fun h => ?_) (fun h => ?_)
          · exact J40 _ _ _ _ _ h hW hS (hl)
          · refine lv_iconst (v := (0 : Int32)) hx hb dX5_topsAgree_38 (by decide) ?_
            exact rrZ hQ hW hS h dX5_topsAgree_39
  unfold fX5_topsAgree at h
  refine lv_iconst (v := (0 : Int32)) hx hb dX5_topsAgree_0 (by decide) ?_
  refine lv_istore_n (lv' := [(2, .int (0 : Int32)), (0, .ref (E.2.1 14)), (1, .ref (E.2.1 p1))]) hx hb dX5_topsAgree_1 rfl hl (by decide) rfl (fun ls hl => ?_)
  exact J2 _ _ _ _ _ _ h hW hS (lv_sub hl [1, 2, 0] rfl)
noncomputable def fX5_agrees (p1 : Nat) (w : Wd) : Option (Int32 × Wd) :=
  bnd (fX5_linesAgree p1 (1 : Int32) w) fun x1 w2 => if x1 = 0 then zr (0 : Int32) w2 else bnd (fX5_linesAgree p1 (0 : Int32) w2) fun x3 w4 => if x3 = 0 then zr (0 : Int32) w4 else bnd (fX5_topsAgree p1 w4) fun x5 w6 => if x5 = 0 then zr (0 : Int32) w6 else zr (1 : Int32) w6
abbrev rmX5_agrees : Room := { frames := 3, cells := 0, slots := 0, locals := 72 }
set_option maxHeartbeats 4000000 in
set_option maxRecDepth 100000 in
theorem kX5_agrees (l : Launch) (E : Ev) (p1 : Nat) (w : Wd) (q : Int32 × Wd) (h : fX5_agrees p1 w = some q) : CtI l yX5_agrees wsX5_agrees rmX5_agrees E full [.ref (E.2.1 14), .ref (E.2.1 p1)] w q := by
  refine mkZ (cc := cX5_agrees) (maxL := 2) (by decide) rfl (Nat.le_of_ble_eq_true rfl) ?_
  intro p e s m args below meth c Q S hW hQ ls hl
  obtain ⟨hx, hb, hml, hown, hts⟩ := id S
  have hW0 := hW
  have hS : va_S (wA E full) s.heap s.heap [] := va_S.rf
  have hl : lv_has ls 2 [(0, .ref (E.2.1 14)), (1, .ref (E.2.1 p1))] := hl
  unfold fX5_agrees at h
  refine lv_aload_n hx hb dX5_agrees_0 rfl (lv_at hl 0 rfl) ?_
  refine lv_aload_n hx hb dX5_agrees_1 rfl (lv_at hl 1 rfl) ?_
  refine lv_iconst (v := (1 : Int32)) hx hb dX5_agrees_2 (by decide) ?_
  refine rc_Vi (k := 14) (As := [.ref (E.2.1 p1), .int (1 : Int32)]) (rest := []) S hW hS h (kX5_linesAgree l E p1 (1 : Int32) w) (cwV 2 hts gX5_agrees_X5_linesAgree rfl rfl rfl hdX5_linesAgree ⟨Nat.le_of_ble_eq_true rfl, Nat.le_of_ble_eq_true rfl⟩) (fl 14 rfl) rfl rfl rfl rfl hl.1 rfl (Nat.le_of_ble_eq_true rfl) ⟨Nat.zero_le _, Nat.zero_le _⟩ dX5_agrees_3 (fun x1 w2 H locs h hW hS => ?_)
  refine rb_if_eq (tgt := 30) hx hb h dX5_agrees_6 (by decide) (fun h => ?_) (fun h => ?_)
  · refine lv_iconst (v := (0 : Int32)) hx hb dX5_agrees_30 (by decide) ?_
    exact rrZ hQ hW hS h dX5_agrees_31
  · refine lv_aload_n hx hb dX5_agrees_9 rfl (lv_at hl 0 rfl) ?_
    refine lv_aload_n hx hb dX5_agrees_10 rfl (lv_at hl 1 rfl) ?_
    refine lv_iconst (v := (0 : Int32)) hx hb dX5_agrees_11 (by decide) ?_
    refine rc_Vi (k := 14) (As := [.ref (E.2.1 p1), .int (0 : Int32)]) (rest := []) S hW hS h (kX5_linesAgree l E p1 (0 : Int32) w2) (cwV 2 hts gX5_agrees_X5_linesAgree rfl rfl rfl hdX5_linesAgree ⟨Nat.le_of_ble_eq_true rfl, Nat.le_of_ble_eq_true rfl⟩) (fl 14 rfl) rfl rfl rfl rfl hl.1 rfl (Nat.le_of_ble_eq_true rfl) ⟨Nat.zero_le _, Nat.zero_le _⟩ dX5_agrees_12 (fun x3 w4 H locs h hW hS => ?_)
    refine rb_if_eq (tgt := 30) hx hb h dX5_agrees_15 (by decide) (fun h => ?_) (fun h => ?_)
    · refine lv_iconst (v := (0 : Int32)) hx hb dX5_agrees_30 (by decide) ?_
      exact rrZ hQ hW hS h dX5_agrees_31
    · refine lv_aload_n hx hb dX5_agrees_18 rfl (lv_at hl 0 rfl) ?_
      refine lv_aload_n hx hb dX5_agrees_19 rfl (lv_at hl 1 rfl) ?_
      refine rc_Vi (k := 14) (As := [.ref (E.2.1 p1)]) (rest := []) S hW hS h (kX5_topsAgree l E p1 w4) (cwV 1 hts gX5_agrees_X5_topsAgree rfl rfl rfl hdX5_topsAgree ⟨Nat.le_of_ble_eq_true rfl, Nat.le_of_ble_eq_true rfl⟩) (fl 14 rfl) rfl rfl rfl rfl hl.1 rfl (Nat.le_of_ble_eq_true rfl) ⟨Nat.zero_le _, Nat.zero_le _⟩ dX5_agrees_20 (fun x5 w6 H locs h hW hS => ?_)
      refine rb_if_eq (tgt := 30) hx hb h dX5_agrees_23 (by decide) (fun h => ?_) (fun h => ?_)
      · refine lv_iconst (v := (0 : Int32)) hx hb dX5_agrees_30 (by decide) ?_
        exact rrZ hQ hW hS h dX5_agrees_31
      · refine lv_iconst (v := (1 : Int32)) hx hb dX5_agrees_26 (by decide) ?_
        refine lv_goto (tgt := 31) hx hb dX5_agrees_27 (by decide) ?_
        exact rrZ hQ hW hS h dX5_agrees_31
noncomputable def jX5_countTold_30 (p1 : Int32) (k4 : Int32 → Int32 → Wd → Option (Int32 × Wd)) (v2 : Int32) (v3 : Int32)  (w : Wd) : Option (Int32 × Wd) :=
  k4 v2 (v3 + (1 : Int32)) w
noncomputable def bX5_countTold_4 (p1 : Int32) (k4 : Int32 → Int32 → Wd → Option (Int32 × Wd)) (v2 : Int32) (v3 : Int32)  (w : Wd) : Option (Int32 × Wd) :=
  bnd (fX2_lines p1 w) fun x1 w2 => if x1 ≤ v3 then some (v2, w2) else bnd (fX5_line p1 v3 w2) fun x3 w4 => if x3 = (-9 : Int32) then jX5_countTold_30 p1 k4 v2 v3 w4 else jX5_countTold_30 p1 k4 (v2 + (1 : Int32)) v3 w4
noncomputable def fX5_countTold (p1 : Int32) (w : Wd) : Option (Int32 × Wd) :=
  lp (fun _ _ _ => none) (bX5_countTold_4 p1) G (0 : Int32) (0 : Int32) w
abbrev rmX5_countTold : Room := { frames := 2, cells := 0, slots := 0, locals := 44 }
set_option maxHeartbeats 4000000 in
set_option maxRecDepth 100000 in
theorem kX5_countTold (l : Launch) (E : Ev) (p1 : Int32) (w : Wd) (q : Int32 × Wd) (h : fX5_countTold p1 w = some q) : CtI l yX5_countTold wsX5_countTold rmX5_countTold E full [.ref (E.2.1 14), .int p1] w q := by
  refine mkI (cc := cX5_countTold) (maxL := 4) (by decide) rfl (Nat.le_of_ble_eq_true rfl) ?_
  intro p e s m args below meth c Q S hW hQ ls hl
  obtain ⟨hx, hb, hml, hown, hts⟩ := id S
  have hW0 := hW
  have hS : va_S (wA E full) s.heap s.heap [] := va_S.rf
  have hl : lv_has ls 4 [(0, .ref (E.2.1 14)), (1, .int p1)] := hl
  have iX5 : ∀ w ∈ wsX50, w ∈ wsX5_countTold := by decide +kernel
  have e26 := hts (.fieldLink RX5 26 "CubeHeaps$Told" "ground" "LCubeHeaps$Ground;") (by decide +kernel)
  have J4 : ∀ (n : Nat) (v2 : Int32) (v3 : Int32) (w : Wd) (H : Heap) (locs : List Loc) (ls : Array Slot), lp (fun _ _ _ => none) (bX5_countTold_4 p1) n v2 v3 w = some q → World E full w s H → va_S (wA E full) s.heap H locs → lv_has ls 4 [(0, .ref (E.2.1 14)), (1, .int p1), (2, .int v2), (3, .int v3)] → W p l e rmX5_countTold s m args below meth c H locs 0 0 Q (F0 m 4 ls []) := by
    intro n
    induction n with
    | zero =>
      intro v2 v3 w H locs ls h hW hS hl
      exact absurd (show (none : Option (Int32 × Wd)) = some q from h) (fun z => by cases z)
    | succ n ih4 =>
      intro v2 v3 w H locs ls h hW hS hl
      have h : bX5_countTold_4 p1 (lp (fun _ _ _ => none) (bX5_countTold_4 p1) n) v2 v3 w = some q := h
      generalize lp (fun _ _ _ => none) (bX5_countTold_4 p1) n = k4 at h ih4
      have J30 : ∀ (v2 : Int32) (v3 : Int32) (w : Wd) (H : Heap) (locs : List Loc) (ls : Array Slot), jX5_countTold_30 p1 k4 v2 v3 w = some q → World E full w s H → va_S (wA E full) s.heap H locs → lv_has ls 4 [(0, .ref (E.2.1 14)), (1, .int p1), (2, .int v2), (3, .int v3)] → W p l e rmX5_countTold s m args below meth c H locs 0 0 Q (F0 m 30 ls []) := by
        intro v2 v3 w H locs ls h hW hS hl
        unfold jX5_countTold_30 at h
        refine lv_iinc (v := (v3 + (1 : Int32))) (lv' := [(3, .int (v3 + (1 : Int32))), (0, .ref (E.2.1 14)), (1, .int p1), (2, .int v2)]) hx hb dX5_countTold_30 hl (k := 3) rfl rfl (by decide) rfl (fun ls hl => ?_)
        refine lv_goto (tgt := 4) hx hb dX5_countTold_33 (by decide) ?_
        exact ih4 _ _ _ _ _ _ h hW hS (lv_sub hl [1, 2, 3, 0] rfl)
      unfold bX5_countTold_4 at h
      refine lv_iload_n hx hb dX5_countTold_4 rfl (lv_at hl 3 rfl) ?_
      refine lv_aload_n hx hb dX5_countTold_5 rfl (lv_at hl 0 rfl) ?_
      refine rw_get hx hb hts iX5 hown hW (fl 14 rfl) rfl rfl 0 (by decide) e26 rfl (v := .ref (E.2.1 1)) rfl dX5_countTold_6 ?_
      refine lv_iload_n hx hb dX5_countTold_9 rfl (lv_at hl 1 rfl) ?_
      refine rc_Vi (k := 1) (As := [.int p1]) (rest := [.int v3]) S hW hS h (kX2_lines l E p1 w) (cwV 1 hts gX5_countTold_X2_lines rfl rfl rfl hdX2_lines ⟨Nat.le_of_ble_eq_true rfl, Nat.le_of_ble_eq_true rfl⟩) (fl 1 rfl) rfl rfl rfl rfl hl.1 rfl (Nat.le_of_ble_eq_true rfl) ⟨Nat.zero_le _, Nat.zero_le _⟩ dX5_countTold_10 (fun x1 w2 H locs h hW hS => ?_)
      refine rb_icmp_ge (tgt := 36) hx hb h dX5_countTold_13 (by decide) (fun h => ?_) (fun h => ?_)
      · refine lv_iload_n hx hb dX5_countTold_36 rfl (lv_at hl 2 rfl) ?_
        exact rrI hQ hW hS h dX5_countTold_37
      · refine lv_aload_n hx hb dX5_countTold_16 rfl (lv_at hl 0 rfl) ?_
        refine lv_iload_n hx hb dX5_countTold_17 rfl (lv_at hl 1 rfl) ?_
        refine lv_iload_n hx hb dX5_countTold_18 rfl (lv_at hl 3 rfl) ?_
        refine rc_Vi (k := 14) (As := [.int p1, .int v3]) (rest := []) S hW hS h (kX5_line l E p1 v3 w2) (cwV 2 hts gX5_countTold_X5_line rfl rfl rfl hdX5_line ⟨Nat.le_of_ble_eq_true rfl, Nat.le_of_ble_eq_true rfl⟩) (fl 14 rfl) rfl rfl rfl rfl hl.1 rfl (Nat.le_of_ble_eq_true rfl) ⟨Nat.zero_le _, Nat.zero_le _⟩ dX5_countTold_19 (fun x3 w4 H locs h hW hS => ?_)
        refine lv_bipush (v := (-9 : Int32)) hx hb dX5_countTold_22 (by decide) ?_
        refine rb_icmp_eq (tgt := 30) hx hb h dX5_countTold_24 (by decide) (fun h => ?_) (fun h => ?_)
        · exact J30 _ _ _ _ _ _ h hW hS (hl)
        · refine lv_iinc (v := (v2 + (1 : Int32))) (lv' := [(2, .int (v2 + (1 : Int32))), (0, .ref (E.2.1 14)), (1, .int p1), (3, .int v3)]) hx hb dX5_countTold_27 hl (k := 2) rfl rfl (by decide) rfl (fun ls hl => ?_)
          exact J30 _ _ _ _ _ _ h hW hS (lv_sub hl [1, 2, 0, 3] rfl)
  unfold fX5_countTold at h
  refine lv_iconst (v := (0 : Int32)) hx hb dX5_countTold_0 (by decide) ?_
  refine lv_istore_n (lv' := [(2, .int (0 : Int32)), (0, .ref (E.2.1 14)), (1, .int p1)]) hx hb dX5_countTold_1 rfl hl (by decide) rfl (fun ls hl => ?_)
  refine lv_iconst (v := (0 : Int32)) hx hb dX5_countTold_2 (by decide) ?_
  refine lv_istore_n (lv' := [(3, .int (0 : Int32)), (2, .int (0 : Int32)), (0, .ref (E.2.1 14)), (1, .int p1)]) hx hb dX5_countTold_3 rfl hl (by decide) rfl (fun ls hl => ?_)
  exact J4 _ _ _ _ _ _ _ h hW hS (lv_sub hl [2, 3, 1, 0] rfl)
noncomputable def fX5_linesTold  (w : Wd) : Option (Int32 × Wd) :=
  bnd (fX5_countTold (1 : Int32) w) fun x1 w2 => bnd (fX5_countTold (0 : Int32) w2) fun x3 w4 => some ((x1 + x3), w4)
abbrev rmX5_linesTold : Room := { frames := 3, cells := 0, slots := 0, locals := 67 }
set_option maxHeartbeats 4000000 in
set_option maxRecDepth 100000 in
theorem kX5_linesTold (l : Launch) (E : Ev)  (w : Wd) (q : Int32 × Wd) (h : fX5_linesTold w = some q) : CtI l yX5_linesTold wsX5_linesTold rmX5_linesTold E full [.ref (E.2.1 14)] w q := by
  refine mkI (cc := cX5_linesTold) (maxL := 1) (by decide) rfl (Nat.le_of_ble_eq_true rfl) ?_
  intro p e s m args below meth c Q S hW hQ ls hl
  obtain ⟨hx, hb, hml, hown, hts⟩ := id S
  have hW0 := hW
  have hS : va_S (wA E full) s.heap s.heap [] := va_S.rf
  have hl : lv_has ls 1 [(0, .ref (E.2.1 14))] := hl
  unfold fX5_linesTold at h
  refine lv_aload_n hx hb dX5_linesTold_0 rfl (lv_at hl 0 rfl) ?_
  refine lv_iconst (v := (1 : Int32)) hx hb dX5_linesTold_1 (by decide) ?_
  refine rc_Vi (k := 14) (As := [.int (1 : Int32)]) (rest := []) S hW hS h (kX5_countTold l E (1 : Int32) w) (cwV 1 hts gX5_linesTold_X5_countTold rfl rfl rfl hdX5_countTold ⟨Nat.le_of_ble_eq_true rfl, Nat.le_of_ble_eq_true rfl⟩) (fl 14 rfl) rfl rfl rfl rfl hl.1 rfl (Nat.le_of_ble_eq_true rfl) ⟨Nat.zero_le _, Nat.zero_le _⟩ dX5_linesTold_2 (fun x1 w2 H locs h hW hS => ?_)
  refine lv_aload_n hx hb dX5_linesTold_5 rfl (lv_at hl 0 rfl) ?_
  refine lv_iconst (v := (0 : Int32)) hx hb dX5_linesTold_6 (by decide) ?_
  refine rc_Vi (k := 14) (As := [.int (0 : Int32)]) (rest := [.int x1]) S hW hS h (kX5_countTold l E (0 : Int32) w2) (cwV 1 hts gX5_linesTold_X5_countTold rfl rfl rfl hdX5_countTold ⟨Nat.le_of_ble_eq_true rfl, Nat.le_of_ble_eq_true rfl⟩) (fl 14 rfl) rfl rfl rfl rfl hl.1 rfl (Nat.le_of_ble_eq_true rfl) ⟨Nat.zero_le _, Nat.zero_le _⟩ dX5_linesTold_7 (fun x3 w4 H locs h hW hS => ?_)
  refine lv_iadd hx hb dX5_linesTold_10 ?_
  exact rrI hQ hW hS h dX5_linesTold_11
noncomputable def jX5_topsTold_29 (k4 : Int32 → Int32 → Wd → Option (Int32 × Wd)) (v1 : Int32) (v2 : Int32)  (w : Wd) : Option (Int32 × Wd) :=
  k4 v1 (v2 + (1 : Int32)) w
noncomputable def bX5_topsTold_4 (k4 : Int32 → Int32 → Wd → Option (Int32 × Wd)) (v1 : Int32) (v2 : Int32)  (w : Wd) : Option (Int32 × Wd) :=
  bnd (fX2_cells w) fun x1 w2 => if x1 ≤ v2 then some (v1, w2) else (gI w2 18 v2).bind fun x3 => if x3 = (-9 : Int32) then jX5_topsTold_29 k4 v1 v2 w2 else jX5_topsTold_29 k4 (v1 + (1 : Int32)) v2 w2
noncomputable def fX5_topsTold  (w : Wd) : Option (Int32 × Wd) :=
  lp (fun _ _ _ => none) (bX5_topsTold_4) G (0 : Int32) (0 : Int32) w
abbrev rmX5_topsTold : Room := { frames := 1, cells := 0, slots := 0, locals := 20 }
set_option maxHeartbeats 4000000 in
set_option maxRecDepth 100000 in
theorem kX5_topsTold (l : Launch) (E : Ev)  (w : Wd) (q : Int32 × Wd) (h : fX5_topsTold w = some q) : CtI l yX5_topsTold wsX5_topsTold rmX5_topsTold E full [.ref (E.2.1 14)] w q := by
  refine mkI (cc := cX5_topsTold) (maxL := 3) (by decide) rfl (Nat.le_of_ble_eq_true rfl) ?_
  intro p e s m args below meth c Q S hW hQ ls hl
  obtain ⟨hx, hb, hml, hown, hts⟩ := id S
  have hW0 := hW
  have hS : va_S (wA E full) s.heap s.heap [] := va_S.rf
  have hl : lv_has ls 3 [(0, .ref (E.2.1 14))] := hl
  have iX5 : ∀ w ∈ wsX50, w ∈ wsX5_topsTold := by decide +kernel
  have e18 := hts (.fieldLink RX5 18 "CubeHeaps$Told" "tops" "[I") (by decide +kernel)
  have e26 := hts (.fieldLink RX5 26 "CubeHeaps$Told" "ground" "LCubeHeaps$Ground;") (by decide +kernel)
  have J4 : ∀ (n : Nat) (v1 : Int32) (v2 : Int32) (w : Wd) (H : Heap) (locs : List Loc) (ls : Array Slot), lp (fun _ _ _ => none) (bX5_topsTold_4) n v1 v2 w = some q → World E full w s H → va_S (wA E full) s.heap H locs → lv_has ls 3 [(0, .ref (E.2.1 14)), (1, .int v1), (2, .int v2)] → W p l e rmX5_topsTold s m args below meth c H locs 0 0 Q (F0 m 4 ls []) := by
    intro n
    induction n with
    | zero =>
      intro v1 v2 w H locs ls h hW hS hl
      exact absurd (show (none : Option (Int32 × Wd)) = some q from h) (fun z => by cases z)
    | succ n ih4 =>
      intro v1 v2 w H locs ls h hW hS hl
      have h : bX5_topsTold_4 (lp (fun _ _ _ => none) (bX5_topsTold_4) n) v1 v2 w = some q := h
      generalize lp (fun _ _ _ => none) (bX5_topsTold_4) n = k4 at h ih4
      have J29 : ∀ (v1 : Int32) (v2 : Int32) (w : Wd) (H : Heap) (locs : List Loc) (ls : Array Slot), jX5_topsTold_29 k4 v1 v2 w = some q → World E full w s H → va_S (wA E full) s.heap H locs → lv_has ls 3 [(0, .ref (E.2.1 14)), (1, .int v1), (2, .int v2)] → W p l e rmX5_topsTold s m args below meth c H locs 0 0 Q (F0 m 29 ls []) := by
        intro v1 v2 w H locs ls h hW hS hl
        unfold jX5_topsTold_29 at h
        refine lv_iinc (v := (v2 + (1 : Int32))) (lv' := [(2, .int (v2 + (1 : Int32))), (0, .ref (E.2.1 14)), (1, .int v1)]) hx hb dX5_topsTold_29 hl (k := 2) rfl rfl (by decide) rfl (fun ls hl => ?_)
        refine lv_goto (tgt := 4) hx hb dX5_topsTold_32 (by decide) ?_
        exact ih4 _ _ _ _ _ _ h hW hS (lv_sub hl [1, 2, 0] rfl)
      unfold bX5_topsTold_4 at h
      refine lv_iload_n hx hb dX5_topsTold_4 rfl (lv_at hl 2 rfl) ?_
      refine lv_aload_n hx hb dX5_topsTold_5 rfl (lv_at hl 0 rfl) ?_
      refine rw_get hx hb hts iX5 hown hW (fl 14 rfl) rfl rfl 0 (by decide) e26 rfl (v := .ref (E.2.1 1)) rfl dX5_topsTold_6 ?_
      refine rc_Vi (k := 1) (As := []) (rest := [.int v2]) S hW hS h (kX2_cells l E  w) (cwV 0 hts gX5_topsTold_X2_cells rfl rfl rfl hdX2_cells ⟨Nat.le_of_ble_eq_true rfl, Nat.le_of_ble_eq_true rfl⟩) (fl 1 rfl) rfl rfl rfl rfl hl.1 rfl (Nat.le_of_ble_eq_true rfl) ⟨Nat.zero_le _, Nat.zero_le _⟩ dX5_topsTold_9 (fun x1 w2 H locs h hW hS => ?_)
      refine rb_icmp_ge (tgt := 35) hx hb h dX5_topsTold_12 (by decide) (fun h => ?_) (fun h => ?_)
      · refine lv_iload_n hx hb dX5_topsTold_35 rfl (lv_at hl 1 rfl) ?_
        exact rrI hQ hW hS h dX5_topsTold_36
      · refine lv_aload_n hx hb dX5_topsTold_15 rfl (lv_at hl 0 rfl) ?_
        refine rw_get hx hb hts iX5 hown hW (fl 14 rfl) rfl rfl 3 (by decide) e18 rfl (v := .ref (E.2.1 18)) rfl dX5_topsTold_16 ?_
        refine lv_iload_n hx hb dX5_topsTold_19 rfl (lv_at hl 2 rfl) ?_
        refine rw_iald hx hb hW (fun _ => (fl 18 rfl)) h dX5_topsTold_20 (fun x3 h => ?_)
        refine lv_bipush (v := (-9 : Int32)) hx hb dX5_topsTold_21 (by decide) ?_
        refine rb_icmp_eq (tgt := 29) hx hb h dX5_topsTold_23 (by decide) (fun h => ?_) (fun h => ?_)
        · exact J29 _ _ _ _ _ _ h hW hS (hl)
        · refine lv_iinc (v := (v1 + (1 : Int32))) (lv' := [(1, .int (v1 + (1 : Int32))), (0, .ref (E.2.1 14)), (2, .int v2)]) hx hb dX5_topsTold_26 hl (k := 1) rfl rfl (by decide) rfl (fun ls hl => ?_)
          exact J29 _ _ _ _ _ _ h hW hS (lv_sub hl [1, 0, 2] rfl)
  unfold fX5_topsTold at h
  refine lv_iconst (v := (0 : Int32)) hx hb dX5_topsTold_0 (by decide) ?_
  refine lv_istore_n (lv' := [(1, .int (0 : Int32)), (0, .ref (E.2.1 14))]) hx hb dX5_topsTold_1 rfl hl (by decide) rfl (fun ls hl => ?_)
  refine lv_iconst (v := (0 : Int32)) hx hb dX5_topsTold_2 (by decide) ?_
  refine lv_istore_n (lv' := [(2, .int (0 : Int32)), (1, .int (0 : Int32)), (0, .ref (E.2.1 14))]) hx hb dX5_topsTold_3 rfl hl (by decide) rfl (fun ls hl => ?_)
  exact J4 _ _ _ _ _ _ _ h hW hS (lv_sub hl [2, 1, 0] rfl)
noncomputable def jX6_keepsGround_25 (p1 : Int32)  (w : Wd) : Option (Int32 × Wd) :=
  zr (1 : Int32) w
noncomputable def fX6_keepsGround (p1 : Int32) (w : Wd) : Option (Int32 × Wd) :=
  (rmI p1 (2 : Int32)).bind fun x1 => if x1 = 0 then jX6_keepsGround_25 p1 w else bnd (fX2_lines (1 : Int32) w) fun x2 w3 => bnd (fX2_lines (0 : Int32) w3) fun x4 w5 => if x2 = x4 then jX6_keepsGround_25 p1 w5 else zr (0 : Int32) w5
abbrev rmX6_keepsGround : Room := { frames := 1, cells := 0, slots := 0, locals := 21 }
set_option maxHeartbeats 4000000 in
set_option maxRecDepth 100000 in
theorem kX6_keepsGround (l : Launch) (E : Ev) (p1 : Int32) (w : Wd) (q : Int32 × Wd) (h : fX6_keepsGround p1 w = some q) : CtI l yX6_keepsGround wsX6_keepsGround rmX6_keepsGround E full [.ref (E.2.1 96), .int p1] w q := by
  refine mkZ (cc := cX6_keepsGround) (maxL := 2) (by decide) rfl (Nat.le_of_ble_eq_true rfl) ?_
  intro p e s m args below meth c Q S hW hQ ls hl
  obtain ⟨hx, hb, hml, hown, hts⟩ := id S
  have hW0 := hW
  have hS : va_S (wA E full) s.heap s.heap [] := va_S.rf
  have hl : lv_has ls 2 [(0, .ref (E.2.1 96)), (1, .int p1)] := hl
  have iX6 : ∀ w ∈ wsX60, w ∈ wsX6_keepsGround := by decide +kernel
  have e18 := hts (.fieldLink RX6 18 "CubeHeaps$Turning" "ground" "LCubeHeaps$Ground;") (by decide +kernel)
  have J25 : ∀  (w : Wd) (H : Heap) (locs : List Loc) (ls : Array Slot), jX6_keepsGround_25 p1 w = some q → World E full w s H → va_S (wA E full) s.heap H locs → lv_has ls 2 [] → W p l e rmX6_keepsGround s m args below meth c H locs 0 0 Q (F0 m 25 ls []) := by
    intro  w H locs ls h hW hS hl
    unfold jX6_keepsGround_25 at h
    refine lv_iconst (v := (1 : Int32)) hx hb dX6_keepsGround_25 (by decide) ?_
    refine lv_goto (tgt := 30) hx hb dX6_keepsGround_26 (by decide) ?_
    exact rrZ hQ hW hS h dX6_keepsGround_30
  unfold fX6_keepsGround at h
  refine lv_iload_n hx hb dX6_keepsGround_0 rfl (lv_at hl 1 rfl) ?_
  refine lv_iconst (v := (2 : Int32)) hx hb dX6_keepsGround_1 (by decide) ?_
  refine rb_rem hx hb h dX6_keepsGround_2 (fun x1 h => ?_)
  refine rb_if_eq (tgt := 25) hx hb h dX6_keepsGround_3 (by decide) (fun h => ?_) (fun h => ?_)
  · exact J25  _ _ _ _ h hW hS (lv_sub hl [] rfl)
  · refine lv_aload_n hx hb dX6_keepsGround_6 rfl (lv_at hl 0 rfl) ?_
    refine rw_get hx hb hts iX6 hown hW (fl 96 rfl) rfl rfl 0 (by decide) e18 rfl (v := .ref (E.2.1 1)) rfl dX6_keepsGround_7 ?_
    refine lv_iconst (v := (1 : Int32)) hx hb dX6_keepsGround_10 (by decide) ?_
    refine rc_Vi (k := 1) (As := [.int (1 : Int32)]) (rest := []) S hW hS h (kX2_lines l E (1 : Int32) w) (cwV 1 hts gX6_keepsGround_X2_lines rfl rfl rfl hdX2_lines ⟨Nat.le_of_ble_eq_true rfl, Nat.le_of_ble_eq_true rfl⟩) (fl 1 rfl) rfl rfl rfl rfl hl.1 rfl (Nat.le_of_ble_eq_true rfl) ⟨Nat.zero_le _, Nat.zero_le _⟩ dX6_keepsGround_11 (fun x2 w3 H locs h hW hS => ?_)
    refine lv_aload_n hx hb dX6_keepsGround_14 rfl (lv_at hl 0 rfl) ?_
    refine rw_get hx hb hts iX6 hown hW (fl 96 rfl) rfl rfl 0 (by decide) e18 rfl (v := .ref (E.2.1 1)) rfl dX6_keepsGround_15 ?_
    refine lv_iconst (v := (0 : Int32)) hx hb dX6_keepsGround_18 (by decide) ?_
    refine rc_Vi (k := 1) (As := [.int (0 : Int32)]) (rest := [.int x2]) S hW hS h (kX2_lines l E (0 : Int32) w3) (cwV 1 hts gX6_keepsGround_X2_lines rfl rfl rfl hdX2_lines ⟨Nat.le_of_ble_eq_true rfl, Nat.le_of_ble_eq_true rfl⟩) (fl 1 rfl) rfl rfl rfl rfl hl.1 rfl (Nat.le_of_ble_eq_true rfl) ⟨Nat.zero_le _, Nat.zero_le _⟩ dX6_keepsGround_19 (fun x4 w5 H locs h hW hS => ?_)
    refine rb_icmp_ne (tgt := 29) hx hb h dX6_keepsGround_22 (by decide) (fun h => ?_) (fun h => ?_)
    · refine lv_iconst (v := (0 : Int32)) hx hb dX6_keepsGround_29 (by decide) ?_
      exact rrZ hQ hW hS h dX6_keepsGround_30
    · exact J25  _ _ _ _ h hW hS (lv_sub hl [] rfl)
noncomputable def jX6_image_49 (p1 : Int32) (p2 : Int32) (v3 : Int32) (v4 : Int32) (s0 : Int32)  (w : Wd) : Option (Int32 × Wd) :=
  bnd (fX2_y p1 w) fun x9 w10 => (rmI p2 (4 : Int32)).bind fun x11 => if x11 = 1 then bnd (fX2_at (v4 - x9) s0 w10) fun x12 w13 => some (x12, w13) else if x11 = 2 then bnd (fX2_at (v3 - s0) (v4 - x9) w10) fun x14 w15 => some (x14, w15) else if x11 = 3 then bnd (fX2_at x9 (v3 - s0) w10) fun x16 w17 => some (x16, w17) else bnd (fX2_at s0 x9 w10) fun x18 w19 => some (x18, w19)
noncomputable def fX6_image (p1 : Int32) (p2 : Int32) (w : Wd) : Option (Int32 × Wd) :=
  bnd (fX2_lines (1 : Int32) w) fun x1 w2 => bnd (fX2_lines (0 : Int32) w2) fun x3 w4 => if (4 : Int32) ≤ p2 then bnd (fX2_x p1 w4) fun x5 w6 => jX6_image_49 p1 p2 (x1 - (1 : Int32)) (x3 - (1 : Int32)) ((x1 - (1 : Int32)) - x5) w6 else bnd (fX2_x p1 w4) fun x7 w8 => jX6_image_49 p1 p2 (x1 - (1 : Int32)) (x3 - (1 : Int32)) x7 w8
abbrev rmX6_image : Room := { frames := 1, cells := 0, slots := 0, locals := 22 }
set_option maxHeartbeats 4000000 in
set_option maxRecDepth 100000 in
theorem kX6_image (l : Launch) (E : Ev) (p1 : Int32) (p2 : Int32) (w : Wd) (q : Int32 × Wd) (h : fX6_image p1 p2 w = some q) : CtI l yX6_image wsX6_image rmX6_image E full [.ref (E.2.1 96), .int p1, .int p2] w q := by
  refine mkI (cc := cX6_image) (maxL := 7) (by decide) rfl (Nat.le_of_ble_eq_true rfl) ?_
  intro p e s m args below meth c Q S hW hQ ls hl
  obtain ⟨hx, hb, hml, hown, hts⟩ := id S
  have hW0 := hW
  have hS : va_S (wA E full) s.heap s.heap [] := va_S.rf
  have hl : lv_has ls 7 [(0, .ref (E.2.1 96)), (1, .int p1), (2, .int p2)] := hl
  have iX6 : ∀ w ∈ wsX60, w ∈ wsX6_image := by decide +kernel
  have e18 := hts (.fieldLink RX6 18 "CubeHeaps$Turning" "ground" "LCubeHeaps$Ground;") (by decide +kernel)
  have J49 : ∀ (v3 : Int32) (v4 : Int32) (s0 : Int32) (w : Wd) (H : Heap) (locs : List Loc) (ls : Array Slot), jX6_image_49 p1 p2 v3 v4 s0 w = some q → World E full w s H → va_S (wA E full) s.heap H locs → lv_has ls 7 [(0, .ref (E.2.1 96)), (1, .int p1), (2, .int p2), (3, .int v3), (4, .int v4)] → W p l e rmX6_image s m args below meth c H locs 0 0 Q (F0 m 49 ls [.int s0]) := by
    intro v3 v4 s0 w H locs ls h hW hS hl
    unfold jX6_image_49 at h
    refine lv_istore (lv' := [(5, .int s0), (0, .ref (E.2.1 96)), (1, .int p1), (2, .int p2), (3, .int v3), (4, .int v4)]) hx hb dX6_image_49 hl (by decide) rfl (fun ls hl => ?_)
    refine lv_aload_n hx hb dX6_image_51 rfl (lv_at hl 1 rfl) ?_
    refine rw_get hx hb hts iX6 hown hW (fl 96 rfl) rfl rfl 0 (by decide) e18 rfl (v := .ref (E.2.1 1)) rfl dX6_image_52 ?_
    refine lv_iload_n hx hb dX6_image_55 rfl (lv_at hl 2 rfl) ?_
    refine rc_Vi (k := 1) (As := [.int p1]) (rest := []) S hW hS h (kX2_y l E p1 w) (cwV 1 hts gX6_image_X2_y rfl rfl rfl hdX2_y ⟨Nat.le_of_ble_eq_true rfl, Nat.le_of_ble_eq_true rfl⟩) (fl 1 rfl) rfl rfl rfl rfl hl.1 rfl (Nat.le_of_ble_eq_true rfl) ⟨Nat.zero_le _, Nat.zero_le _⟩ dX6_image_56 (fun x9 w10 H locs h hW hS => ?_)
    refine lv_istore (lv' := [(6, .int x9), (5, .int s0), (0, .ref (E.2.1 96)), (1, .int p1), (2, .int p2), (3, .int v3), (4, .int v4)]) hx hb dX6_image_59 hl (by decide) rfl (fun ls hl => ?_)
    refine lv_iload_n hx hb dX6_image_61 rfl (lv_at hl 4 rfl) ?_
    refine lv_iconst (v := (4 : Int32)) hx hb dX6_image_62 (by decide) ?_
    refine rb_rem hx hb h dX6_image_63 (fun x11 h => ?_)
    by_cases c1 : x11 = 1
    · rw [if_pos c1] at h
      refine lv_tableIn (off := 28) (tgt := 92) hx hb dX6_image_64 (by rw [c1]; decide) (by rw [c1]; decide) (by rw [c1]; rfl) (by decide) ?_
      refine lv_aload_n hx hb dX6_image_92 rfl (lv_at hl 2 rfl) ?_
      refine rw_get hx hb hts iX6 hown hW (fl 96 rfl) rfl rfl 0 (by decide) e18 rfl (v := .ref (E.2.1 1)) rfl dX6_image_93 ?_
      refine lv_iload hx hb dX6_image_96 (lv_at hl 6 rfl) ?_
      refine lv_iload hx hb dX6_image_98 (lv_at hl 0 rfl) ?_
      refine lv_isub hx hb dX6_image_100 ?_
      refine lv_iload hx hb dX6_image_101 (lv_at hl 1 rfl) ?_
      refine rc_Vi (k := 1) (As := [.int (v4 - x9), .int s0]) (rest := []) S hW hS h (kX2_at l E full (by decide) (v4 - x9) s0 w10) (cwV 2 hts gX6_image_X2_at rfl rfl rfl hdX2_at ⟨Nat.le_of_ble_eq_true rfl, Nat.le_of_ble_eq_true rfl⟩) (fl 1 rfl) rfl rfl rfl rfl hl.1 rfl (Nat.le_of_ble_eq_true rfl) ⟨Nat.zero_le _, Nat.zero_le _⟩ dX6_image_103 (fun x12 w13 H locs h hW hS => ?_)
      exact rrI hQ hW hS h dX6_image_106
    rw [if_neg c1] at h
    by_cases c2 : x11 = 2
    · rw [if_pos c2] at h
      refine lv_tableIn (off := 43) (tgt := 107) hx hb dX6_image_64 (by rw [c2]; decide) (by rw [c2]; decide) (by rw [c2]; rfl) (by decide) ?_
      refine lv_aload_n hx hb dX6_image_107 rfl (lv_at hl 2 rfl) ?_
      refine rw_get hx hb hts iX6 hown hW (fl 96 rfl) rfl rfl 0 (by decide) e18 rfl (v := .ref (E.2.1 1)) rfl dX6_image_108 ?_
      refine lv_iload_n hx hb dX6_image_111 rfl (lv_at hl 5 rfl) ?_
      refine lv_iload hx hb dX6_image_112 (lv_at hl 1 rfl) ?_
      refine lv_isub hx hb dX6_image_114 ?_
      refine lv_iload hx hb dX6_image_115 (lv_at hl 6 rfl) ?_
      refine lv_iload hx hb dX6_image_117 (lv_at hl 0 rfl) ?_
      refine lv_isub hx hb dX6_image_119 ?_
      refine rc_Vi (k := 1) (As := [.int (v3 - s0), .int (v4 - x9)]) (rest := []) S hW hS h (kX2_at l E full (by decide) (v3 - s0) (v4 - x9) w10) (cwV 2 hts gX6_image_X2_at rfl rfl rfl hdX2_at ⟨Nat.le_of_ble_eq_true rfl, Nat.le_of_ble_eq_true rfl⟩) (fl 1 rfl) rfl rfl rfl rfl hl.1 rfl (Nat.le_of_ble_eq_true rfl) ⟨Nat.zero_le _, Nat.zero_le _⟩ dX6_image_120 (fun x14 w15 H locs h hW hS => ?_)
      exact rrI hQ hW hS h dX6_image_123
    rw [if_neg c2] at h
    by_cases c3 : x11 = 3
    · rw [if_pos c3] at h
      refine lv_tableIn (off := 60) (tgt := 124) hx hb dX6_image_64 (by rw [c3]; decide) (by rw [c3]; decide) (by rw [c3]; rfl) (by decide) ?_
      refine lv_aload_n hx hb dX6_image_124 rfl (lv_at hl 2 rfl) ?_
      refine rw_get hx hb hts iX6 hown hW (fl 96 rfl) rfl rfl 0 (by decide) e18 rfl (v := .ref (E.2.1 1)) rfl dX6_image_125 ?_
      refine lv_iload hx hb dX6_image_128 (lv_at hl 0 rfl) ?_
      refine lv_iload_n hx hb dX6_image_130 rfl (lv_at hl 5 rfl) ?_
      refine lv_iload hx hb dX6_image_131 (lv_at hl 1 rfl) ?_
      refine lv_isub hx hb dX6_image_133 ?_
      refine rc_Vi (k := 1) (As := [.int x9, .int (v3 - s0)]) (rest := []) S hW hS h (kX2_at l E full (by decide) x9 (v3 - s0) w10) (cwV 2 hts gX6_image_X2_at rfl rfl rfl hdX2_at ⟨Nat.le_of_ble_eq_true rfl, Nat.le_of_ble_eq_true rfl⟩) (fl 1 rfl) rfl rfl rfl rfl hl.1 rfl (Nat.le_of_ble_eq_true rfl) ⟨Nat.zero_le _, Nat.zero_le _⟩ dX6_image_134 (fun x16 w17 H locs h hW hS => ?_)
      exact rrI hQ hW hS h dX6_image_137
    rw [if_neg c3] at h
    refine lv_tableOut (tgt := 138) hx hb dX6_image_64 (by have z1 := lv_neT c1 (a := 1) (by decide); have z2 := lv_neT c2 (a := 2) (by decide); have z3 := lv_neT c3 (a := 3) (by decide); omega) (by decide) ?_
    refine lv_aload_n hx hb dX6_image_138 rfl (lv_at hl 2 rfl) ?_
    refine rw_get hx hb hts iX6 hown hW (fl 96 rfl) rfl rfl 0 (by decide) e18 rfl (v := .ref (E.2.1 1)) rfl dX6_image_139 ?_
    refine lv_iload hx hb dX6_image_142 (lv_at hl 1 rfl) ?_
    refine lv_iload hx hb dX6_image_144 (lv_at hl 0 rfl) ?_
    refine rc_Vi (k := 1) (As := [.int s0, .int x9]) (rest := []) S hW hS h (kX2_at l E full (by decide) s0 x9 w10) (cwV 2 hts gX6_image_X2_at rfl rfl rfl hdX2_at ⟨Nat.le_of_ble_eq_true rfl, Nat.le_of_ble_eq_true rfl⟩) (fl 1 rfl) rfl rfl rfl rfl hl.1 rfl (Nat.le_of_ble_eq_true rfl) ⟨Nat.zero_le _, Nat.zero_le _⟩ dX6_image_146 (fun x18 w19 H locs h hW hS => ?_)
    exact rrI hQ hW hS h dX6_image_149
  unfold fX6_image at h
  refine lv_aload_n hx hb dX6_image_0 rfl (lv_at hl 0 rfl) ?_
  refine rw_get hx hb hts iX6 hown hW (fl 96 rfl) rfl rfl 0 (by decide) e18 rfl (v := .ref (E.2.1 1)) rfl dX6_image_1 ?_
  refine lv_iconst (v := (1 : Int32)) hx hb dX6_image_4 (by decide) ?_
  refine rc_Vi (k := 1) (As := [.int (1 : Int32)]) (rest := []) S hW hS h (kX2_lines l E (1 : Int32) w) (cwV 1 hts gX6_image_X2_lines rfl rfl rfl hdX2_lines ⟨Nat.le_of_ble_eq_true rfl, Nat.le_of_ble_eq_true rfl⟩) (fl 1 rfl) rfl rfl rfl rfl hl.1 rfl (Nat.le_of_ble_eq_true rfl) ⟨Nat.zero_le _, Nat.zero_le _⟩ dX6_image_5 (fun x1 w2 H locs h hW hS => ?_)
  refine lv_iconst (v := (1 : Int32)) hx hb dX6_image_8 (by decide) ?_
  refine lv_isub hx hb dX6_image_9 ?_
  refine lv_istore_n (lv' := [(3, .int (x1 - (1 : Int32))), (0, .ref (E.2.1 96)), (1, .int p1), (2, .int p2)]) hx hb dX6_image_10 rfl hl (by decide) rfl (fun ls hl => ?_)
  refine lv_aload_n hx hb dX6_image_11 rfl (lv_at hl 1 rfl) ?_
  refine rw_get hx hb hts iX6 hown hW (fl 96 rfl) rfl rfl 0 (by decide) e18 rfl (v := .ref (E.2.1 1)) rfl dX6_image_12 ?_
  refine lv_iconst (v := (0 : Int32)) hx hb dX6_image_15 (by decide) ?_
  refine rc_Vi (k := 1) (As := [.int (0 : Int32)]) (rest := []) S hW hS h (kX2_lines l E (0 : Int32) w2) (cwV 1 hts gX6_image_X2_lines rfl rfl rfl hdX2_lines ⟨Nat.le_of_ble_eq_true rfl, Nat.le_of_ble_eq_true rfl⟩) (fl 1 rfl) rfl rfl rfl rfl hl.1 rfl (Nat.le_of_ble_eq_true rfl) ⟨Nat.zero_le _, Nat.zero_le _⟩ dX6_image_16 (fun x3 w4 H locs h hW hS => ?_)
  refine lv_iconst (v := (1 : Int32)) hx hb dX6_image_19 (by decide) ?_
  refine lv_isub hx hb dX6_image_20 ?_
  refine lv_istore (lv' := [(4, .int (x3 - (1 : Int32))), (3, .int (x1 - (1 : Int32))), (0, .ref (E.2.1 96)), (1, .int p1), (2, .int p2)]) hx hb dX6_image_21 hl (by decide) rfl (fun ls hl => ?_)
  refine lv_iload_n hx hb dX6_image_23 rfl (lv_at hl 4 rfl) ?_
  refine lv_iconst (v := (4 : Int32)) hx hb dX6_image_24 (by decide) ?_
  refine rb_icmp_ge (tgt := 39) hx hb h dX6_image_25 (by decide) (fun h => ?_) (fun h => ?_)
  · refine lv_iload_n hx hb dX6_image_39 rfl (lv_at hl 1 rfl) ?_
    refine lv_aload_n hx hb dX6_image_40 rfl (lv_at hl 2 rfl) ?_
    refine rw_get hx hb hts iX6 hown hW (fl 96 rfl) rfl rfl 0 (by decide) e18 rfl (v := .ref (E.2.1 1)) rfl dX6_image_41 ?_
    refine lv_iload_n hx hb dX6_image_44 rfl (lv_at hl 3 rfl) ?_
    refine rc_Vi (k := 1) (As := [.int p1]) (rest := [.int (x1 - (1 : Int32))]) S hW hS h (kX2_x l E p1 w4) (cwV 1 hts gX6_image_X2_x rfl rfl rfl hdX2_x ⟨Nat.le_of_ble_eq_true rfl, Nat.le_of_ble_eq_true rfl⟩) (fl 1 rfl) rfl rfl rfl rfl hl.1 rfl (Nat.le_of_ble_eq_true rfl) ⟨Nat.zero_le _, Nat.zero_le _⟩ dX6_image_45 (fun x5 w6 H locs h hW hS => ?_)
    refine lv_isub hx hb dX6_image_48 ?_
    exact J49 _ _ _ _ _ _ _ h hW hS (lv_sub hl [2, 3, 4, 1, 0] rfl)
  · refine lv_aload_n hx hb dX6_image_28 rfl (lv_at hl 2 rfl) ?_
    refine rw_get hx hb hts iX6 hown hW (fl 96 rfl) rfl rfl 0 (by decide) e18 rfl (v := .ref (E.2.1 1)) rfl dX6_image_29 ?_
    refine lv_iload_n hx hb dX6_image_32 rfl (lv_at hl 3 rfl) ?_
    refine rc_Vi (k := 1) (As := [.int p1]) (rest := []) S hW hS h (kX2_x l E p1 w4) (cwV 1 hts gX6_image_X2_x rfl rfl rfl hdX2_x ⟨Nat.le_of_ble_eq_true rfl, Nat.le_of_ble_eq_true rfl⟩) (fl 1 rfl) rfl rfl rfl rfl hl.1 rfl (Nat.le_of_ble_eq_true rfl) ⟨Nat.zero_le _, Nat.zero_le _⟩ dX6_image_33 (fun x7 w8 H locs h hW hS => ?_)
    refine lv_goto (tgt := 49) hx hb dX6_image_36 (by decide) ?_
    exact J49 _ _ _ _ _ _ _ h hW hS (lv_sub hl [2, 3, 4, 1, 0] rfl)
noncomputable def bX6_turnTo_3 (p1 : Nat) (p2 : Int32) (p3 : Nat) (k3 : Int32 → Wd → Option (Unit × Wd)) (v4 : Int32)  (w : Wd) : Option (Unit × Wd) :=
  bnd (fX2_cells w) fun x1 w2 => if x1 ≤ v4 then some ((), w2) else bnd (fX6_image v4 p2 w2) fun x3 w4 => (gI w4 p1 v4).bind fun x5 => (sI w4 p3 x3 x5).bind fun w6 => k3 (v4 + (1 : Int32)) w6
noncomputable def fX6_turnTo (p1 : Nat) (p2 : Int32) (p3 : Nat) (w : Wd) : Option (Unit × Wd) :=
  lp (fun _ _ => none) (bX6_turnTo_3 p1 p2 p3) G (0 : Int32) w
abbrev rmX6_turnTo : Room := { frames := 2, cells := 0, slots := 0, locals := 48 }
set_option maxHeartbeats 4000000 in
set_option maxRecDepth 100000 in
theorem kX6_turnTo (l : Launch) (E : Ev) (p1 : Nat) (p2 : Int32) (p3 : Nat) (w : Wd) (q : Unit × Wd) (h : fX6_turnTo p1 p2 p3 w = some q) : CtV l yX6_turnTo wsX6_turnTo rmX6_turnTo E full [.ref (E.2.1 96), .ref (E.2.1 p1), .int p2, .ref (E.2.1 p3)] w q := by
  refine mkV (cc := cX6_turnTo) (maxL := 5) (by decide) rfl (Nat.le_of_ble_eq_true rfl) ?_
  intro p e s m args below meth c Q S hW hQ ls hl
  obtain ⟨hx, hb, hml, hown, hts⟩ := id S
  have hW0 := hW
  have hS : va_S (wA E full) s.heap s.heap [] := va_S.rf
  have hl : lv_has ls 5 [(0, .ref (E.2.1 96)), (1, .ref (E.2.1 p1)), (2, .int p2), (3, .ref (E.2.1 p3))] := hl
  have iX6 : ∀ w ∈ wsX60, w ∈ wsX6_turnTo := by decide +kernel
  have e18 := hts (.fieldLink RX6 18 "CubeHeaps$Turning" "ground" "LCubeHeaps$Ground;") (by decide +kernel)
  have J3 : ∀ (n : Nat) (v4 : Int32) (w : Wd) (H : Heap) (locs : List Loc) (ls : Array Slot), lp (fun _ _ => none) (bX6_turnTo_3 p1 p2 p3) n v4 w = some q → World E full w s H → va_S (wA E full) s.heap H locs → lv_has ls 5 [(0, .ref (E.2.1 96)), (1, .ref (E.2.1 p1)), (2, .int p2), (3, .ref (E.2.1 p3)), (4, .int v4)] → W p l e rmX6_turnTo s m args below meth c H locs 0 0 Q (F0 m 3 ls []) := by
    intro n
    induction n with
    | zero =>
      intro v4 w H locs ls h hW hS hl
      exact absurd (show (none : Option (Unit × Wd)) = some q from h) (fun z => by cases z)
    | succ n ih3 =>
      intro v4 w H locs ls h hW hS hl
      have h : bX6_turnTo_3 p1 p2 p3 (lp (fun _ _ => none) (bX6_turnTo_3 p1 p2 p3) n) v4 w = some q := h
      generalize lp (fun _ _ => none) (bX6_turnTo_3 p1 p2 p3) n = k3 at h ih3
      unfold bX6_turnTo_3 at h
      refine lv_iload hx hb dX6_turnTo_3 (lv_at hl 4 rfl) ?_
      refine lv_aload_n hx hb dX6_turnTo_5 rfl (lv_at hl 0 rfl) ?_
      refine rw_get hx hb hts iX6 hown hW (fl 96 rfl) rfl rfl 0 (by decide) e18 rfl (v := .ref (E.2.1 1)) rfl dX6_turnTo_6 ?_
      refine rc_Vi (k := 1) (As := []) (rest := [.int v4]) S hW hS h (kX2_cells l E  w) (cwV 0 hts gX6_turnTo_X2_cells rfl rfl rfl hdX2_cells ⟨Nat.le_of_ble_eq_true rfl, Nat.le_of_ble_eq_true rfl⟩) (fl 1 rfl) rfl rfl rfl rfl hl.1 rfl (Nat.le_of_ble_eq_true rfl) ⟨Nat.zero_le _, Nat.zero_le _⟩ dX6_turnTo_9 (fun x1 w2 H locs h hW hS => ?_)
      refine rb_icmp_ge (tgt := 34) hx hb h dX6_turnTo_12 (by decide) (fun h => ?_) (fun h => ?_)
      · exact rrV hQ hW hS h dX6_turnTo_34
      · refine lv_aload_n hx hb dX6_turnTo_15 rfl (lv_at hl 3 rfl) ?_
        refine lv_aload_n hx hb dX6_turnTo_16 rfl (lv_at hl 0 rfl) ?_
        refine lv_iload hx hb dX6_turnTo_17 (lv_at hl 4 rfl) ?_
        refine lv_iload_n hx hb dX6_turnTo_19 rfl (lv_at hl 2 rfl) ?_
        refine rc_Vi (k := 96) (As := [.int v4, .int p2]) (rest := [.ref (E.2.1 p3)]) S hW hS h (kX6_image l E v4 p2 w2) (cwV 2 hts gX6_turnTo_X6_image rfl rfl rfl hdX6_image ⟨Nat.le_of_ble_eq_true rfl, Nat.le_of_ble_eq_true rfl⟩) (fl 96 rfl) rfl rfl rfl rfl hl.1 rfl (Nat.le_of_ble_eq_true rfl) ⟨Nat.zero_le _, Nat.zero_le _⟩ dX6_turnTo_20 (fun x3 w4 H locs h hW hS => ?_)
        refine lv_aload_n hx hb dX6_turnTo_23 rfl (lv_at hl 1 rfl) ?_
        refine lv_iload hx hb dX6_turnTo_24 (lv_at hl 4 rfl) ?_
        refine rw_iald hx hb hW LI_full h dX6_turnTo_26 (fun x5 h => ?_)
        refine rw_iast hx hb hW hS LI_full h dX6_turnTo_27 (fun w6 H locs h hW hS => ?_)
        refine lv_iinc (v := (v4 + (1 : Int32))) (lv' := [(4, .int (v4 + (1 : Int32))), (0, .ref (E.2.1 96)), (1, .ref (E.2.1 p1)), (2, .int p2), (3, .ref (E.2.1 p3))]) hx hb dX6_turnTo_28 hl (k := 4) rfl rfl (by decide) rfl (fun ls hl => ?_)
        refine lv_goto (tgt := 3) hx hb dX6_turnTo_31 (by decide) ?_
        exact ih3 _ _ _ _ _ h hW hS (lv_sub hl [1, 2, 3, 4, 0] rfl)
  unfold fX6_turnTo at h
  refine lv_iconst (v := (0 : Int32)) hx hb dX6_turnTo_0 (by decide) ?_
  refine lv_istore (lv' := [(4, .int (0 : Int32)), (0, .ref (E.2.1 96)), (1, .ref (E.2.1 p1)), (2, .int p2), (3, .ref (E.2.1 p3))]) hx hb dX6_turnTo_1 hl (by decide) rfl (fun ls hl => ?_)
  exact J3 _ _ _ _ _ _ h hW hS (lv_sub hl [1, 2, 3, 4, 0] rfl)
noncomputable def fX6_apply (p1 : Nat) (p2 : Int32) (w : Wd) : Option (Int32 × Wd) :=
  bnd (fX6_turnTo p1 p2 97 w) fun _ w1 => bnd (fX2_overwrite 97 p1 w1) fun x2 w3 => some (x2, w3)
abbrev rmX6_apply : Room := { frames := 3, cells := 0, slots := 0, locals := 72 }
set_option maxHeartbeats 4000000 in
set_option maxRecDepth 100000 in
theorem kX6_apply (l : Launch) (E : Ev) (p1 : Nat) (p2 : Int32) (w : Wd) (q : Int32 × Wd) (h : fX6_apply p1 p2 w = some q) : CtI l yX6_apply wsX6_apply rmX6_apply E full [.ref (E.2.1 96), .ref (E.2.1 p1), .int p2] w q := by
  refine mkI (cc := cX6_apply) (maxL := 3) (by decide) rfl (Nat.le_of_ble_eq_true rfl) ?_
  intro p e s m args below meth c Q S hW hQ ls hl
  obtain ⟨hx, hb, hml, hown, hts⟩ := id S
  have hW0 := hW
  have hS : va_S (wA E full) s.heap s.heap [] := va_S.rf
  have hl : lv_has ls 3 [(0, .ref (E.2.1 96)), (1, .ref (E.2.1 p1)), (2, .int p2)] := hl
  have iX6 : ∀ w ∈ wsX60, w ∈ wsX6_apply := by decide +kernel
  have e9 := hts (.fieldLink RX6 9 "CubeHeaps$Turning" "turned" "[I") (by decide +kernel)
  have e18 := hts (.fieldLink RX6 18 "CubeHeaps$Turning" "ground" "LCubeHeaps$Ground;") (by decide +kernel)
  unfold fX6_apply at h
  refine lv_aload_n hx hb dX6_apply_0 rfl (lv_at hl 0 rfl) ?_
  refine lv_aload_n hx hb dX6_apply_1 rfl (lv_at hl 1 rfl) ?_
  refine lv_iload_n hx hb dX6_apply_2 rfl (lv_at hl 2 rfl) ?_
  refine lv_aload_n hx hb dX6_apply_3 rfl (lv_at hl 0 rfl) ?_
  refine rw_get hx hb hts iX6 hown hW (fl 96 rfl) rfl rfl 1 (by decide) e9 rfl (v := .ref (E.2.1 97)) rfl dX6_apply_4 ?_
  refine rc_Vv (k := 96) (As := [.ref (E.2.1 p1), .int p2, .ref (E.2.1 97)]) (rest := []) S hW hS h (kX6_turnTo l E p1 p2 97 w) (cwV 3 hts gX6_apply_X6_turnTo rfl rfl rfl hdX6_turnTo ⟨Nat.le_of_ble_eq_true rfl, Nat.le_of_ble_eq_true rfl⟩) (fl 96 rfl) rfl rfl rfl rfl hl.1 rfl (Nat.le_of_ble_eq_true rfl) ⟨Nat.zero_le _, Nat.zero_le _⟩ dX6_apply_7 (fun _ w1 H locs h hW hS => ?_)
  refine lv_aload_n hx hb dX6_apply_10 rfl (lv_at hl 0 rfl) ?_
  refine rw_get hx hb hts iX6 hown hW (fl 96 rfl) rfl rfl 0 (by decide) e18 rfl (v := .ref (E.2.1 1)) rfl dX6_apply_11 ?_
  refine lv_aload_n hx hb dX6_apply_14 rfl (lv_at hl 0 rfl) ?_
  refine rw_get hx hb hts iX6 hown hW (fl 96 rfl) rfl rfl 1 (by decide) e9 rfl (v := .ref (E.2.1 97)) rfl dX6_apply_15 ?_
  refine lv_aload_n hx hb dX6_apply_18 rfl (lv_at hl 1 rfl) ?_
  refine rc_Vi (k := 1) (As := [.ref (E.2.1 97), .ref (E.2.1 p1)]) (rest := []) S hW hS h (kX2_overwrite l E 97 p1 w1) (cwV 2 hts gX6_apply_X2_overwrite rfl rfl rfl hdX2_overwrite ⟨Nat.le_of_ble_eq_true rfl, Nat.le_of_ble_eq_true rfl⟩) (fl 1 rfl) rfl rfl rfl rfl hl.1 rfl (Nat.le_of_ble_eq_true rfl) ⟨Nat.zero_le _, Nat.zero_le _⟩ dX6_apply_19 (fun x2 w3 H locs h hW hS => ?_)
  exact rrI hQ hW hS h dX6_apply_22
noncomputable def jX6_turnsBetween_53 (p1 : Nat) (p2 : Nat) (k5 : Int32 → Int32 → Wd → Option (Int32 × Wd)) (v3 : Int32) (v4 : Int32)  (w : Wd) : Option (Int32 × Wd) :=
  k5 v3 (v4 + (1 : Int32)) w
noncomputable def bX6_turnsBetween_5 (p1 : Nat) (p2 : Nat) (k5 : Int32 → Int32 → Wd → Option (Int32 × Wd)) (v3 : Int32) (v4 : Int32)  (w : Wd) : Option (Int32 × Wd) :=
  if (8 : Int32) ≤ v4 then some (v3, w) else bnd (fX6_keepsGround v4 w) fun x1 w2 => if x1 = 0 then jX6_turnsBetween_53 p1 p2 k5 v3 v4 w2 else bnd (fX6_turnTo p1 v4 97 w2) fun _ w3 => bnd (fX2_compare 97 p2 w3) fun x4 w5 => if x4 = 0 then jX6_turnsBetween_53 p1 p2 k5 (v3 + (1 : Int32)) v4 w5 else jX6_turnsBetween_53 p1 p2 k5 v3 v4 w5
noncomputable def fX6_turnsBetween (p1 : Nat) (p2 : Nat) (w : Wd) : Option (Int32 × Wd) :=
  lp (fun _ _ _ => none) (bX6_turnsBetween_5 p1 p2) G (0 : Int32) (0 : Int32) w
abbrev rmX6_turnsBetween : Room := { frames := 3, cells := 0, slots := 0, locals := 72 }
set_option maxHeartbeats 4000000 in
set_option maxRecDepth 100000 in
theorem kX6_turnsBetween (l : Launch) (E : Ev) (p1 : Nat) (p2 : Nat) (w : Wd) (q : Int32 × Wd) (h : fX6_turnsBetween p1 p2 w = some q) : CtI l yX6_turnsBetween wsX6_turnsBetween rmX6_turnsBetween E full [.ref (E.2.1 96), .ref (E.2.1 p1), .ref (E.2.1 p2)] w q := by
  refine mkI (cc := cX6_turnsBetween) (maxL := 5) (by decide) rfl (Nat.le_of_ble_eq_true rfl) ?_
  intro p e s m args below meth c Q S hW hQ ls hl
  obtain ⟨hx, hb, hml, hown, hts⟩ := id S
  have hW0 := hW
  have hS : va_S (wA E full) s.heap s.heap [] := va_S.rf
  have hl : lv_has ls 5 [(0, .ref (E.2.1 96)), (1, .ref (E.2.1 p1)), (2, .ref (E.2.1 p2))] := hl
  have iX6 : ∀ w ∈ wsX60, w ∈ wsX6_turnsBetween := by decide +kernel
  have e9 := hts (.fieldLink RX6 9 "CubeHeaps$Turning" "turned" "[I") (by decide +kernel)
  have e18 := hts (.fieldLink RX6 18 "CubeHeaps$Turning" "ground" "LCubeHeaps$Ground;") (by decide +kernel)
  have J5 : ∀ (n : Nat) (v3 : Int32) (v4 : Int32) (w : Wd) (H : Heap) (locs : List Loc) (ls : Array Slot), lp (fun _ _ _ => none) (bX6_turnsBetween_5 p1 p2) n v3 v4 w = some q → World E full w s H → va_S (wA E full) s.heap H locs → lv_has ls 5 [(0, .ref (E.2.1 96)), (1, .ref (E.2.1 p1)), (2, .ref (E.2.1 p2)), (3, .int v3), (4, .int v4)] → W p l e rmX6_turnsBetween s m args below meth c H locs 0 0 Q (F0 m 5 ls []) := by
    intro n
    induction n with
    | zero =>
      intro v3 v4 w H locs ls h hW hS hl
      exact absurd (show (none : Option (Int32 × Wd)) = some q from h) (fun z => by cases z)
    | succ n ih5 =>
      intro v3 v4 w H locs ls h hW hS hl
      have h : bX6_turnsBetween_5 p1 p2 (lp (fun _ _ _ => none) (bX6_turnsBetween_5 p1 p2) n) v3 v4 w = some q := h
      generalize lp (fun _ _ _ => none) (bX6_turnsBetween_5 p1 p2) n = k5 at h ih5
      have J53 : ∀ (v3 : Int32) (v4 : Int32) (w : Wd) (H : Heap) (locs : List Loc) (ls : Array Slot), jX6_turnsBetween_53 p1 p2 k5 v3 v4 w = some q → World E full w s H → va_S (wA E full) s.heap H locs → lv_has ls 5 [(0, .ref (E.2.1 96)), (1, .ref (E.2.1 p1)), (2, .ref (E.2.1 p2)), (3, .int v3), (4, .int v4)] → W p l e rmX6_turnsBetween s m args below meth c H locs 0 0 Q (F0 m 53 ls []) := by
        intro v3 v4 w H locs ls h hW hS hl
        unfold jX6_turnsBetween_53 at h
        refine lv_iinc (v := (v4 + (1 : Int32))) (lv' := [(4, .int (v4 + (1 : Int32))), (0, .ref (E.2.1 96)), (1, .ref (E.2.1 p1)), (2, .ref (E.2.1 p2)), (3, .int v3)]) hx hb dX6_turnsBetween_53 hl (k := 4) rfl rfl (by decide) rfl (fun ls hl => ?_)
        refine lv_goto (tgt := 5) hx hb dX6_turnsBetween_56 (by decide) ?_
        exact ih5 _ _ _ _ _ _ h hW hS (lv_sub hl [1, 2, 3, 4, 0] rfl)
      unfold bX6_turnsBetween_5 at h
      refine lv_iload hx hb dX6_turnsBetween_5 (lv_at hl 4 rfl) ?_
      refine lv_bipush (v := (8 : Int32)) hx hb dX6_turnsBetween_7 (by decide) ?_
      refine rb_icmp_ge (tgt := 59) hx hb h dX6_turnsBetween_9 (by decide) (fun h => ?_) (fun h => ?_)
      · refine lv_iload_n hx hb dX6_turnsBetween_59 rfl (lv_at hl 3 rfl) ?_
        exact rrI hQ hW hS h dX6_turnsBetween_60
      · refine lv_aload_n hx hb dX6_turnsBetween_12 rfl (lv_at hl 0 rfl) ?_
        refine lv_iload hx hb dX6_turnsBetween_13 (lv_at hl 4 rfl) ?_
        refine rc_Vi (k := 96) (As := [.int v4]) (rest := []) S hW hS h (kX6_keepsGround l E v4 w) (cwV 1 hts gX6_turnsBetween_X6_keepsGround rfl rfl rfl hdX6_keepsGround ⟨Nat.le_of_ble_eq_true rfl, Nat.le_of_ble_eq_true rfl⟩) (fl 96 rfl) rfl rfl rfl rfl hl.1 rfl (Nat.le_of_ble_eq_true rfl) ⟨Nat.zero_le _, Nat.zero_le _⟩ dX6_turnsBetween_15 (fun x1 w2 H locs h hW hS => ?_)
        refine rb_if_ne (tgt := 24) hx hb h dX6_turnsBetween_18 (by decide) (fun h => ?_) (fun h => ?_)
        · refine lv_aload_n hx hb dX6_turnsBetween_24 rfl (lv_at hl 0 rfl) ?_
          refine lv_aload_n hx hb dX6_turnsBetween_25 rfl (lv_at hl 1 rfl) ?_
          refine lv_iload hx hb dX6_turnsBetween_26 (lv_at hl 4 rfl) ?_
          refine lv_aload_n hx hb dX6_turnsBetween_28 rfl (lv_at hl 0 rfl) ?_
          refine rw_get hx hb hts iX6 hown hW (fl 96 rfl) rfl rfl 1 (by decide) e9 rfl (v := .ref (E.2.1 97)) rfl dX6_turnsBetween_29 ?_
          refine rc_Vv (k := 96) (As := [.ref (E.2.1 p1), .int v4, .ref (E.2.1 97)]) (rest := []) S hW hS h (kX6_turnTo l E p1 v4 97 w2) (cwV 3 hts gX6_turnsBetween_X6_turnTo rfl rfl rfl hdX6_turnTo ⟨Nat.le_of_ble_eq_true rfl, Nat.le_of_ble_eq_true rfl⟩) (fl 96 rfl) rfl rfl rfl rfl hl.1 rfl (Nat.le_of_ble_eq_true rfl) ⟨Nat.zero_le _, Nat.zero_le _⟩ dX6_turnsBetween_32 (fun _ w3 H locs h hW hS => ?_)
          refine lv_aload_n hx hb dX6_turnsBetween_35 rfl (lv_at hl 0 rfl) ?_
          refine rw_get hx hb hts iX6 hown hW (fl 96 rfl) rfl rfl 0 (by decide) e18 rfl (v := .ref (E.2.1 1)) rfl dX6_turnsBetween_36 ?_
          refine lv_aload_n hx hb dX6_turnsBetween_39 rfl (lv_at hl 0 rfl) ?_
          refine rw_get hx hb hts iX6 hown hW (fl 96 rfl) rfl rfl 1 (by decide) e9 rfl (v := .ref (E.2.1 97)) rfl dX6_turnsBetween_40 ?_
          refine lv_aload_n hx hb dX6_turnsBetween_43 rfl (lv_at hl 2 rfl) ?_
          refine rc_Vi (k := 1) (As := [.ref (E.2.1 97), .ref (E.2.1 p2)]) (rest := []) S hW hS h (kX2_compare l E 97 p2 w3) (cwV 2 hts gX6_turnsBetween_X2_compare rfl rfl rfl hdX2_compare ⟨Nat.le_of_ble_eq_true rfl, Nat.le_of_ble_eq_true rfl⟩) (fl 1 rfl) rfl rfl rfl rfl hl.1 rfl (Nat.le_of_ble_eq_true rfl) ⟨Nat.zero_le _, Nat.zero_le _⟩ dX6_turnsBetween_44 (fun x4 w5 H locs h hW hS => ?_)
          refine rb_if_ne (tgt := 53) hx hb h dX6_turnsBetween_47 (by decide) (fun h => ?_) (fun h => ?_)
          · exact J53 _ _ _ _ _ _ h hW hS (hl)
          · refine lv_iinc (v := (v3 + (1 : Int32))) (lv' := [(3, .int (v3 + (1 : Int32))), (0, .ref (E.2.1 96)), (1, .ref (E.2.1 p1)), (2, .ref (E.2.1 p2)), (4, .int v4)]) hx hb dX6_turnsBetween_50 hl (k := 3) rfl rfl (by decide) rfl (fun ls hl => ?_)
            exact J53 _ _ _ _ _ _ h hW hS (lv_sub hl [1, 2, 3, 0, 4] rfl)
        · refine lv_goto (tgt := 53) hx hb dX6_turnsBetween_21 (by decide) ?_
          exact J53 _ _ _ _ _ _ h hW hS (hl)
  unfold fX6_turnsBetween at h
  refine lv_iconst (v := (0 : Int32)) hx hb dX6_turnsBetween_0 (by decide) ?_
  refine lv_istore_n (lv' := [(3, .int (0 : Int32)), (0, .ref (E.2.1 96)), (1, .ref (E.2.1 p1)), (2, .ref (E.2.1 p2))]) hx hb dX6_turnsBetween_1 rfl hl (by decide) rfl (fun ls hl => ?_)
  refine lv_iconst (v := (0 : Int32)) hx hb dX6_turnsBetween_2 (by decide) ?_
  refine lv_istore (lv' := [(4, .int (0 : Int32)), (3, .int (0 : Int32)), (0, .ref (E.2.1 96)), (1, .ref (E.2.1 p1)), (2, .ref (E.2.1 p2))]) hx hb dX6_turnsBetween_3 hl (by decide) rfl (fun ls hl => ?_)
  exact J5 _ _ _ _ _ _ _ h hW hS (lv_sub hl [2, 3, 4, 1, 0] rfl)
noncomputable def jX6_toFirst_80 (p1 : Nat) (k17 : Int32 → Int32 → Wd → Option (Int32 × Wd)) (v2 : Int32) (v3 : Int32)  (w : Wd) : Option (Int32 × Wd) :=
  k17 v2 (v3 + (1 : Int32)) w
noncomputable def bX6_toFirst_17 (p1 : Nat) (k17 : Int32 → Int32 → Wd → Option (Int32 × Wd)) (v2 : Int32) (v3 : Int32)  (w : Wd) : Option (Int32 × Wd) :=
  if (8 : Int32) ≤ v3 then some (v2, w) else bnd (fX6_keepsGround v3 w) fun x3 w4 => if x3 = 0 then jX6_toFirst_80 p1 k17 v2 v3 w4 else bnd (fX6_turnTo p1 v3 97 w4) fun _ w5 => bnd (fX2_compare 97 98 w5) fun x6 w7 => if 0 ≤ x6 then jX6_toFirst_80 p1 k17 v2 v3 w7 else bnd (fX2_overwrite 97 98 w7) fun x8 w9 => jX6_toFirst_80 p1 k17 v3 v3 w9
noncomputable def fX6_toFirst (p1 : Nat) (w : Wd) : Option (Int32 × Wd) :=
  bnd (fX2_overwrite p1 98 w) fun x1 w2 => lp (fun _ _ _ => none) (bX6_toFirst_17 p1) G (0 : Int32) (1 : Int32) w2
abbrev rmX6_toFirst : Room := { frames := 3, cells := 0, slots := 0, locals := 72 }
set_option maxHeartbeats 4000000 in
set_option maxRecDepth 100000 in
theorem kX6_toFirst (l : Launch) (E : Ev) (p1 : Nat) (w : Wd) (q : Int32 × Wd) (h : fX6_toFirst p1 w = some q) : CtI l yX6_toFirst wsX6_toFirst rmX6_toFirst E full [.ref (E.2.1 96), .ref (E.2.1 p1)] w q := by
  refine mkI (cc := cX6_toFirst) (maxL := 4) (by decide) rfl (Nat.le_of_ble_eq_true rfl) ?_
  intro p e s m args below meth c Q S hW hQ ls hl
  obtain ⟨hx, hb, hml, hown, hts⟩ := id S
  have hW0 := hW
  have hS : va_S (wA E full) s.heap s.heap [] := va_S.rf
  have hl : lv_has ls 4 [(0, .ref (E.2.1 96)), (1, .ref (E.2.1 p1))] := hl
  have iX6 : ∀ w ∈ wsX60, w ∈ wsX6_toFirst := by decide +kernel
  have e9 := hts (.fieldLink RX6 9 "CubeHeaps$Turning" "turned" "[I") (by decide +kernel)
  have e15 := hts (.fieldLink RX6 15 "CubeHeaps$Turning" "first" "[I") (by decide +kernel)
  have e18 := hts (.fieldLink RX6 18 "CubeHeaps$Turning" "ground" "LCubeHeaps$Ground;") (by decide +kernel)
  have J17 : ∀ (n : Nat) (v2 : Int32) (v3 : Int32) (w : Wd) (H : Heap) (locs : List Loc) (ls : Array Slot), lp (fun _ _ _ => none) (bX6_toFirst_17 p1) n v2 v3 w = some q → World E full w s H → va_S (wA E full) s.heap H locs → lv_has ls 4 [(0, .ref (E.2.1 96)), (1, .ref (E.2.1 p1)), (2, .int v2), (3, .int v3)] → W p l e rmX6_toFirst s m args below meth c H locs 0 0 Q (F0 m 17 ls []) := by
    intro n
    induction n with
    | zero =>
      intro v2 v3 w H locs ls h hW hS hl
      exact absurd (show (none : Option (Int32 × Wd)) = some q from h) (fun z => by cases z)
    | succ n ih17 =>
      intro v2 v3 w H locs ls h hW hS hl
      have h : bX6_toFirst_17 p1 (lp (fun _ _ _ => none) (bX6_toFirst_17 p1) n) v2 v3 w = some q := h
      generalize lp (fun _ _ _ => none) (bX6_toFirst_17 p1) n = k17 at h ih17
      have J80 : ∀ (v2 : Int32) (v3 : Int32) (w : Wd) (H : Heap) (locs : List Loc) (ls : Array Slot), jX6_toFirst_80 p1 k17 v2 v3 w = some q → World E full w s H → va_S (wA E full) s.heap H locs → lv_has ls 4 [(0, .ref (E.2.1 96)), (1, .ref (E.2.1 p1)), (2, .int v2), (3, .int v3)] → W p l e rmX6_toFirst s m args below meth c H locs 0 0 Q (F0 m 80 ls []) := by
        intro v2 v3 w H locs ls h hW hS hl
        unfold jX6_toFirst_80 at h
        refine lv_iinc (v := (v3 + (1 : Int32))) (lv' := [(3, .int (v3 + (1 : Int32))), (0, .ref (E.2.1 96)), (1, .ref (E.2.1 p1)), (2, .int v2)]) hx hb dX6_toFirst_80 hl (k := 3) rfl rfl (by decide) rfl (fun ls hl => ?_)
        refine lv_goto (tgt := 17) hx hb dX6_toFirst_83 (by decide) ?_
        exact ih17 _ _ _ _ _ _ h hW hS (lv_sub hl [1, 2, 3, 0] rfl)
      unfold bX6_toFirst_17 at h
      refine lv_iload_n hx hb dX6_toFirst_17 rfl (lv_at hl 3 rfl) ?_
      refine lv_bipush (v := (8 : Int32)) hx hb dX6_toFirst_18 (by decide) ?_
      refine rb_icmp_ge (tgt := 86) hx hb h dX6_toFirst_20 (by decide) (fun h => ?_) (fun h => ?_)
      · refine lv_iload_n hx hb dX6_toFirst_86 rfl (lv_at hl 2 rfl) ?_
        exact rrI hQ hW hS h dX6_toFirst_87
      · refine lv_aload_n hx hb dX6_toFirst_23 rfl (lv_at hl 0 rfl) ?_
        refine lv_iload_n hx hb dX6_toFirst_24 rfl (lv_at hl 3 rfl) ?_
        refine rc_Vi (k := 96) (As := [.int v3]) (rest := []) S hW hS h (kX6_keepsGround l E v3 w) (cwV 1 hts gX6_toFirst_X6_keepsGround rfl rfl rfl hdX6_keepsGround ⟨Nat.le_of_ble_eq_true rfl, Nat.le_of_ble_eq_true rfl⟩) (fl 96 rfl) rfl rfl rfl rfl hl.1 rfl (Nat.le_of_ble_eq_true rfl) ⟨Nat.zero_le _, Nat.zero_le _⟩ dX6_toFirst_25 (fun x3 w4 H locs h hW hS => ?_)
        refine rb_if_ne (tgt := 34) hx hb h dX6_toFirst_28 (by decide) (fun h => ?_) (fun h => ?_)
        · refine lv_aload_n hx hb dX6_toFirst_34 rfl (lv_at hl 0 rfl) ?_
          refine lv_aload_n hx hb dX6_toFirst_35 rfl (lv_at hl 1 rfl) ?_
          refine lv_iload_n hx hb dX6_toFirst_36 rfl (lv_at hl 3 rfl) ?_
          refine lv_aload_n hx hb dX6_toFirst_37 rfl (lv_at hl 0 rfl) ?_
          refine rw_get hx hb hts iX6 hown hW (fl 96 rfl) rfl rfl 1 (by decide) e9 rfl (v := .ref (E.2.1 97)) rfl dX6_toFirst_38 ?_
          refine rc_Vv (k := 96) (As := [.ref (E.2.1 p1), .int v3, .ref (E.2.1 97)]) (rest := []) S hW hS h (kX6_turnTo l E p1 v3 97 w4) (cwV 3 hts gX6_toFirst_X6_turnTo rfl rfl rfl hdX6_turnTo ⟨Nat.le_of_ble_eq_true rfl, Nat.le_of_ble_eq_true rfl⟩) (fl 96 rfl) rfl rfl rfl rfl hl.1 rfl (Nat.le_of_ble_eq_true rfl) ⟨Nat.zero_le _, Nat.zero_le _⟩ dX6_toFirst_41 (fun _ w5 H locs h hW hS => ?_)
          refine lv_aload_n hx hb dX6_toFirst_44 rfl (lv_at hl 0 rfl) ?_
          refine rw_get hx hb hts iX6 hown hW (fl 96 rfl) rfl rfl 0 (by decide) e18 rfl (v := .ref (E.2.1 1)) rfl dX6_toFirst_45 ?_
          refine lv_aload_n hx hb dX6_toFirst_48 rfl (lv_at hl 0 rfl) ?_
          refine rw_get hx hb hts iX6 hown hW (fl 96 rfl) rfl rfl 1 (by decide) e9 rfl (v := .ref (E.2.1 97)) rfl dX6_toFirst_49 ?_
          refine lv_aload_n hx hb dX6_toFirst_52 rfl (lv_at hl 0 rfl) ?_
          refine rw_get hx hb hts iX6 hown hW (fl 96 rfl) rfl rfl 2 (by decide) e15 rfl (v := .ref (E.2.1 98)) rfl dX6_toFirst_53 ?_
          refine rc_Vi (k := 1) (As := [.ref (E.2.1 97), .ref (E.2.1 98)]) (rest := []) S hW hS h (kX2_compare l E 97 98 w5) (cwV 2 hts gX6_toFirst_X2_compare rfl rfl rfl hdX2_compare ⟨Nat.le_of_ble_eq_true rfl, Nat.le_of_ble_eq_true rfl⟩) (fl 1 rfl) rfl rfl rfl rfl hl.1 rfl (Nat.le_of_ble_eq_true rfl) ⟨Nat.zero_le _, Nat.zero_le _⟩ dX6_toFirst_56 (fun x6 w7 H locs h hW hS => ?_)
          refine rb_if_ge (tgt := 80) hx hb h dX6_toFirst_59 (by decide) (fun h => ?_) (fun h => ?_)
          · exact J80 _ _ _ _ _ _ h hW hS (hl)
          · refine lv_iload_n hx hb dX6_toFirst_62 rfl (lv_at hl 3 rfl) ?_
            refine lv_istore_n (lv' := [(2, .int v3), (0, .ref (E.2.1 96)), (1, .ref (E.2.1 p1)), (3, .int v3)]) hx hb dX6_toFirst_63 rfl hl (by decide) rfl (fun ls hl => ?_)
            refine lv_aload_n hx hb dX6_toFirst_64 rfl (lv_at hl 1 rfl) ?_
            refine rw_get hx hb hts iX6 hown hW (fl 96 rfl) rfl rfl 0 (by decide) e18 rfl (v := .ref (E.2.1 1)) rfl dX6_toFirst_65 ?_
            refine lv_aload_n hx hb dX6_toFirst_68 rfl (lv_at hl 1 rfl) ?_
            refine rw_get hx hb hts iX6 hown hW (fl 96 rfl) rfl rfl 1 (by decide) e9 rfl (v := .ref (E.2.1 97)) rfl dX6_toFirst_69 ?_
            refine lv_aload_n hx hb dX6_toFirst_72 rfl (lv_at hl 1 rfl) ?_
            refine rw_get hx hb hts iX6 hown hW (fl 96 rfl) rfl rfl 2 (by decide) e15 rfl (v := .ref (E.2.1 98)) rfl dX6_toFirst_73 ?_
            refine rc_Vi (k := 1) (As := [.ref (E.2.1 97), .ref (E.2.1 98)]) (rest := []) S hW hS h (kX2_overwrite l E 97 98 w7) (cwV 2 hts gX6_toFirst_X2_overwrite rfl rfl rfl hdX2_overwrite ⟨Nat.le_of_ble_eq_true rfl, Nat.le_of_ble_eq_true rfl⟩) (fl 1 rfl) rfl rfl rfl rfl hl.1 rfl (Nat.le_of_ble_eq_true rfl) ⟨Nat.zero_le _, Nat.zero_le _⟩ dX6_toFirst_76 (fun x8 w9 H locs h hW hS => ?_)
            refine lv_pop hx hb dX6_toFirst_79 rfl ?_
            exact J80 _ _ _ _ _ _ h hW hS (lv_sub hl [1, 2, 0, 3] rfl)
        · refine lv_goto (tgt := 80) hx hb dX6_toFirst_31 (by decide) ?_
          exact J80 _ _ _ _ _ _ h hW hS (hl)
  unfold fX6_toFirst at h
  refine lv_iconst (v := (0 : Int32)) hx hb dX6_toFirst_0 (by decide) ?_
  refine lv_istore_n (lv' := [(2, .int (0 : Int32)), (0, .ref (E.2.1 96)), (1, .ref (E.2.1 p1))]) hx hb dX6_toFirst_1 rfl hl (by decide) rfl (fun ls hl => ?_)
  refine lv_aload_n hx hb dX6_toFirst_2 rfl (lv_at hl 1 rfl) ?_
  refine rw_get hx hb hts iX6 hown hW (fl 96 rfl) rfl rfl 0 (by decide) e18 rfl (v := .ref (E.2.1 1)) rfl dX6_toFirst_3 ?_
  refine lv_aload_n hx hb dX6_toFirst_6 rfl (lv_at hl 2 rfl) ?_
  refine lv_aload_n hx hb dX6_toFirst_7 rfl (lv_at hl 1 rfl) ?_
  refine rw_get hx hb hts iX6 hown hW (fl 96 rfl) rfl rfl 2 (by decide) e15 rfl (v := .ref (E.2.1 98)) rfl dX6_toFirst_8 ?_
  refine rc_Vi (k := 1) (As := [.ref (E.2.1 p1), .ref (E.2.1 98)]) (rest := []) S hW hS h (kX2_overwrite l E p1 98 w) (cwV 2 hts gX6_toFirst_X2_overwrite rfl rfl rfl hdX2_overwrite ⟨Nat.le_of_ble_eq_true rfl, Nat.le_of_ble_eq_true rfl⟩) (fl 1 rfl) rfl rfl rfl rfl hl.1 rfl (Nat.le_of_ble_eq_true rfl) ⟨Nat.zero_le _, Nat.zero_le _⟩ dX6_toFirst_11 (fun x1 w2 H locs h hW hS => ?_)
  refine lv_pop hx hb dX6_toFirst_14 rfl ?_
  refine lv_iconst (v := (1 : Int32)) hx hb dX6_toFirst_15 (by decide) ?_
  refine lv_istore_n (lv' := [(3, .int (1 : Int32)), (2, .int (0 : Int32)), (0, .ref (E.2.1 96)), (1, .ref (E.2.1 p1))]) hx hb dX6_toFirst_16 rfl hl (by decide) rfl (fun ls hl => ?_)
  exact J17 _ _ _ _ _ _ _ h hW hS (lv_sub hl [2, 3, 1, 0] rfl)
noncomputable def jX7_alongColumn_10 (p0 : Int32)  (w : Wd) : Option (Int32 × Wd) :=
  zr (1 : Int32) w
noncomputable def fX7_alongColumn (p0 : Int32) (w : Wd) : Option (Int32 × Wd) :=
  if p0 = (1 : Int32) then jX7_alongColumn_10 p0 w else if p0 = (3 : Int32) then jX7_alongColumn_10 p0 w else zr (0 : Int32) w
abbrev rmX7_alongColumn : Room := { frames := 0, cells := 0, slots := 0, locals := 0 }
set_option maxHeartbeats 4000000 in
set_option maxRecDepth 100000 in
theorem kX7_alongColumn (l : Launch) (E : Ev) (p0 : Int32) (w : Wd) (q : Int32 × Wd) (h : fX7_alongColumn p0 w = some q) : CtI l yX7_alongColumn wsX7_alongColumn rmX7_alongColumn E full [.int p0] w q := by
  refine mkZ (cc := cX7_alongColumn) (maxL := 1) (by decide) rfl (Nat.le_of_ble_eq_true rfl) ?_
  intro p e s m args below meth c Q S hW hQ ls hl
  obtain ⟨hx, hb, hml, hown, hts⟩ := id S
  have hW0 := hW
  have hS : va_S (wA E full) s.heap s.heap [] := va_S.rf
  have hl : lv_has ls 1 [(0, .int p0)] := hl
  have J10 : ∀  (w : Wd) (H : Heap) (locs : List Loc) (ls : Array Slot), jX7_alongColumn_10 p0 w = some q → World E full w s H → va_S (wA E full) s.heap H locs → lv_has ls 1 [] → W p l e rmX7_alongColumn s m args below meth c H locs 0 0 Q (F0 m 10 ls []) := by
    intro  w H locs ls h hW hS hl
    unfold jX7_alongColumn_10 at h
    refine lv_iconst (v := (1 : Int32)) hx hb dX7_alongColumn_10 (by decide) ?_
    refine lv_goto (tgt := 15) hx hb dX7_alongColumn_11 (by decide) ?_
    exact rrZ hQ hW hS h dX7_alongColumn_15
  unfold fX7_alongColumn at h
  refine lv_iload_n hx hb dX7_alongColumn_0 rfl (lv_at hl 0 rfl) ?_
  refine lv_iconst (v := (1 : Int32)) hx hb dX7_alongColumn_1 (by decide) ?_
  refine rb_icmp_eq (tgt := 10) hx hb h dX7_alongColumn_2 (by decide) (fun h => ?_) (fun h => ?_)
  · exact J10  _ _ _ _ h hW hS (lv_sub hl [] rfl)
  · refine lv_iload_n hx hb dX7_alongColumn_5 rfl (lv_at hl 0 rfl) ?_
    refine lv_iconst (v := (3 : Int32)) hx hb dX7_alongColumn_6 (by decide) ?_
    refine rb_icmp_ne (tgt := 14) hx hb h dX7_alongColumn_7 (by decide) (fun h => ?_) (fun h => ?_)
    · refine lv_iconst (v := (0 : Int32)) hx hb dX7_alongColumn_14 (by decide) ?_
      exact rrZ hQ hW hS h dX7_alongColumn_15
    · exact J10  _ _ _ _ h hW hS (lv_sub hl [] rfl)
noncomputable def jX7_towersSeen_82 (p1 : Nat) (p2 : Int32) (p3 : Int32) (k26 : Int32 → Int32 → Int32 → Int32 → Int32 → Wd → Option (Int32 × Wd)) (v4 : Int32) (v5 : Int32) (v6 : Int32) (v7 : Int32) (v8 : Int32)  (w : Wd) : Option (Int32 × Wd) :=
  k26 v4 v5 v6 v7 (v8 + (1 : Int32)) w
noncomputable def jX7_towersSeen_50 (p1 : Nat) (p2 : Int32) (p3 : Int32) (k26 : Int32 → Int32 → Int32 → Int32 → Int32 → Wd → Option (Int32 × Wd)) (v4 : Int32) (v5 : Int32) (v6 : Int32) (v7 : Int32) (v8 : Int32) (s0 : Int32)  (w : Wd) : Option (Int32 × Wd) :=
  bnd (fX2_onLine v4 p3 s0 w) fun x5 w6 => (gI w6 p1 x5).bind fun x7 => if x7 ≤ v7 then jX7_towersSeen_82 p1 p2 p3 k26 v4 v5 v6 v7 v8 w6 else jX7_towersSeen_82 p1 p2 p3 k26 v4 v5 (v6 + (1 : Int32)) x7 v8 w6
noncomputable def bX7_towersSeen_26 (p1 : Nat) (p2 : Int32) (p3 : Int32) (k26 : Int32 → Int32 → Int32 → Int32 → Int32 → Wd → Option (Int32 × Wd)) (v4 : Int32) (v5 : Int32) (v6 : Int32) (v7 : Int32) (v8 : Int32)  (w : Wd) : Option (Int32 × Wd) :=
  if v5 ≤ v8 then some (v6, w) else if (2 : Int32) ≤ p2 then jX7_towersSeen_50 p1 p2 p3 k26 v4 v5 v6 v7 v8 ((v5 - (1 : Int32)) - v8) w else jX7_towersSeen_50 p1 p2 p3 k26 v4 v5 v6 v7 v8 v8 w
noncomputable def fX7_towersSeen (p1 : Nat) (p2 : Int32) (p3 : Int32) (w : Wd) : Option (Int32 × Wd) :=
  bnd (fX7_alongColumn p2 w) fun x1 w2 => bnd (fX2_length x1 w2) fun x3 w4 => lp (fun _ _ _ _ _ _ => none) (bX7_towersSeen_26 p1 p2 p3) G x1 x3 (0 : Int32) (0 : Int32) (0 : Int32) w4
abbrev rmX7_towersSeen : Room := { frames := 1, cells := 0, slots := 0, locals := 23 }
set_option maxHeartbeats 4000000 in
set_option maxRecDepth 100000 in
theorem kX7_towersSeen (l : Launch) (E : Ev) (p1 : Nat) (p2 : Int32) (p3 : Int32) (w : Wd) (q : Int32 × Wd) (h : fX7_towersSeen p1 p2 p3 w = some q) : CtI l yX7_towersSeen wsX7_towersSeen rmX7_towersSeen E full [.ref (E.2.1 10), .ref (E.2.1 p1), .int p2, .int p3] w q := by
  refine mkI (cc := cX7_towersSeen) (maxL := 11) (by decide) rfl (Nat.le_of_ble_eq_true rfl) ?_
  intro p e s m args below meth c Q S hW hQ ls hl
  obtain ⟨hx, hb, hml, hown, hts⟩ := id S
  have hW0 := hW
  have hS : va_S (wA E full) s.heap s.heap [] := va_S.rf
  have hl : lv_has ls 11 [(0, .ref (E.2.1 10)), (1, .ref (E.2.1 p1)), (2, .int p2), (3, .int p3)] := hl
  have iX7 : ∀ w ∈ wsX70, w ∈ wsX7_towersSeen := by decide +kernel
  have e21 := hts (.fieldLink RX7 21 "CubeHeaps$View" "ground" "LCubeHeaps$Ground;") (by decide +kernel)
  have J26 : ∀ (n : Nat) (v4 : Int32) (v5 : Int32) (v6 : Int32) (v7 : Int32) (v8 : Int32) (w : Wd) (H : Heap) (locs : List Loc) (ls : Array Slot), lp (fun _ _ _ _ _ _ => none) (bX7_towersSeen_26 p1 p2 p3) n v4 v5 v6 v7 v8 w = some q → World E full w s H → va_S (wA E full) s.heap H locs → lv_has ls 11 [(0, .ref (E.2.1 10)), (1, .ref (E.2.1 p1)), (2, .int p2), (3, .int p3), (4, .int v4), (5, .int v5), (6, .int v6), (7, .int v7), (8, .int v8)] → W p l e rmX7_towersSeen s m args below meth c H locs 0 0 Q (F0 m 26 ls []) := by
    intro n
    induction n with
    | zero =>
      intro v4 v5 v6 v7 v8 w H locs ls h hW hS hl
      exact absurd (show (none : Option (Int32 × Wd)) = some q from h) (fun z => by cases z)
    | succ n ih26 =>
      intro v4 v5 v6 v7 v8 w H locs ls h hW hS hl
      have h : bX7_towersSeen_26 p1 p2 p3 (lp (fun _ _ _ _ _ _ => none) (bX7_towersSeen_26 p1 p2 p3) n) v4 v5 v6 v7 v8 w = some q := h
      generalize lp (fun _ _ _ _ _ _ => none) (bX7_towersSeen_26 p1 p2 p3) n = k26 at h ih26
      have J82 : ∀ (v4 : Int32) (v5 : Int32) (v6 : Int32) (v7 : Int32) (v8 : Int32) (w : Wd) (H : Heap) (locs : List Loc) (ls : Array Slot), jX7_towersSeen_82 p1 p2 p3 k26 v4 v5 v6 v7 v8 w = some q → World E full w s H → va_S (wA E full) s.heap H locs → lv_has ls 11 [(0, .ref (E.2.1 10)), (1, .ref (E.2.1 p1)), (2, .int p2), (3, .int p3), (4, .int v4), (5, .int v5), (6, .int v6), (7, .int v7), (8, .int v8)] → W p l e rmX7_towersSeen s m args below meth c H locs 0 0 Q (F0 m 82 ls []) := by
        intro v4 v5 v6 v7 v8 w H locs ls h hW hS hl
        unfold jX7_towersSeen_82 at h
        refine lv_iinc (v := (v8 + (1 : Int32))) (lv' := [(8, .int (v8 + (1 : Int32))), (0, .ref (E.2.1 10)), (1, .ref (E.2.1 p1)), (2, .int p2), (3, .int p3), (4, .int v4), (5, .int v5), (6, .int v6), (7, .int v7)]) hx hb dX7_towersSeen_82 hl (k := 8) rfl rfl (by decide) rfl (fun ls hl => ?_)
        refine lv_goto (tgt := 26) hx hb dX7_towersSeen_85 (by decide) ?_
        exact ih26 _ _ _ _ _ _ _ _ _ h hW hS (lv_sub hl [1, 2, 3, 4, 5, 6, 7, 8, 0] rfl)
      have J50 : ∀ (v4 : Int32) (v5 : Int32) (v6 : Int32) (v7 : Int32) (v8 : Int32) (s0 : Int32) (w : Wd) (H : Heap) (locs : List Loc) (ls : Array Slot), jX7_towersSeen_50 p1 p2 p3 k26 v4 v5 v6 v7 v8 s0 w = some q → World E full w s H → va_S (wA E full) s.heap H locs → lv_has ls 11 [(0, .ref (E.2.1 10)), (1, .ref (E.2.1 p1)), (2, .int p2), (3, .int p3), (4, .int v4), (5, .int v5), (6, .int v6), (7, .int v7), (8, .int v8)] → W p l e rmX7_towersSeen s m args below meth c H locs 0 0 Q (F0 m 50 ls [.int s0]) := by
        intro v4 v5 v6 v7 v8 s0 w H locs ls h hW hS hl
        unfold jX7_towersSeen_50 at h
        refine lv_istore (lv' := [(9, .int s0), (0, .ref (E.2.1 10)), (1, .ref (E.2.1 p1)), (2, .int p2), (3, .int p3), (4, .int v4), (5, .int v5), (6, .int v6), (7, .int v7), (8, .int v8)]) hx hb dX7_towersSeen_50 hl (by decide) rfl (fun ls hl => ?_)
        refine lv_aload_n hx hb dX7_towersSeen_52 rfl (lv_at hl 2 rfl) ?_
        refine lv_aload_n hx hb dX7_towersSeen_53 rfl (lv_at hl 1 rfl) ?_
        refine rw_get hx hb hts iX7 hown hW (fl 10 rfl) rfl rfl 0 (by decide) e21 rfl (v := .ref (E.2.1 1)) rfl dX7_towersSeen_54 ?_
        refine lv_iload hx hb dX7_towersSeen_57 (lv_at hl 5 rfl) ?_
        refine lv_iload_n hx hb dX7_towersSeen_59 rfl (lv_at hl 4 rfl) ?_
        refine lv_iload hx hb dX7_towersSeen_60 (lv_at hl 0 rfl) ?_
        refine rc_Vi (k := 1) (As := [.int v4, .int p3, .int s0]) (rest := [.ref (E.2.1 p1)]) S hW hS h (kX2_onLine l E v4 p3 s0 w) (cwV 3 hts gX7_towersSeen_X2_onLine rfl rfl rfl hdX2_onLine ⟨Nat.le_of_ble_eq_true rfl, Nat.le_of_ble_eq_true rfl⟩) (fl 1 rfl) rfl rfl rfl rfl hl.1 rfl (Nat.le_of_ble_eq_true rfl) ⟨Nat.zero_le _, Nat.zero_le _⟩ dX7_towersSeen_62 (fun x5 w6 H locs h hW hS => ?_)
        refine rw_iald hx hb hW LI_full h dX7_towersSeen_65 (fun x7 h => ?_)
        refine lv_istore (lv' := [(10, .int x7), (9, .int s0), (0, .ref (E.2.1 10)), (1, .ref (E.2.1 p1)), (2, .int p2), (3, .int p3), (4, .int v4), (5, .int v5), (6, .int v6), (7, .int v7), (8, .int v8)]) hx hb dX7_towersSeen_66 hl (by decide) rfl (fun ls hl => ?_)
        refine lv_iload hx hb dX7_towersSeen_68 (lv_at hl 0 rfl) ?_
        refine lv_iload hx hb dX7_towersSeen_70 (lv_at hl 9 rfl) ?_
        refine rb_icmp_le (tgt := 82) hx hb h dX7_towersSeen_72 (by decide) (fun h => ?_) (fun h => ?_)
        · exact J82 _ _ _ _ _ _ _ _ _ h hW hS (lv_sub hl [2, 3, 4, 5, 6, 7, 8, 9, 10] rfl)
        · refine lv_iinc (v := (v6 + (1 : Int32))) (lv' := [(6, .int (v6 + (1 : Int32))), (10, .int x7), (9, .int s0), (0, .ref (E.2.1 10)), (1, .ref (E.2.1 p1)), (2, .int p2), (3, .int p3), (4, .int v4), (5, .int v5), (7, .int v7), (8, .int v8)]) hx hb dX7_towersSeen_75 hl (k := 8) rfl rfl (by decide) rfl (fun ls hl => ?_)
          refine lv_iload hx hb dX7_towersSeen_78 (lv_at hl 1 rfl) ?_
          refine lv_istore (lv' := [(7, .int x7), (6, .int (v6 + (1 : Int32))), (10, .int x7), (9, .int s0), (0, .ref (E.2.1 10)), (1, .ref (E.2.1 p1)), (2, .int p2), (3, .int p3), (4, .int v4), (5, .int v5), (8, .int v8)]) hx hb dX7_towersSeen_80 hl (by decide) rfl (fun ls hl => ?_)
          exact J82 _ _ _ _ _ _ _ _ _ h hW hS (lv_sub hl [4, 5, 6, 7, 8, 9, 1, 0, 10] rfl)
      unfold bX7_towersSeen_26 at h
      refine lv_iload hx hb dX7_towersSeen_26 (lv_at hl 8 rfl) ?_
      refine lv_iload hx hb dX7_towersSeen_28 (lv_at hl 5 rfl) ?_
      refine rb_icmp_ge (tgt := 88) hx hb h dX7_towersSeen_30 (by decide) (fun h => ?_) (fun h => ?_)
      · refine lv_iload hx hb dX7_towersSeen_88 (lv_at hl 6 rfl) ?_
        exact rrI hQ hW hS h dX7_towersSeen_90
      · refine lv_iload_n hx hb dX7_towersSeen_33 rfl (lv_at hl 2 rfl) ?_
        refine lv_iconst (v := (2 : Int32)) hx hb dX7_towersSeen_34 (by decide) ?_
        refine rb_icmp_ge (tgt := 43) hx hb h dX7_towersSeen_35 (by decide) (fun h => ?_) (fun h => ?_)
        · refine lv_iload hx hb dX7_towersSeen_43 (lv_at hl 5 rfl) ?_
          refine lv_iconst (v := (1 : Int32)) hx hb dX7_towersSeen_45 (by decide) ?_
          refine lv_isub hx hb dX7_towersSeen_46 ?_
          refine lv_iload hx hb dX7_towersSeen_47 (lv_at hl 8 rfl) ?_
          refine lv_isub hx hb dX7_towersSeen_49 ?_
          exact J50 _ _ _ _ _ _ _ _ _ _ h hW hS (hl)
        · refine lv_iload hx hb dX7_towersSeen_38 (lv_at hl 8 rfl) ?_
          refine lv_goto (tgt := 50) hx hb dX7_towersSeen_40 (by decide) ?_
          exact J50 _ _ _ _ _ _ _ _ _ _ h hW hS (hl)
  unfold fX7_towersSeen at h
  refine lv_iload_n hx hb dX7_towersSeen_0 rfl (lv_at hl 2 rfl) ?_
  refine rc_Si (As := [.int p2]) (rest := []) S hW hS h (kX7_alongColumn l E p2 w) (va_cwS 1 hts gX7_towersSeen_X7_alongColumn rfl rfl rfl hdX7_alongColumn ⟨Nat.le_of_ble_eq_true rfl, Nat.le_of_ble_eq_true rfl⟩) rfl hl.1 rfl (Nat.le_of_ble_eq_true rfl) ⟨Nat.zero_le _, Nat.zero_le _⟩ dX7_towersSeen_1 (fun x1 w2 H locs h hW hS => ?_)
  refine lv_istore (lv' := [(4, .int x1), (0, .ref (E.2.1 10)), (1, .ref (E.2.1 p1)), (2, .int p2), (3, .int p3)]) hx hb dX7_towersSeen_4 hl (by decide) rfl (fun ls hl => ?_)
  refine lv_aload_n hx hb dX7_towersSeen_6 rfl (lv_at hl 1 rfl) ?_
  refine rw_get hx hb hts iX7 hown hW (fl 10 rfl) rfl rfl 0 (by decide) e21 rfl (v := .ref (E.2.1 1)) rfl dX7_towersSeen_7 ?_
  refine lv_iload hx hb dX7_towersSeen_10 (lv_at hl 0 rfl) ?_
  refine rc_Vi (k := 1) (As := [.int x1]) (rest := []) S hW hS h (kX2_length l E x1 w2) (cwV 1 hts gX7_towersSeen_X2_length rfl rfl rfl hdX2_length ⟨Nat.le_of_ble_eq_true rfl, Nat.le_of_ble_eq_true rfl⟩) (fl 1 rfl) rfl rfl rfl rfl hl.1 rfl (Nat.le_of_ble_eq_true rfl) ⟨Nat.zero_le _, Nat.zero_le _⟩ dX7_towersSeen_12 (fun x3 w4 H locs h hW hS => ?_)
  refine lv_istore (lv' := [(5, .int x3), (4, .int x1), (0, .ref (E.2.1 10)), (1, .ref (E.2.1 p1)), (2, .int p2), (3, .int p3)]) hx hb dX7_towersSeen_15 hl (by decide) rfl (fun ls hl => ?_)
  refine lv_iconst (v := (0 : Int32)) hx hb dX7_towersSeen_17 (by decide) ?_
  refine lv_istore (lv' := [(6, .int (0 : Int32)), (5, .int x3), (4, .int x1), (0, .ref (E.2.1 10)), (1, .ref (E.2.1 p1)), (2, .int p2), (3, .int p3)]) hx hb dX7_towersSeen_18 hl (by decide) rfl (fun ls hl => ?_)
  refine lv_iconst (v := (0 : Int32)) hx hb dX7_towersSeen_20 (by decide) ?_
  refine lv_istore (lv' := [(7, .int (0 : Int32)), (6, .int (0 : Int32)), (5, .int x3), (4, .int x1), (0, .ref (E.2.1 10)), (1, .ref (E.2.1 p1)), (2, .int p2), (3, .int p3)]) hx hb dX7_towersSeen_21 hl (by decide) rfl (fun ls hl => ?_)
  refine lv_iconst (v := (0 : Int32)) hx hb dX7_towersSeen_23 (by decide) ?_
  refine lv_istore (lv' := [(8, .int (0 : Int32)), (7, .int (0 : Int32)), (6, .int (0 : Int32)), (5, .int x3), (4, .int x1), (0, .ref (E.2.1 10)), (1, .ref (E.2.1 p1)), (2, .int p2), (3, .int p3)]) hx hb dX7_towersSeen_24 hl (by decide) rfl (fun ls hl => ?_)
  exact J26 _ _ _ _ _ _ _ _ _ _ h hW hS (lv_sub hl [5, 6, 7, 8, 4, 3, 2, 1, 0] rfl)
noncomputable def fX7_valueBeside (p1 : Nat) (p2 : Int32) (p3 : Int32) (w : Wd) : Option (Int32 × Wd) :=
  bnd (fX2_beside p2 p3 w) fun x1 w2 => if x1 = (-1 : Int32) then some ((0 : Int32), w2) else (gI w2 p1 x1).bind fun x3 => some (x3, w2)
abbrev rmX7_valueBeside : Room := { frames := 1, cells := 0, slots := 0, locals := 22 }
set_option maxHeartbeats 4000000 in
set_option maxRecDepth 100000 in
theorem kX7_valueBeside (l : Launch) (E : Ev) (p1 : Nat) (p2 : Int32) (p3 : Int32) (w : Wd) (q : Int32 × Wd) (h : fX7_valueBeside p1 p2 p3 w = some q) : CtI l yX7_valueBeside wsX7_valueBeside rmX7_valueBeside E full [.ref (E.2.1 10), .ref (E.2.1 p1), .int p2, .int p3] w q := by
  refine mkI (cc := cX7_valueBeside) (maxL := 5) (by decide) rfl (Nat.le_of_ble_eq_true rfl) ?_
  intro p e s m args below meth c Q S hW hQ ls hl
  obtain ⟨hx, hb, hml, hown, hts⟩ := id S
  have hW0 := hW
  have hS : va_S (wA E full) s.heap s.heap [] := va_S.rf
  have hl : lv_has ls 5 [(0, .ref (E.2.1 10)), (1, .ref (E.2.1 p1)), (2, .int p2), (3, .int p3)] := hl
  have iX7 : ∀ w ∈ wsX70, w ∈ wsX7_valueBeside := by decide +kernel
  have e21 := hts (.fieldLink RX7 21 "CubeHeaps$View" "ground" "LCubeHeaps$Ground;") (by decide +kernel)
  unfold fX7_valueBeside at h
  refine lv_aload_n hx hb dX7_valueBeside_0 rfl (lv_at hl 0 rfl) ?_
  refine rw_get hx hb hts iX7 hown hW (fl 10 rfl) rfl rfl 0 (by decide) e21 rfl (v := .ref (E.2.1 1)) rfl dX7_valueBeside_1 ?_
  refine lv_iload_n hx hb dX7_valueBeside_4 rfl (lv_at hl 2 rfl) ?_
  refine lv_iload_n hx hb dX7_valueBeside_5 rfl (lv_at hl 3 rfl) ?_
  refine rc_Vi (k := 1) (As := [.int p2, .int p3]) (rest := []) S hW hS h (kX2_beside l E p2 p3 w) (cwV 2 hts gX7_valueBeside_X2_beside rfl rfl rfl hdX2_beside ⟨Nat.le_of_ble_eq_true rfl, Nat.le_of_ble_eq_true rfl⟩) (fl 1 rfl) rfl rfl rfl rfl hl.1 rfl (Nat.le_of_ble_eq_true rfl) ⟨Nat.zero_le _, Nat.zero_le _⟩ dX7_valueBeside_6 (fun x1 w2 H locs h hW hS => ?_)
  refine lv_istore (lv' := [(4, .int x1), (0, .ref (E.2.1 10)), (1, .ref (E.2.1 p1)), (2, .int p2), (3, .int p3)]) hx hb dX7_valueBeside_9 hl (by decide) rfl (fun ls hl => ?_)
  refine lv_iload hx hb dX7_valueBeside_11 (lv_at hl 0 rfl) ?_
  refine lv_iconst (v := (-1 : Int32)) hx hb dX7_valueBeside_13 (by decide) ?_
  refine rb_icmp_ne (tgt := 21) hx hb h dX7_valueBeside_14 (by decide) (fun h => ?_) (fun h => ?_)
  · refine lv_aload_n hx hb dX7_valueBeside_21 rfl (lv_at hl 2 rfl) ?_
    refine lv_iload hx hb dX7_valueBeside_22 (lv_at hl 0 rfl) ?_
    refine rw_iald hx hb hW LI_full h dX7_valueBeside_24 (fun x3 h => ?_)
    exact rrI hQ hW hS h dX7_valueBeside_25
  · refine lv_iconst (v := (0 : Int32)) hx hb dX7_valueBeside_17 (by decide) ?_
    refine lv_goto (tgt := 25) hx hb dX7_valueBeside_18 (by decide) ?_
    exact rrI hQ hW hS h dX7_valueBeside_25
noncomputable def bX7_openFaces_27 (p1 : Nat) (k4 : Int32 → Int32 → Wd → Option (Int32 × Wd)) (k27 : Int32 → Int32 → Int32 → Wd → Option (Int32 × Wd)) (v2 : Int32) (v3 : Int32) (v4 : Int32)  (w : Wd) : Option (Int32 × Wd) :=
  if (4 : Int32) ≤ v4 then k4 v2 (v3 + (1 : Int32)) w else (gI w p1 v3).bind fun x4 => bnd (fX7_valueBeside p1 v3 v4 w) fun x5 w6 => k27 (v2 + (if (0 : Int32) < (x4 - x5) then (x4 - x5) else (0 : Int32))) v3 (v4 + (1 : Int32)) w6
noncomputable def jX7_openFaces_24 (p1 : Nat) (k4 : Int32 → Int32 → Wd → Option (Int32 × Wd)) (v2 : Int32) (v3 : Int32)  (w : Wd) : Option (Int32 × Wd) :=
  lp (fun _ _ _ _ => none) (bX7_openFaces_27 p1 k4) G v2 v3 (0 : Int32) w
noncomputable def bX7_openFaces_4 (p1 : Nat) (k4 : Int32 → Int32 → Wd → Option (Int32 × Wd)) (v2 : Int32) (v3 : Int32)  (w : Wd) : Option (Int32 × Wd) :=
  bnd (fX2_cells w) fun x1 w2 => if x1 ≤ v3 then some (v2, w2) else (gI w2 p1 v3).bind fun x3 => if x3 ≤ 0 then jX7_openFaces_24 p1 k4 v2 v3 w2 else jX7_openFaces_24 p1 k4 (v2 + (1 : Int32)) v3 w2
noncomputable def fX7_openFaces (p1 : Nat) (w : Wd) : Option (Int32 × Wd) :=
  lp (fun _ _ _ => none) (bX7_openFaces_4 p1) G (0 : Int32) (0 : Int32) w
abbrev rmX7_openFaces : Room := { frames := 2, cells := 0, slots := 0, locals := 46 }
set_option maxHeartbeats 4000000 in
set_option maxRecDepth 100000 in
theorem kX7_openFaces (l : Launch) (E : Ev) (p1 : Nat) (w : Wd) (q : Int32 × Wd) (h : fX7_openFaces p1 w = some q) : CtI l yX7_openFaces wsX7_openFaces rmX7_openFaces E full [.ref (E.2.1 10), .ref (E.2.1 p1)] w q := by
  refine mkI (cc := cX7_openFaces) (maxL := 5) (by decide) rfl (Nat.le_of_ble_eq_true rfl) ?_
  intro p e s m args below meth c Q S hW hQ ls hl
  obtain ⟨hx, hb, hml, hown, hts⟩ := id S
  have hW0 := hW
  have hS : va_S (wA E full) s.heap s.heap [] := va_S.rf
  have hl : lv_has ls 5 [(0, .ref (E.2.1 10)), (1, .ref (E.2.1 p1))] := hl
  have iX7 : ∀ w ∈ wsX70, w ∈ wsX7_openFaces := by decide +kernel
  have e21 := hts (.fieldLink RX7 21 "CubeHeaps$View" "ground" "LCubeHeaps$Ground;") (by decide +kernel)
  have J4 : ∀ (n : Nat) (v2 : Int32) (v3 : Int32) (w : Wd) (H : Heap) (locs : List Loc) (ls : Array Slot), lp (fun _ _ _ => none) (bX7_openFaces_4 p1) n v2 v3 w = some q → World E full w s H → va_S (wA E full) s.heap H locs → lv_has ls 5 [(0, .ref (E.2.1 10)), (1, .ref (E.2.1 p1)), (2, .int v2), (3, .int v3)] → W p l e rmX7_openFaces s m args below meth c H locs 0 0 Q (F0 m 4 ls []) := by
    intro n
    induction n with
    | zero =>
      intro v2 v3 w H locs ls h hW hS hl
      exact absurd (show (none : Option (Int32 × Wd)) = some q from h) (fun z => by cases z)
    | succ n ih4 =>
      intro v2 v3 w H locs ls h hW hS hl
      have h : bX7_openFaces_4 p1 (lp (fun _ _ _ => none) (bX7_openFaces_4 p1) n) v2 v3 w = some q := h
      generalize lp (fun _ _ _ => none) (bX7_openFaces_4 p1) n = k4 at h ih4
      have J27 : ∀ (n : Nat) (v2 : Int32) (v3 : Int32) (v4 : Int32) (w : Wd) (H : Heap) (locs : List Loc) (ls : Array Slot), lp (fun _ _ _ _ => none) (bX7_openFaces_27 p1 k4) n v2 v3 v4 w = some q → World E full w s H → va_S (wA E full) s.heap H locs → lv_has ls 5 [(0, .ref (E.2.1 10)), (1, .ref (E.2.1 p1)), (2, .int v2), (3, .int v3), (4, .int v4)] → W p l e rmX7_openFaces s m args below meth c H locs 0 0 Q (F0 m 27 ls []) := by
        intro n
        induction n with
        | zero =>
          intro v2 v3 v4 w H locs ls h hW hS hl
          exact absurd (show (none : Option (Int32 × Wd)) = some q from h) (fun z => by cases z)
        | succ n ih27 =>
          intro v2 v3 v4 w H locs ls h hW hS hl
          have h : bX7_openFaces_27 p1 k4 (lp (fun _ _ _ _ => none) (bX7_openFaces_27 p1 k4) n) v2 v3 v4 w = some q := h
          generalize lp (fun _ _ _ _ => none) (bX7_openFaces_27 p1 k4) n = k27 at h ih27
          unfold bX7_openFaces_27 at h
          refine lv_iload hx hb dX7_openFaces_27 (lv_at hl 4 rfl) ?_
          refine lv_iconst (v := (4 : Int32)) hx hb dX7_openFaces_29 (by decide) ?_
          refine rb_icmp_ge (tgt := 58) hx hb h dX7_openFaces_30 (by decide) (fun h => ?_) (fun h => ?_)
          · refine lv_iinc (v := (v3 + (1 : Int32))) (lv' := [(3, .int (v3 + (1 : Int32))), (0, .ref (E.2.1 10)), (1, .ref (E.2.1 p1)), (2, .int v2), (4, .int v4)]) hx hb dX7_openFaces_58 hl (k := 3) rfl rfl (by decide) rfl (fun ls hl => ?_)
            refine lv_goto (tgt := 4) hx hb dX7_openFaces_61 (by decide) ?_
            exact ih4 _ _ _ _ _ _ h hW hS (lv_sub hl [1, 2, 3, 0] rfl)
          · refine lv_iload_n hx hb dX7_openFaces_33 rfl (lv_at hl 2 rfl) ?_
            refine lv_iconst (v := (0 : Int32)) hx hb dX7_openFaces_34 (by decide) ?_
            refine lv_aload_n hx hb dX7_openFaces_35 rfl (lv_at hl 1 rfl) ?_
            refine lv_iload_n hx hb dX7_openFaces_36 rfl (lv_at hl 3 rfl) ?_
            refine rw_iald hx hb hW LI_full h dX7_openFaces_37 (fun x4 h => ?_)
            refine lv_aload_n hx hb dX7_openFaces_38 rfl (lv_at hl 0 rfl) ?_
            refine lv_aload_n hx hb dX7_openFaces_39 rfl (lv_at hl 1 rfl) ?_
            refine lv_iload_n hx hb dX7_openFaces_40 rfl (lv_at hl 3 rfl) ?_
            refine lv_iload hx hb dX7_openFaces_41 (lv_at hl 4 rfl) ?_
            refine rc_Vi (k := 10) (As := [.ref (E.2.1 p1), .int v3, .int v4]) (rest := [.int x4, .int (0 : Int32), .int v2]) S hW hS h (kX7_valueBeside l E p1 v3 v4 w) (cwV 3 hts gX7_openFaces_X7_valueBeside rfl rfl rfl hdX7_valueBeside ⟨Nat.le_of_ble_eq_true rfl, Nat.le_of_ble_eq_true rfl⟩) (fl 10 rfl) rfl rfl rfl rfl hl.1 rfl (Nat.le_of_ble_eq_true rfl) ⟨Nat.zero_le _, Nat.zero_le _⟩ dX7_openFaces_43 (fun x5 w6 H locs h hW hS => ?_)
            refine lv_isub hx hb dX7_openFaces_46 ?_
            refine va_mmax hx hb (hml.trans hl.1.symm) (own := RX7) hown (hts (.methodLink RX7 35 Lib.Math.max.name) (by decide +kernel)) (hts (.static Lib.Math.max.name) (by decide +kernel)) (hts (.initialized "java/lang/Math") (by decide +kernel)) (hts (.code Lib.Math.max.name Lib.Math.max.code 2 (some .int)) (by decide +kernel)) (Nat.le_of_ble_eq_true rfl) (Nat.le_of_ble_eq_true rfl) (Nat.zero_le _) (Nat.zero_le _) dX7_openFaces_47 ?_
            refine lv_iadd hx hb dX7_openFaces_50 ?_
            refine lv_istore_n (lv' := [(2, .int (v2 + (if (0 : Int32) < (x4 - x5) then (x4 - x5) else (0 : Int32)))), (0, .ref (E.2.1 10)), (1, .ref (E.2.1 p1)), (3, .int v3), (4, .int v4)]) hx hb dX7_openFaces_51 rfl hl (by decide) rfl (fun ls hl => ?_)
            refine lv_iinc (v := (v4 + (1 : Int32))) (lv' := [(4, .int (v4 + (1 : Int32))), (2, .int (v2 + (if (0 : Int32) < (x4 - x5) then (x4 - x5) else (0 : Int32)))), (0, .ref (E.2.1 10)), (1, .ref (E.2.1 p1)), (3, .int v3)]) hx hb dX7_openFaces_52 hl (k := 4) rfl rfl (by decide) rfl (fun ls hl => ?_)
            refine lv_goto (tgt := 27) hx hb dX7_openFaces_55 (by decide) ?_
            exact ih27 _ _ _ _ _ _ _ h hW hS (lv_sub hl [2, 3, 1, 4, 0] rfl)
      have J24 : ∀ (v2 : Int32) (v3 : Int32) (w : Wd) (H : Heap) (locs : List Loc) (ls : Array Slot), jX7_openFaces_24 p1 k4 v2 v3 w = some q → World E full w s H → va_S (wA E full) s.heap H locs → lv_has ls 5 [(0, .ref (E.2.1 10)), (1, .ref (E.2.1 p1)), (2, .int v2), (3, .int v3)] → W p l e rmX7_openFaces s m args below meth c H locs 0 0 Q (F0 m 24 ls []) := by
        intro v2 v3 w H locs ls h hW hS hl
        unfold jX7_openFaces_24 at h
        refine lv_iconst (v := (0 : Int32)) hx hb dX7_openFaces_24 (by decide) ?_
        refine lv_istore (lv' := [(4, .int (0 : Int32)), (0, .ref (E.2.1 10)), (1, .ref (E.2.1 p1)), (2, .int v2), (3, .int v3)]) hx hb dX7_openFaces_25 hl (by decide) rfl (fun ls hl => ?_)
        exact J27 _ _ _ _ _ _ _ _ h hW hS (lv_sub hl [1, 2, 3, 4, 0] rfl)
      unfold bX7_openFaces_4 at h
      refine lv_iload_n hx hb dX7_openFaces_4 rfl (lv_at hl 3 rfl) ?_
      refine lv_aload_n hx hb dX7_openFaces_5 rfl (lv_at hl 0 rfl) ?_
      refine rw_get hx hb hts iX7 hown hW (fl 10 rfl) rfl rfl 0 (by decide) e21 rfl (v := .ref (E.2.1 1)) rfl dX7_openFaces_6 ?_
      refine rc_Vi (k := 1) (As := []) (rest := [.int v3]) S hW hS h (kX2_cells l E  w) (cwV 0 hts gX7_openFaces_X2_cells rfl rfl rfl hdX2_cells ⟨Nat.le_of_ble_eq_true rfl, Nat.le_of_ble_eq_true rfl⟩) (fl 1 rfl) rfl rfl rfl rfl hl.1 rfl (Nat.le_of_ble_eq_true rfl) ⟨Nat.zero_le _, Nat.zero_le _⟩ dX7_openFaces_9 (fun x1 w2 H locs h hW hS => ?_)
      refine rb_icmp_ge (tgt := 64) hx hb h dX7_openFaces_12 (by decide) (fun h => ?_) (fun h => ?_)
      · refine lv_iload_n hx hb dX7_openFaces_64 rfl (lv_at hl 2 rfl) ?_
        exact rrI hQ hW hS h dX7_openFaces_65
      · refine lv_aload_n hx hb dX7_openFaces_15 rfl (lv_at hl 1 rfl) ?_
        refine lv_iload_n hx hb dX7_openFaces_16 rfl (lv_at hl 3 rfl) ?_
        refine rw_iald hx hb hW LI_full h dX7_openFaces_17 (fun x3 h => ?_)
        refine rb_if_le (tgt := 24) hx hb h dX7_openFaces_18 (by decide) (fun h => ?_) (fun h => ?_)
        · exact J24 _ _ _ _ _ _ h hW hS (hl)
        · refine lv_iinc (v := (v2 + (1 : Int32))) (lv' := [(2, .int (v2 + (1 : Int32))), (0, .ref (E.2.1 10)), (1, .ref (E.2.1 p1)), (3, .int v3)]) hx hb dX7_openFaces_21 hl (k := 2) rfl rfl (by decide) rfl (fun ls hl => ?_)
          exact J24 _ _ _ _ _ _ h hW hS (lv_sub hl [1, 2, 0, 3] rfl)
  unfold fX7_openFaces at h
  refine lv_iconst (v := (0 : Int32)) hx hb dX7_openFaces_0 (by decide) ?_
  refine lv_istore_n (lv' := [(2, .int (0 : Int32)), (0, .ref (E.2.1 10)), (1, .ref (E.2.1 p1))]) hx hb dX7_openFaces_1 rfl hl (by decide) rfl (fun ls hl => ?_)
  refine lv_iconst (v := (0 : Int32)) hx hb dX7_openFaces_2 (by decide) ?_
  refine lv_istore_n (lv' := [(3, .int (0 : Int32)), (2, .int (0 : Int32)), (0, .ref (E.2.1 10)), (1, .ref (E.2.1 p1))]) hx hb dX7_openFaces_3 rfl hl (by decide) rfl (fun ls hl => ?_)
  exact J4 _ _ _ _ _ _ _ h hW hS (lv_sub hl [2, 3, 1, 0] rfl)
noncomputable def jX7_layerCells_28 (p1 : Nat) (p2 : Int32) (k5 : Int32 → Int32 → Wd → Option (Int32 × Wd)) (v3 : Int32) (v4 : Int32)  (w : Wd) : Option (Int32 × Wd) :=
  k5 v3 (v4 + (1 : Int32)) w
noncomputable def bX7_layerCells_5 (p1 : Nat) (p2 : Int32) (k5 : Int32 → Int32 → Wd → Option (Int32 × Wd)) (v3 : Int32) (v4 : Int32)  (w : Wd) : Option (Int32 × Wd) :=
  bnd (fX2_cells w) fun x1 w2 => if x1 ≤ v4 then some (v3, w2) else (gI w2 p1 v4).bind fun x3 => if x3 < p2 then jX7_layerCells_28 p1 p2 k5 v3 v4 w2 else jX7_layerCells_28 p1 p2 k5 (v3 + (1 : Int32)) v4 w2
noncomputable def fX7_layerCells (p1 : Nat) (p2 : Int32) (w : Wd) : Option (Int32 × Wd) :=
  lp (fun _ _ _ => none) (bX7_layerCells_5 p1 p2) G (0 : Int32) (0 : Int32) w
abbrev rmX7_layerCells : Room := { frames := 1, cells := 0, slots := 0, locals := 20 }
set_option maxHeartbeats 4000000 in
set_option maxRecDepth 100000 in
theorem kX7_layerCells (l : Launch) (E : Ev) (p1 : Nat) (p2 : Int32) (w : Wd) (q : Int32 × Wd) (h : fX7_layerCells p1 p2 w = some q) : CtI l yX7_layerCells wsX7_layerCells rmX7_layerCells E full [.ref (E.2.1 10), .ref (E.2.1 p1), .int p2] w q := by
  refine mkI (cc := cX7_layerCells) (maxL := 5) (by decide) rfl (Nat.le_of_ble_eq_true rfl) ?_
  intro p e s m args below meth c Q S hW hQ ls hl
  obtain ⟨hx, hb, hml, hown, hts⟩ := id S
  have hW0 := hW
  have hS : va_S (wA E full) s.heap s.heap [] := va_S.rf
  have hl : lv_has ls 5 [(0, .ref (E.2.1 10)), (1, .ref (E.2.1 p1)), (2, .int p2)] := hl
  have iX7 : ∀ w ∈ wsX70, w ∈ wsX7_layerCells := by decide +kernel
  have e21 := hts (.fieldLink RX7 21 "CubeHeaps$View" "ground" "LCubeHeaps$Ground;") (by decide +kernel)
  have J5 : ∀ (n : Nat) (v3 : Int32) (v4 : Int32) (w : Wd) (H : Heap) (locs : List Loc) (ls : Array Slot), lp (fun _ _ _ => none) (bX7_layerCells_5 p1 p2) n v3 v4 w = some q → World E full w s H → va_S (wA E full) s.heap H locs → lv_has ls 5 [(0, .ref (E.2.1 10)), (1, .ref (E.2.1 p1)), (2, .int p2), (3, .int v3), (4, .int v4)] → W p l e rmX7_layerCells s m args below meth c H locs 0 0 Q (F0 m 5 ls []) := by
    intro n
    induction n with
    | zero =>
      intro v3 v4 w H locs ls h hW hS hl
      exact absurd (show (none : Option (Int32 × Wd)) = some q from h) (fun z => by cases z)
    | succ n ih5 =>
      intro v3 v4 w H locs ls h hW hS hl
      have h : bX7_layerCells_5 p1 p2 (lp (fun _ _ _ => none) (bX7_layerCells_5 p1 p2) n) v3 v4 w = some q := h
      generalize lp (fun _ _ _ => none) (bX7_layerCells_5 p1 p2) n = k5 at h ih5
      have J28 : ∀ (v3 : Int32) (v4 : Int32) (w : Wd) (H : Heap) (locs : List Loc) (ls : Array Slot), jX7_layerCells_28 p1 p2 k5 v3 v4 w = some q → World E full w s H → va_S (wA E full) s.heap H locs → lv_has ls 5 [(0, .ref (E.2.1 10)), (1, .ref (E.2.1 p1)), (2, .int p2), (3, .int v3), (4, .int v4)] → W p l e rmX7_layerCells s m args below meth c H locs 0 0 Q (F0 m 28 ls []) := by
        intro v3 v4 w H locs ls h hW hS hl
        unfold jX7_layerCells_28 at h
        refine lv_iinc (v := (v4 + (1 : Int32))) (lv' := [(4, .int (v4 + (1 : Int32))), (0, .ref (E.2.1 10)), (1, .ref (E.2.1 p1)), (2, .int p2), (3, .int v3)]) hx hb dX7_layerCells_28 hl (k := 4) rfl rfl (by decide) rfl (fun ls hl => ?_)
        refine lv_goto (tgt := 5) hx hb dX7_layerCells_31 (by decide) ?_
        exact ih5 _ _ _ _ _ _ h hW hS (lv_sub hl [1, 2, 3, 4, 0] rfl)
      unfold bX7_layerCells_5 at h
      refine lv_iload hx hb dX7_layerCells_5 (lv_at hl 4 rfl) ?_
      refine lv_aload_n hx hb dX7_layerCells_7 rfl (lv_at hl 0 rfl) ?_
      refine rw_get hx hb hts iX7 hown hW (fl 10 rfl) rfl rfl 0 (by decide) e21 rfl (v := .ref (E.2.1 1)) rfl dX7_layerCells_8 ?_
      refine rc_Vi (k := 1) (As := []) (rest := [.int v4]) S hW hS h (kX2_cells l E  w) (cwV 0 hts gX7_layerCells_X2_cells rfl rfl rfl hdX2_cells ⟨Nat.le_of_ble_eq_true rfl, Nat.le_of_ble_eq_true rfl⟩) (fl 1 rfl) rfl rfl rfl rfl hl.1 rfl (Nat.le_of_ble_eq_true rfl) ⟨Nat.zero_le _, Nat.zero_le _⟩ dX7_layerCells_11 (fun x1 w2 H locs h hW hS => ?_)
      refine rb_icmp_ge (tgt := 34) hx hb h dX7_layerCells_14 (by decide) (fun h => ?_) (fun h => ?_)
      · refine lv_iload_n hx hb dX7_layerCells_34 rfl (lv_at hl 3 rfl) ?_
        exact rrI hQ hW hS h dX7_layerCells_35
      · refine lv_aload_n hx hb dX7_layerCells_17 rfl (lv_at hl 1 rfl) ?_
        refine lv_iload hx hb dX7_layerCells_18 (lv_at hl 4 rfl) ?_
        refine rw_iald hx hb hW LI_full h dX7_layerCells_20 (fun x3 h => ?_)
        refine lv_iload_n hx hb dX7_layerCells_21 rfl (lv_at hl 2 rfl) ?_
        refine rb_icmp_lt (tgt := 28) hx hb h dX7_layerCells_22 (by decide) (fun h => ?_) (fun h => ?_)
        · exact J28 _ _ _ _ _ _ h hW hS (hl)
        · refine lv_iinc (v := (v3 + (1 : Int32))) (lv' := [(3, .int (v3 + (1 : Int32))), (0, .ref (E.2.1 10)), (1, .ref (E.2.1 p1)), (2, .int p2), (4, .int v4)]) hx hb dX7_layerCells_25 hl (k := 3) rfl rfl (by decide) rfl (fun ls hl => ?_)
          exact J28 _ _ _ _ _ _ h hW hS (lv_sub hl [1, 2, 3, 0, 4] rfl)
  unfold fX7_layerCells at h
  refine lv_iconst (v := (0 : Int32)) hx hb dX7_layerCells_0 (by decide) ?_
  refine lv_istore_n (lv' := [(3, .int (0 : Int32)), (0, .ref (E.2.1 10)), (1, .ref (E.2.1 p1)), (2, .int p2)]) hx hb dX7_layerCells_1 rfl hl (by decide) rfl (fun ls hl => ?_)
  refine lv_iconst (v := (0 : Int32)) hx hb dX7_layerCells_2 (by decide) ?_
  refine lv_istore (lv' := [(4, .int (0 : Int32)), (3, .int (0 : Int32)), (0, .ref (E.2.1 10)), (1, .ref (E.2.1 p1)), (2, .int p2)]) hx hb dX7_layerCells_3 hl (by decide) rfl (fun ls hl => ?_)
  exact J5 _ _ _ _ _ _ _ h hW hS (lv_sub hl [2, 3, 4, 1, 0] rfl)
noncomputable def jX7_markPart_117 (p1 : Nat) (p2 : Int32) (p3 : Int32) (p4 : Int32) (k21 : Int32 → Int32 → Wd → Option (Unit × Wd)) (k38 : Int32 → Int32 → Int32 → Wd → Option (Unit × Wd)) (v5 : Int32) (v6 : Int32) (v7 : Int32)  (w : Wd) : Option (Unit × Wd) :=
  k38 v5 v6 (v7 + (1 : Int32)) w
noncomputable def bX7_markPart_38 (p1 : Nat) (p2 : Int32) (p3 : Int32) (p4 : Int32) (k21 : Int32 → Int32 → Wd → Option (Unit × Wd)) (k38 : Int32 → Int32 → Int32 → Wd → Option (Unit × Wd)) (v5 : Int32) (v6 : Int32) (v7 : Int32)  (w : Wd) : Option (Unit × Wd) :=
  if (4 : Int32) ≤ v7 then k21 v5 (v6 + (1 : Int32)) w else (gI w 13 v6).bind fun x3 => bnd (fX2_beside x3 v7 w) fun x4 w5 => if x4 = (-1 : Int32) then jX7_markPart_117 p1 p2 p3 p4 k21 k38 v5 v6 v7 w5 else if v5 < (25 : Int32) then (gI w5 p1 x4).bind fun x6 => if x6 < p2 then jX7_markPart_117 p1 p2 p3 p4 k21 k38 v5 v6 v7 w5 else (gI w5 12 x4).bind fun x7 => if x7 = 0 then (sI w5 12 x4 p4).bind fun w8 => (sI w8 13 v5 x4).bind fun w9 => jX7_markPart_117 p1 p2 p3 p4 k21 k38 (v5 + (1 : Int32)) v6 v7 w9 else jX7_markPart_117 p1 p2 p3 p4 k21 k38 v5 v6 v7 w5 else jX7_markPart_117 p1 p2 p3 p4 k21 k38 v5 v6 v7 w5
noncomputable def bX7_markPart_21 (p1 : Nat) (p2 : Int32) (p3 : Int32) (p4 : Int32) (k21 : Int32 → Int32 → Wd → Option (Unit × Wd)) (v5 : Int32) (v6 : Int32)  (w : Wd) : Option (Unit × Wd) :=
  if v5 ≤ v6 then some ((), w) else if (25 : Int32) ≤ v6 then some ((), w) else lp (fun _ _ _ _ => none) (bX7_markPart_38 p1 p2 p3 p4 k21) G v5 v6 (0 : Int32) w
noncomputable def fX7_markPart (p1 : Nat) (p2 : Int32) (p3 : Int32) (p4 : Int32) (w : Wd) : Option (Unit × Wd) :=
  (sI w 13 (0 : Int32) p3).bind fun w1 => (sI w1 12 p3 p4).bind fun w2 => lp (fun _ _ _ => none) (bX7_markPart_21 p1 p2 p3 p4) G (1 : Int32) (0 : Int32) w2
abbrev rmX7_markPart : Room := { frames := 1, cells := 0, slots := 0, locals := 22 }
set_option maxHeartbeats 4000000 in
set_option maxRecDepth 100000 in
theorem kX7_markPart (l : Launch) (E : Ev) (p1 : Nat) (p2 : Int32) (p3 : Int32) (p4 : Int32) (w : Wd) (q : Unit × Wd) (h : fX7_markPart p1 p2 p3 p4 w = some q) : CtV l yX7_markPart wsX7_markPart rmX7_markPart E full [.ref (E.2.1 10), .ref (E.2.1 p1), .int p2, .int p3, .int p4] w q := by
  refine mkV (cc := cX7_markPart) (maxL := 9) (by decide) rfl (Nat.le_of_ble_eq_true rfl) ?_
  intro p e s m args below meth c Q S hW hQ ls hl
  obtain ⟨hx, hb, hml, hown, hts⟩ := id S
  have hW0 := hW
  have hS : va_S (wA E full) s.heap s.heap [] := va_S.rf
  have hl : lv_has ls 9 [(0, .ref (E.2.1 10)), (1, .ref (E.2.1 p1)), (2, .int p2), (3, .int p3), (4, .int p4)] := hl
  have iX7 : ∀ w ∈ wsX70, w ∈ wsX7_markPart := by decide +kernel
  have e15 := hts (.fieldLink RX7 15 "CubeHeaps$View" "partOf" "[I") (by decide +kernel)
  have e18 := hts (.fieldLink RX7 18 "CubeHeaps$View" "waiting" "[I") (by decide +kernel)
  have e21 := hts (.fieldLink RX7 21 "CubeHeaps$View" "ground" "LCubeHeaps$Ground;") (by decide +kernel)
  have J21 : ∀ (n : Nat) (v5 : Int32) (v6 : Int32) (w : Wd) (H : Heap) (locs : List Loc) (ls : Array Slot), lp (fun _ _ _ => none) (bX7_markPart_21 p1 p2 p3 p4) n v5 v6 w = some q → World E full w s H → va_S (wA E full) s.heap H locs → lv_has ls 9 [(0, .ref (E.2.1 10)), (1, .ref (E.2.1 p1)), (2, .int p2), (4, .int p4), (5, .int v5), (6, .int v6)] → W p l e rmX7_markPart s m args below meth c H locs 0 0 Q (F0 m 21 ls []) := by
    intro n
    induction n with
    | zero =>
      intro v5 v6 w H locs ls h hW hS hl
      exact absurd (show (none : Option (Unit × Wd)) = some q from h) (fun z => by cases z)
    | succ n ih21 =>
      intro v5 v6 w H locs ls h hW hS hl
      have h : bX7_markPart_21 p1 p2 p3 p4 (lp (fun _ _ _ => none) (bX7_markPart_21 p1 p2 p3 p4) n) v5 v6 w = some q := h
      generalize lp (fun _ _ _ => none) (bX7_markPart_21 p1 p2 p3 p4) n = k21 at h ih21
      have J38 : ∀ (n : Nat) (v5 : Int32) (v6 : Int32) (v7 : Int32) (w : Wd) (H : Heap) (locs : List Loc) (ls : Array Slot), lp (fun _ _ _ _ => none) (bX7_markPart_38 p1 p2 p3 p4 k21) n v5 v6 v7 w = some q → World E full w s H → va_S (wA E full) s.heap H locs → lv_has ls 9 [(0, .ref (E.2.1 10)), (1, .ref (E.2.1 p1)), (2, .int p2), (4, .int p4), (5, .int v5), (6, .int v6), (7, .int v7)] → W p l e rmX7_markPart s m args below meth c H locs 0 0 Q (F0 m 38 ls []) := by
        intro n
        induction n with
        | zero =>
          intro v5 v6 v7 w H locs ls h hW hS hl
          exact absurd (show (none : Option (Unit × Wd)) = some q from h) (fun z => by cases z)
        | succ n ih38 =>
          intro v5 v6 v7 w H locs ls h hW hS hl
          have h : bX7_markPart_38 p1 p2 p3 p4 k21 (lp (fun _ _ _ _ => none) (bX7_markPart_38 p1 p2 p3 p4 k21) n) v5 v6 v7 w = some q := h
          generalize lp (fun _ _ _ _ => none) (bX7_markPart_38 p1 p2 p3 p4 k21) n = k38 at h ih38
          have J117 : ∀ (v5 : Int32) (v6 : Int32) (v7 : Int32) (w : Wd) (H : Heap) (locs : List Loc) (ls : Array Slot), jX7_markPart_117 p1 p2 p3 p4 k21 k38 v5 v6 v7 w = some q → World E full w s H → va_S (wA E full) s.heap H locs → lv_has ls 9 [(0, .ref (E.2.1 10)), (1, .ref (E.2.1 p1)), (2, .int p2), (4, .int p4), (5, .int v5), (6, .int v6), (7, .int v7)] → W p l e rmX7_markPart s m args below meth c H locs 0 0 Q (F0 m 117 ls []) := by
            intro v5 v6 v7 w H locs ls h hW hS hl
            unfold jX7_markPart_117 at h
            refine lv_iinc (v := (v7 + (1 : Int32))) (lv' := [(7, .int (v7 + (1 : Int32))), (0, .ref (E.2.1 10)), (1, .ref (E.2.1 p1)), (2, .int p2), (4, .int p4), (5, .int v5), (6, .int v6)]) hx hb dX7_markPart_117 hl (k := 6) rfl rfl (by decide) rfl (fun ls hl => ?_)
            refine lv_goto (tgt := 38) hx hb dX7_markPart_120 (by decide) ?_
            exact ih38 _ _ _ _ _ _ _ h hW hS (lv_sub hl [1, 2, 3, 4, 5, 6, 0] rfl)
          unfold bX7_markPart_38 at h
          refine lv_iload hx hb dX7_markPart_38 (lv_at hl 6 rfl) ?_
          refine lv_iconst (v := (4 : Int32)) hx hb dX7_markPart_40 (by decide) ?_
          refine rb_icmp_ge (tgt := 123) hx hb h dX7_markPart_41 (by decide) (fun h => ?_) (fun h => ?_)
          · refine lv_iinc (v := (v6 + (1 : Int32))) (lv' := [(6, .int (v6 + (1 : Int32))), (0, .ref (E.2.1 10)), (1, .ref (E.2.1 p1)), (2, .int p2), (4, .int p4), (5, .int v5), (7, .int v7)]) hx hb dX7_markPart_123 hl (k := 5) rfl rfl (by decide) rfl (fun ls hl => ?_)
            refine lv_goto (tgt := 21) hx hb dX7_markPart_126 (by decide) ?_
            exact ih21 _ _ _ _ _ _ h hW hS (lv_sub hl [1, 2, 3, 4, 5, 0] rfl)
          · refine lv_aload_n hx hb dX7_markPart_44 rfl (lv_at hl 0 rfl) ?_
            refine rw_get hx hb hts iX7 hown hW (fl 10 rfl) rfl rfl 0 (by decide) e21 rfl (v := .ref (E.2.1 1)) rfl dX7_markPart_45 ?_
            refine lv_aload_n hx hb dX7_markPart_48 rfl (lv_at hl 0 rfl) ?_
            refine rw_get hx hb hts iX7 hown hW (fl 10 rfl) rfl rfl 3 (by decide) e18 rfl (v := .ref (E.2.1 13)) rfl dX7_markPart_49 ?_
            refine lv_iload hx hb dX7_markPart_52 (lv_at hl 5 rfl) ?_
            refine rw_iald hx hb hW (fun _ => (fl 13 rfl)) h dX7_markPart_54 (fun x3 h => ?_)
            refine lv_iload hx hb dX7_markPart_55 (lv_at hl 6 rfl) ?_
            refine rc_Vi (k := 1) (As := [.int x3, .int v7]) (rest := []) S hW hS h (kX2_beside l E x3 v7 w) (cwV 2 hts gX7_markPart_X2_beside rfl rfl rfl hdX2_beside ⟨Nat.le_of_ble_eq_true rfl, Nat.le_of_ble_eq_true rfl⟩) (fl 1 rfl) rfl rfl rfl rfl hl.1 rfl (Nat.le_of_ble_eq_true rfl) ⟨Nat.zero_le _, Nat.zero_le _⟩ dX7_markPart_57 (fun x4 w5 H locs h hW hS => ?_)
            refine lv_istore (lv' := [(8, .int x4), (0, .ref (E.2.1 10)), (1, .ref (E.2.1 p1)), (2, .int p2), (4, .int p4), (5, .int v5), (6, .int v6), (7, .int v7)]) hx hb dX7_markPart_60 hl (by decide) rfl (fun ls hl => ?_)
            refine lv_iload hx hb dX7_markPart_62 (lv_at hl 0 rfl) ?_
            refine lv_iconst (v := (-1 : Int32)) hx hb dX7_markPart_64 (by decide) ?_
            refine rb_icmp_eq (tgt := 117) hx hb h dX7_markPart_65 (by decide) (fun h => ?_) (fun h => ?_)
            · exact J117 _ _ _ _ _ _ _ h hW hS (lv_sub hl [1, 2, 3, 4, 5, 6, 7] rfl)
            · refine lv_iload hx hb dX7_markPart_68 (lv_at hl 5 rfl) ?_
              refine lv_bipush (v := (25 : Int32)) hx hb dX7_markPart_70 (by decide) ?_
              refine rb_icmp_lt (tgt := 78) hx hb h dX7_markPart_72 (by decide) (fun h => ?_) (fun h => ?_)
              · refine lv_aload_n hx hb dX7_markPart_78 rfl (lv_at hl 2 rfl) ?_
                refine lv_iload hx hb dX7_markPart_79 (lv_at hl 0 rfl) ?_
                refine rw_iald hx hb hW LI_full h dX7_markPart_81 (fun x6 h => ?_)
                refine lv_iload_n hx hb dX7_markPart_82 rfl (lv_at hl 3 rfl) ?_
                refine rb_icmp_lt (tgt := 117) hx hb h dX7_markPart_83 (by decide) (fun h => ?_) (fun h => ?_)
                · exact J117 _ _ _ _ _ _ _ h hW hS (lv_sub hl [1, 2, 3, 4, 5, 6, 7] rfl)
                · refine lv_aload_n hx hb dX7_markPart_86 rfl (lv_at hl 1 rfl) ?_
                  refine rw_get hx hb hts iX7 hown hW (fl 10 rfl) rfl rfl 2 (by decide) e15 rfl (v := .ref (E.2.1 12)) rfl dX7_markPart_87 ?_
                  refine lv_iload hx hb dX7_markPart_90 (lv_at hl 0 rfl) ?_
                  refine rw_iald hx hb hW (fun _ => (fl 12 rfl)) h dX7_markPart_92 (fun x7 h => ?_)
                  refine rb_if_ne (tgt := 117) hx hb h dX7_markPart_93 (by decide) (fun h => ?_) (fun h => ?_)
                  · exact J117 _ _ _ _ _ _ _ h hW hS (lv_sub hl [1, 2, 3, 4, 5, 6, 7] rfl)
                  · refine lv_aload_n hx hb dX7_markPart_96 rfl (lv_at hl 1 rfl) ?_
                    refine rw_get hx hb hts iX7 hown hW (fl 10 rfl) rfl rfl 2 (by decide) e15 rfl (v := .ref (E.2.1 12)) rfl dX7_markPart_97 ?_
                    refine lv_iload hx hb dX7_markPart_100 (lv_at hl 0 rfl) ?_
                    refine lv_iload hx hb dX7_markPart_102 (lv_at hl 4 rfl) ?_
                    refine rw_iast hx hb hW hS (fun _ => (fl 12 rfl)) h dX7_markPart_104 (fun w8 H locs h hW hS => ?_)
                    refine lv_aload_n hx hb dX7_markPart_105 rfl (lv_at hl 1 rfl) ?_
                    refine rw_get hx hb hts iX7 hown hW (fl 10 rfl) rfl rfl 3 (by decide) e18 rfl (v := .ref (E.2.1 13)) rfl dX7_markPart_106 ?_
                    refine lv_iload hx hb dX7_markPart_109 (lv_at hl 5 rfl) ?_
                    refine lv_iinc (v := (v5 + (1 : Int32))) (lv' := [(5, .int (v5 + (1 : Int32))), (8, .int x4), (0, .ref (E.2.1 10)), (1, .ref (E.2.1 p1)), (2, .int p2), (4, .int p4), (6, .int v6), (7, .int v7)]) hx hb dX7_markPart_111 hl (k := 5) rfl rfl (by decide) rfl (fun ls hl => ?_)
                    refine lv_iload hx hb dX7_markPart_114 (lv_at hl 1 rfl) ?_
                    refine rw_iast hx hb hW hS (fun _ => (fl 13 rfl)) h dX7_markPart_116 (fun w9 H locs h hW hS => ?_)
                    exact J117 _ _ _ _ _ _ _ h hW hS (lv_sub hl [2, 3, 4, 5, 0, 6, 7] rfl)
              · refine lv_goto (tgt := 117) hx hb dX7_markPart_75 (by decide) ?_
                exact J117 _ _ _ _ _ _ _ h hW hS (lv_sub hl [1, 2, 3, 4, 5, 6, 7] rfl)
      unfold bX7_markPart_21 at h
      refine lv_iload hx hb dX7_markPart_21 (lv_at hl 5 rfl) ?_
      refine lv_iload hx hb dX7_markPart_23 (lv_at hl 4 rfl) ?_
      refine rb_icmp_ge (tgt := 129) hx hb h dX7_markPart_25 (by decide) (fun h => ?_) (fun h => ?_)
      · exact rrV hQ hW hS h dX7_markPart_129
      · refine lv_iload hx hb dX7_markPart_28 (lv_at hl 5 rfl) ?_
        refine lv_bipush (v := (25 : Int32)) hx hb dX7_markPart_30 (by decide) ?_
        refine rb_icmp_ge (tgt := 129) hx hb h dX7_markPart_32 (by decide) (fun h => ?_) (fun h => ?_)
        · exact rrV hQ hW hS h dX7_markPart_129
        · refine lv_iconst (v := (0 : Int32)) hx hb dX7_markPart_35 (by decide) ?_
          refine lv_istore (lv' := [(7, .int (0 : Int32)), (0, .ref (E.2.1 10)), (1, .ref (E.2.1 p1)), (2, .int p2), (4, .int p4), (5, .int v5), (6, .int v6)]) hx hb dX7_markPart_36 hl (by decide) rfl (fun ls hl => ?_)
          exact J38 _ _ _ _ _ _ _ _ h hW hS (lv_sub hl [1, 2, 3, 4, 5, 6, 0] rfl)
  unfold fX7_markPart at h
  refine lv_aload_n hx hb dX7_markPart_0 rfl (lv_at hl 0 rfl) ?_
  refine rw_get hx hb hts iX7 hown hW (fl 10 rfl) rfl rfl 3 (by decide) e18 rfl (v := .ref (E.2.1 13)) rfl dX7_markPart_1 ?_
  refine lv_iconst (v := (0 : Int32)) hx hb dX7_markPart_4 (by decide) ?_
  refine lv_iload_n hx hb dX7_markPart_5 rfl (lv_at hl 3 rfl) ?_
  refine rw_iast hx hb hW hS (fun _ => (fl 13 rfl)) h dX7_markPart_6 (fun w1 H locs h hW hS => ?_)
  refine lv_aload_n hx hb dX7_markPart_7 rfl (lv_at hl 0 rfl) ?_
  refine rw_get hx hb hts iX7 hown hW (fl 10 rfl) rfl rfl 2 (by decide) e15 rfl (v := .ref (E.2.1 12)) rfl dX7_markPart_8 ?_
  refine lv_iload_n hx hb dX7_markPart_11 rfl (lv_at hl 3 rfl) ?_
  refine lv_iload hx hb dX7_markPart_12 (lv_at hl 4 rfl) ?_
  refine rw_iast hx hb hW hS (fun _ => (fl 12 rfl)) h dX7_markPart_14 (fun w2 H locs h hW hS => ?_)
  refine lv_iconst (v := (1 : Int32)) hx hb dX7_markPart_15 (by decide) ?_
  refine lv_istore (lv' := [(5, .int (1 : Int32)), (0, .ref (E.2.1 10)), (1, .ref (E.2.1 p1)), (2, .int p2), (3, .int p3), (4, .int p4)]) hx hb dX7_markPart_16 hl (by decide) rfl (fun ls hl => ?_)
  refine lv_iconst (v := (0 : Int32)) hx hb dX7_markPart_18 (by decide) ?_
  refine lv_istore (lv' := [(6, .int (0 : Int32)), (5, .int (1 : Int32)), (0, .ref (E.2.1 10)), (1, .ref (E.2.1 p1)), (2, .int p2), (3, .int p3), (4, .int p4)]) hx hb dX7_markPart_19 hl (by decide) rfl (fun ls hl => ?_)
  exact J21 _ _ _ _ _ _ _ h hW hS (lv_sub hl [2, 3, 4, 6, 1, 0] rfl)
noncomputable def jX7_layerParts_55 (p1 : Nat) (p2 : Int32) (k13 : Int32 → Int32 → Wd → Option (Int32 × Wd)) (v3 : Int32) (v4 : Int32)  (w : Wd) : Option (Int32 × Wd) :=
  k13 v3 (v4 + (1 : Int32)) w
noncomputable def bX7_layerParts_13 (p1 : Nat) (p2 : Int32) (k13 : Int32 → Int32 → Wd → Option (Int32 × Wd)) (v3 : Int32) (v4 : Int32)  (w : Wd) : Option (Int32 × Wd) :=
  bnd (fX2_cells w) fun x2 w3 => if x2 ≤ v4 then some (v3, w3) else (gI w3 p1 v4).bind fun x4 => if x4 < p2 then jX7_layerParts_55 p1 p2 k13 v3 v4 w3 else (gI w3 12 v4).bind fun x5 => if x5 = 0 then bnd (fX7_markPart p1 p2 v4 (v3 + (1 : Int32)) w3) fun _ w6 => jX7_layerParts_55 p1 p2 k13 (v3 + (1 : Int32)) v4 w6 else jX7_layerParts_55 p1 p2 k13 v3 v4 w3
noncomputable def fX7_layerParts (p1 : Nat) (p2 : Int32) (w : Wd) : Option (Int32 × Wd) :=
  bnd (fJ7_fill_53178 12 (0 : Int32) w) fun _ w1 => lp (fun _ _ _ => none) (bX7_layerParts_13 p1 p2) G (0 : Int32) (0 : Int32) w1
abbrev rmX7_layerParts : Room := { frames := 2, cells := 0, slots := 0, locals := 50 }
set_option maxHeartbeats 4000000 in
set_option maxRecDepth 100000 in
theorem kX7_layerParts (l : Launch) (E : Ev) (p1 : Nat) (p2 : Int32) (w : Wd) (q : Int32 × Wd) (h : fX7_layerParts p1 p2 w = some q) : CtI l yX7_layerParts wsX7_layerParts rmX7_layerParts E full [.ref (E.2.1 10), .ref (E.2.1 p1), .int p2] w q := by
  refine mkI (cc := cX7_layerParts) (maxL := 5) (by decide) rfl (Nat.le_of_ble_eq_true rfl) ?_
  intro p e s m args below meth c Q S hW hQ ls hl
  obtain ⟨hx, hb, hml, hown, hts⟩ := id S
  have hW0 := hW
  have hS : va_S (wA E full) s.heap s.heap [] := va_S.rf
  have hl : lv_has ls 5 [(0, .ref (E.2.1 10)), (1, .ref (E.2.1 p1)), (2, .int p2)] := hl
  have iX7 : ∀ w ∈ wsX70, w ∈ wsX7_layerParts := by decide +kernel
  have e15 := hts (.fieldLink RX7 15 "CubeHeaps$View" "partOf" "[I") (by decide +kernel)
  have e21 := hts (.fieldLink RX7 21 "CubeHeaps$View" "ground" "LCubeHeaps$Ground;") (by decide +kernel)
  have J13 : ∀ (n : Nat) (v3 : Int32) (v4 : Int32) (w : Wd) (H : Heap) (locs : List Loc) (ls : Array Slot), lp (fun _ _ _ => none) (bX7_layerParts_13 p1 p2) n v3 v4 w = some q → World E full w s H → va_S (wA E full) s.heap H locs → lv_has ls 5 [(0, .ref (E.2.1 10)), (1, .ref (E.2.1 p1)), (2, .int p2), (3, .int v3), (4, .int v4)] → W p l e rmX7_layerParts s m args below meth c H locs 0 0 Q (F0 m 13 ls []) := by
    intro n
    induction n with
    | zero =>
      intro v3 v4 w H locs ls h hW hS hl
      exact absurd (show (none : Option (Int32 × Wd)) = some q from h) (fun z => by cases z)
    | succ n ih13 =>
      intro v3 v4 w H locs ls h hW hS hl
      have h : bX7_layerParts_13 p1 p2 (lp (fun _ _ _ => none) (bX7_layerParts_13 p1 p2) n) v3 v4 w = some q := h
      generalize lp (fun _ _ _ => none) (bX7_layerParts_13 p1 p2) n = k13 at h ih13
      have J55 : ∀ (v3 : Int32) (v4 : Int32) (w : Wd) (H : Heap) (locs : List Loc) (ls : Array Slot), jX7_layerParts_55 p1 p2 k13 v3 v4 w = some q → World E full w s H → va_S (wA E full) s.heap H locs → lv_has ls 5 [(0, .ref (E.2.1 10)), (1, .ref (E.2.1 p1)), (2, .int p2), (3, .int v3), (4, .int v4)] → W p l e rmX7_layerParts s m args below meth c H locs 0 0 Q (F0 m 55 ls []) := by
        intro v3 v4 w H locs ls h hW hS hl
        unfold jX7_layerParts_55 at h
        refine lv_iinc (v := (v4 + (1 : Int32))) (lv' := [(4, .int (v4 + (1 : Int32))), (0, .ref (E.2.1 10)), (1, .ref (E.2.1 p1)), (2, .int p2), (3, .int v3)]) hx hb dX7_layerParts_55 hl (k := 4) rfl rfl (by decide) rfl (fun ls hl => ?_)
        refine lv_goto (tgt := 13) hx hb dX7_layerParts_58 (by decide) ?_
        exact ih13 _ _ _ _ _ _ h hW hS (lv_sub hl [1, 2, 3, 4, 0] rfl)
      unfold bX7_layerParts_13 at h
      refine lv_iload hx hb dX7_layerParts_13 (lv_at hl 4 rfl) ?_
      refine lv_aload_n hx hb dX7_layerParts_15 rfl (lv_at hl 0 rfl) ?_
      refine rw_get hx hb hts iX7 hown hW (fl 10 rfl) rfl rfl 0 (by decide) e21 rfl (v := .ref (E.2.1 1)) rfl dX7_layerParts_16 ?_
      refine rc_Vi (k := 1) (As := []) (rest := [.int v4]) S hW hS h (kX2_cells l E  w) (cwV 0 hts gX7_layerParts_X2_cells rfl rfl rfl hdX2_cells ⟨Nat.le_of_ble_eq_true rfl, Nat.le_of_ble_eq_true rfl⟩) (fl 1 rfl) rfl rfl rfl rfl hl.1 rfl (Nat.le_of_ble_eq_true rfl) ⟨Nat.zero_le _, Nat.zero_le _⟩ dX7_layerParts_19 (fun x2 w3 H locs h hW hS => ?_)
      refine rb_icmp_ge (tgt := 61) hx hb h dX7_layerParts_22 (by decide) (fun h => ?_) (fun h => ?_)
      · refine lv_iload_n hx hb dX7_layerParts_61 rfl (lv_at hl 3 rfl) ?_
        exact rrI hQ hW hS h dX7_layerParts_62
      · refine lv_aload_n hx hb dX7_layerParts_25 rfl (lv_at hl 1 rfl) ?_
        refine lv_iload hx hb dX7_layerParts_26 (lv_at hl 4 rfl) ?_
        refine rw_iald hx hb hW LI_full h dX7_layerParts_28 (fun x4 h => ?_)
        refine lv_iload_n hx hb dX7_layerParts_29 rfl (lv_at hl 2 rfl) ?_
        refine rb_icmp_lt (tgt := 55) hx hb h dX7_layerParts_30 (by decide) (fun h => ?_) (fun h => ?_)
        · exact J55 _ _ _ _ _ _ h hW hS (hl)
        · refine lv_aload_n hx hb dX7_layerParts_33 rfl (lv_at hl 0 rfl) ?_
          refine rw_get hx hb hts iX7 hown hW (fl 10 rfl) rfl rfl 2 (by decide) e15 rfl (v := .ref (E.2.1 12)) rfl dX7_layerParts_34 ?_
          refine lv_iload hx hb dX7_layerParts_37 (lv_at hl 4 rfl) ?_
          refine rw_iald hx hb hW (fun _ => (fl 12 rfl)) h dX7_layerParts_39 (fun x5 h => ?_)
          refine rb_if_ne (tgt := 55) hx hb h dX7_layerParts_40 (by decide) (fun h => ?_) (fun h => ?_)
          · exact J55 _ _ _ _ _ _ h hW hS (hl)
          · refine lv_iinc (v := (v3 + (1 : Int32))) (lv' := [(3, .int (v3 + (1 : Int32))), (0, .ref (E.2.1 10)), (1, .ref (E.2.1 p1)), (2, .int p2), (4, .int v4)]) hx hb dX7_layerParts_43 hl (k := 3) rfl rfl (by decide) rfl (fun ls hl => ?_)
            refine lv_aload_n hx hb dX7_layerParts_46 rfl (lv_at hl 1 rfl) ?_
            refine lv_aload_n hx hb dX7_layerParts_47 rfl (lv_at hl 2 rfl) ?_
            refine lv_iload_n hx hb dX7_layerParts_48 rfl (lv_at hl 3 rfl) ?_
            refine lv_iload hx hb dX7_layerParts_49 (lv_at hl 4 rfl) ?_
            refine lv_iload_n hx hb dX7_layerParts_51 rfl (lv_at hl 0 rfl) ?_
            refine rc_Vv (k := 10) (As := [.ref (E.2.1 p1), .int p2, .int v4, .int (v3 + (1 : Int32))]) (rest := []) S hW hS h (kX7_markPart l E p1 p2 v4 (v3 + (1 : Int32)) w3) (cwV 4 hts gX7_layerParts_X7_markPart rfl rfl rfl hdX7_markPart ⟨Nat.le_of_ble_eq_true rfl, Nat.le_of_ble_eq_true rfl⟩) (fl 10 rfl) rfl rfl rfl rfl hl.1 rfl (Nat.le_of_ble_eq_true rfl) ⟨Nat.zero_le _, Nat.zero_le _⟩ dX7_layerParts_52 (fun _ w6 H locs h hW hS => ?_)
            exact J55 _ _ _ _ _ _ h hW hS (lv_sub hl [1, 2, 3, 0, 4] rfl)
  unfold fX7_layerParts at h
  refine lv_aload_n hx hb dX7_layerParts_0 rfl (lv_at hl 0 rfl) ?_
  refine rw_get hx hb hts iX7 hown hW (fl 10 rfl) rfl rfl 2 (by decide) e15 rfl (v := .ref (E.2.1 12)) rfl dX7_layerParts_1 ?_
  refine lv_iconst (v := (0 : Int32)) hx hb dX7_layerParts_4 (by decide) ?_
  refine rc_Sv (As := [.ref (E.2.1 12), .int (0 : Int32)]) (rest := []) S hW hS h (kJ7_fill_53178 l E full 12 (0 : Int32) LI_full w) (va_cwS 2 hts gX7_layerParts_J7_fill_53178 rfl rfl rfl hdJ7_fill_53178 ⟨Nat.le_of_ble_eq_true rfl, Nat.le_of_ble_eq_true rfl⟩) rfl hl.1 rfl (Nat.le_of_ble_eq_true rfl) ⟨Nat.zero_le _, Nat.zero_le _⟩ dX7_layerParts_5 (fun _ w1 H locs h hW hS => ?_)
  refine lv_iconst (v := (0 : Int32)) hx hb dX7_layerParts_8 (by decide) ?_
  refine lv_istore_n (lv' := [(3, .int (0 : Int32)), (0, .ref (E.2.1 10)), (1, .ref (E.2.1 p1)), (2, .int p2)]) hx hb dX7_layerParts_9 rfl hl (by decide) rfl (fun ls hl => ?_)
  refine lv_iconst (v := (0 : Int32)) hx hb dX7_layerParts_10 (by decide) ?_
  refine lv_istore (lv' := [(4, .int (0 : Int32)), (3, .int (0 : Int32)), (0, .ref (E.2.1 10)), (1, .ref (E.2.1 p1)), (2, .int p2)]) hx hb dX7_layerParts_11 hl (by decide) rfl (fun ls hl => ?_)
  exact J13 _ _ _ _ _ _ _ h hW hS (lv_sub hl [2, 3, 4, 1, 0] rfl)
