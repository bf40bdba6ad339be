noncomputable def fX4_missing (p1 : Int32) (p2 : Int32) (w : Wd) : Option (Int32 × Wd) :=
  bnd (fX3_ofS p1 p2 w) fun x1 w2 => bnd (fX2_lineTotal 83 p1 p2 w2) fun x3 w4 => some ((x1 - x3), w4)
abbrev rmX4_missing : Room := { frames := 2, cells := 0, slots := 0, locals := 48 }
set_option maxHeartbeats 4000000 in
set_option maxRecDepth 100000 in
theorem kX4_missing (l : Launch) (E : Ev) (p1 : Int32) (p2 : Int32) (w : Wd) (q : Int32 × Wd) (h : fX4_missing p1 p2 w = some q) : CtI l yX4_missing wsX4_missing rmX4_missing E full [.ref (E.2.1 79), .int p1, .int p2] w q := by
  refine mkI (cc := cX4_missing) (maxL := 3) (by decide) rfl (Nat.le_of_ble_eq_true rfl) ?_
  intro p e s m args below meth c Q S hW hQ ls hl
  obtain ⟨hx, hb, hml, hown, hts⟩ := id S
  have hW0 := hW
  have hS : va_S (wA E full) s.heap s.heap [] := va_S.rf
  have hl : lv_has ls 3 [(0, .ref (E.2.1 79)), (1, .int p1), (2, .int p2)] := hl
  have iX4 : ∀ w ∈ wsX40, w ∈ wsX4_missing := by decide +kernel
  have e12 := hts (.fieldLink RX4 12 "CubeHeaps$Sums" "wanted" "LCubeHeaps$Lines;") (by decide +kernel)
  have e18 := hts (.fieldLink RX4 18 "CubeHeaps$Sums" "made" "[I") (by decide +kernel)
  have e40 := hts (.fieldLink RX4 40 "CubeHeaps$Sums" "ground" "LCubeHeaps$Ground;") (by decide +kernel)
  unfold fX4_missing at h
  refine lv_aload_n hx hb dX4_missing_0 rfl (lv_at hl 0 rfl) ?_
  refine rw_get hx hb hts iX4 hown hW (fl 79 rfl) rfl rfl 2 (by decide) e12 rfl (v := .ref (E.2.1 80)) rfl dX4_missing_1 ?_
  refine lv_iload_n hx hb dX4_missing_4 rfl (lv_at hl 1 rfl) ?_
  refine lv_iload_n hx hb dX4_missing_5 rfl (lv_at hl 2 rfl) ?_
  refine rc_Vi (k := 80) (As := [.int p1, .int p2]) (rest := []) S hW hS h (kX3_ofS l E p1 p2 w) (cwV 2 hts gX4_missing_X3_of rfl rfl rfl hdX3_of ⟨Nat.le_of_ble_eq_true rfl, Nat.le_of_ble_eq_true rfl⟩) (fl 80 rfl) rfl rfl rfl rfl hl.1 rfl (Nat.le_of_ble_eq_true rfl) ⟨Nat.zero_le _, Nat.zero_le _⟩ dX4_missing_6 (fun x1 w2 H locs h hW hS => ?_)
  refine lv_aload_n hx hb dX4_missing_9 rfl (lv_at hl 0 rfl) ?_
  refine rw_get hx hb hts iX4 hown hW (fl 79 rfl) rfl rfl 0 (by decide) e40 rfl (v := .ref (E.2.1 1)) rfl dX4_missing_10 ?_
  refine lv_aload_n hx hb dX4_missing_13 rfl (lv_at hl 0 rfl) ?_
  refine rw_get hx hb hts iX4 hown hW (fl 79 rfl) rfl rfl 3 (by decide) e18 rfl (v := .ref (E.2.1 83)) rfl dX4_missing_14 ?_
  refine lv_iload_n hx hb dX4_missing_17 rfl (lv_at hl 1 rfl) ?_
  refine lv_iload_n hx hb dX4_missing_18 rfl (lv_at hl 2 rfl) ?_
  refine rc_Vi (k := 1) (As := [.ref (E.2.1 83), .int p1, .int p2]) (rest := [.int x1]) S hW hS h (kX2_lineTotal l E 83 p1 p2 w2) (cwV 3 hts gX4_missing_X2_lineTotal rfl rfl rfl hdX2_lineTotal ⟨Nat.le_of_ble_eq_true rfl, Nat.le_of_ble_eq_true rfl⟩) (fl 1 rfl) rfl rfl rfl rfl hl.1 rfl (Nat.le_of_ble_eq_true rfl) ⟨Nat.zero_le _, Nat.zero_le _⟩ dX4_missing_19 (fun x3 w4 H locs h hW hS => ?_)
  refine lv_isub hx hb dX4_missing_22 ?_
  exact rrI hQ hW hS h dX4_missing_23
noncomputable def bX4_openColumns_52 (k52 : Int32 → Int32 → Wd → Option (Int32 × Wd)) (v1 : Int32) (v2 : Int32)  (w : Wd) : Option (Int32 × Wd) :=
  bnd (fX2_lines (1 : Int32) w) fun x8 w9 => if x8 ≤ v2 then if v1 = 0 then zr (1 : Int32) w9 else zr (0 : Int32) w9 else bnd (fX4_missing (1 : Int32) v2 w9) fun x10 w11 => if 0 ≤ x10 then bnd (fX4_missing (1 : Int32) v2 w11) fun x12 w13 => (sI w13 86 ((5 : Int32) + v2) x12).bind fun w14 => bnd (fX4_missing (1 : Int32) v2 w14) fun x15 w16 => k52 (v1 - x15) (v2 + (1 : Int32)) w16 else zr (0 : Int32) w11
noncomputable def bX4_openColumns_12 (k12 : Int32 → Int32 → Wd → Option (Int32 × Wd)) (v1 : Int32) (v2 : Int32)  (w : Wd) : Option (Int32 × Wd) :=
  bnd (fX2_lines (0 : Int32) w) fun x2 w3 => if x2 ≤ v2 then lp (fun _ _ _ => none) (bX4_openColumns_52) G v1 (0 : Int32) w3 else bnd (fX4_missing (0 : Int32) v2 w3) fun x4 w5 => if 0 ≤ x4 then bnd (fX4_missing (0 : Int32) v2 w5) fun x6 w7 => k12 (v1 + x6) (v2 + (1 : Int32)) w7 else zr (0 : Int32) w5
noncomputable def fX4_openColumns  (w : Wd) : Option (Int32 × Wd) :=
  bnd (fJ7_fill_53178 86 (0 : Int32) w) fun _ w1 => lp (fun _ _ _ => none) (bX4_openColumns_12) G (0 : Int32) (0 : Int32) w1
abbrev rmX4_openColumns : Room := { frames := 3, cells := 0, slots := 0, locals := 70 }
set_option maxHeartbeats 4000000 in
set_option maxRecDepth 100000 in
theorem kX4_openColumns (l : Launch) (E : Ev)  (w : Wd) (q : Int32 × Wd) (h : fX4_openColumns w = some q) : CtI l yX4_openColumns wsX4_openColumns rmX4_openColumns E full [.ref (E.2.1 79)] w q := by
  refine mkZ (cc := cX4_openColumns) (maxL := 3) (by decide) rfl (Nat.le_of_ble_eq_true rfl) ?_
  intro p e s m args below meth c Q S hW hQ ls hl
  obtain ⟨hx, hb, hml, hown, hts⟩ := id S
  have hW0 := hW
  have hS : va_S (wA E full) s.heap s.heap [] := va_S.rf
  have hl : lv_has ls 3 [(0, .ref (E.2.1 79))] := hl
  have iX4 : ∀ w ∈ wsX40, w ∈ wsX4_openColumns := by decide +kernel
  have e28 := hts (.fieldLink RX4 28 "CubeHeaps$Sums" "open" "[I") (by decide +kernel)
  have e40 := hts (.fieldLink RX4 40 "CubeHeaps$Sums" "ground" "LCubeHeaps$Ground;") (by decide +kernel)
  have J52 : ∀ (n : Nat) (v1 : Int32) (v2 : Int32) (w : Wd) (H : Heap) (locs : List Loc) (ls : Array Slot), lp (fun _ _ _ => none) (bX4_openColumns_52) n v1 v2 w = some q → World E full w s H → va_S (wA E full) s.heap H locs → lv_has ls 3 [(0, .ref (E.2.1 79)), (1, .int v1), (2, .int v2)] → W p l e rmX4_openColumns s m args below meth c H locs 0 0 Q (F0 m 52 ls []) := by
    intro n
    induction n with
    | zero =>
      intro v1 v2 w H locs ls h hW hS hl
      exact absurd (show (none : Option (Int32 × Wd)) = some q from h) (fun z => by cases z)
    | succ n ih52 =>
      intro v1 v2 w H locs ls h hW hS hl
      have h : bX4_openColumns_52 (lp (fun _ _ _ => none) (bX4_openColumns_52) n) v1 v2 w = some q := h
      generalize lp (fun _ _ _ => none) (bX4_openColumns_52) n = k52 at h ih52
      unfold bX4_openColumns_52 at h
      refine lv_iload_n hx hb dX4_openColumns_52 rfl (lv_at hl 2 rfl) ?_
      refine lv_aload_n hx hb dX4_openColumns_53 rfl (lv_at hl 0 rfl) ?_
      refine rw_get hx hb hts iX4 hown hW (fl 79 rfl) rfl rfl 0 (by decide) e40 rfl (v := .ref (E.2.1 1)) rfl dX4_openColumns_54 ?_
      refine lv_iconst (v := (1 : Int32)) hx hb dX4_openColumns_57 (by decide) ?_
      refine rc_Vi (k := 1) (As := [.int (1 : Int32)]) (rest := [.int v2]) S hW hS h (kX2_lines l E (1 : Int32) w) (cwV 1 hts gX4_openColumns_X2_lines rfl rfl rfl hdX2_lines ⟨Nat.le_of_ble_eq_true rfl, Nat.le_of_ble_eq_true rfl⟩) (fl 1 rfl) rfl rfl rfl rfl hl.1 rfl (Nat.le_of_ble_eq_true rfl) ⟨Nat.zero_le _, Nat.zero_le _⟩ dX4_openColumns_58 (fun x8 w9 H locs h hW hS => ?_)
      refine rb_icmp_ge (tgt := 104) hx hb h dX4_openColumns_61 (by decide) (fun h => ?_) (fun h => ?_)
      · refine lv_iload_n hx hb dX4_openColumns_104 rfl (lv_at hl 1 rfl) ?_
        refine rb_if_ne (tgt := 112) hx hb h dX4_openColumns_105 (by decide) (fun h => ?_) (fun h => ?_)
        · refine lv_iconst (v := (0 : Int32)) hx hb dX4_openColumns_112 (by decide) ?_
          exact rrZ hQ hW hS h dX4_openColumns_113
        · refine lv_iconst (v := (1 : Int32)) hx hb dX4_openColumns_108 (by decide) ?_
          refine lv_goto (tgt := 113) hx hb dX4_openColumns_109 (by decide) ?_
          exact rrZ hQ hW hS h dX4_openColumns_113
      · refine lv_aload_n hx hb dX4_openColumns_64 rfl (lv_at hl 0 rfl) ?_
        refine lv_iconst (v := (1 : Int32)) hx hb dX4_openColumns_65 (by decide) ?_
        refine lv_iload_n hx hb dX4_openColumns_66 rfl (lv_at hl 2 rfl) ?_
        refine rc_Vi (k := 79) (As := [.int (1 : Int32), .int v2]) (rest := []) S hW hS h (kX4_missing l E (1 : Int32) v2 w9) (cwV 2 hts gX4_openColumns_X4_missing rfl rfl rfl hdX4_missing ⟨Nat.le_of_ble_eq_true rfl, Nat.le_of_ble_eq_true rfl⟩) (fl 79 rfl) rfl rfl rfl rfl hl.1 rfl (Nat.le_of_ble_eq_true rfl) ⟨Nat.zero_le _, Nat.zero_le _⟩ dX4_openColumns_67 (fun x10 w11 H locs h hW hS => ?_)
        refine rb_if_ge (tgt := 75) hx hb h dX4_openColumns_70 (by decide) (fun h => ?_) (fun h => ?_)
        · refine lv_aload_n hx hb dX4_openColumns_75 rfl (lv_at hl 0 rfl) ?_
          refine rw_get hx hb hts iX4 hown hW (fl 79 rfl) rfl rfl 6 (by decide) e28 rfl (v := .ref (E.2.1 86)) rfl dX4_openColumns_76 ?_
          refine lv_iconst (v := (5 : Int32)) hx hb dX4_openColumns_79 (by decide) ?_
          refine lv_iload_n hx hb dX4_openColumns_80 rfl (lv_at hl 2 rfl) ?_
          refine lv_iadd hx hb dX4_openColumns_81 ?_
          refine lv_aload_n hx hb dX4_openColumns_82 rfl (lv_at hl 0 rfl) ?_
          refine lv_iconst (v := (1 : Int32)) hx hb dX4_openColumns_83 (by decide) ?_
          refine lv_iload_n hx hb dX4_openColumns_84 rfl (lv_at hl 2 rfl) ?_
          refine rc_Vi (k := 79) (As := [.int (1 : Int32), .int v2]) (rest := [.int ((5 : Int32) + v2), .ref (E.2.1 86)]) S hW hS h (kX4_missing l E (1 : Int32) v2 w11) (cwV 2 hts gX4_openColumns_X4_missing rfl rfl rfl hdX4_missing ⟨Nat.le_of_ble_eq_true rfl, Nat.le_of_ble_eq_true rfl⟩) (fl 79 rfl) rfl rfl rfl rfl hl.1 rfl (Nat.le_of_ble_eq_true rfl) ⟨Nat.zero_le _, Nat.zero_le _⟩ dX4_openColumns_85 (fun x12 w13 H locs h hW hS => ?_)
          refine rw_iast hx hb hW hS (fun _ => (fl 86 rfl)) h dX4_openColumns_88 (fun w14 H locs h hW hS => ?_)
          refine lv_iload_n hx hb dX4_openColumns_89 rfl (lv_at hl 1 rfl) ?_
          refine lv_aload_n hx hb dX4_openColumns_90 rfl (lv_at hl 0 rfl) ?_
          refine lv_iconst (v := (1 : Int32)) hx hb dX4_openColumns_91 (by decide) ?_
          refine lv_iload_n hx hb dX4_openColumns_92 rfl (lv_at hl 2 rfl) ?_
          refine rc_Vi (k := 79) (As := [.int (1 : Int32), .int v2]) (rest := [.int v1]) S hW hS h (kX4_missing l E (1 : Int32) v2 w14) (cwV 2 hts gX4_openColumns_X4_missing rfl rfl rfl hdX4_missing ⟨Nat.le_of_ble_eq_true rfl, Nat.le_of_ble_eq_true rfl⟩) (fl 79 rfl) rfl rfl rfl rfl hl.1 rfl (Nat.le_of_ble_eq_true rfl) ⟨Nat.zero_le _, Nat.zero_le _⟩ dX4_openColumns_93 (fun x15 w16 H locs h hW hS => ?_)
          refine lv_isub hx hb dX4_openColumns_96 ?_
          refine lv_istore_n (lv' := [(1, .int (v1 - x15)), (0, .ref (E.2.1 79)), (2, .int v2)]) hx hb dX4_openColumns_97 rfl hl (by decide) rfl (fun ls hl => ?_)
          refine lv_iinc (v := (v2 + (1 : Int32))) (lv' := [(2, .int (v2 + (1 : Int32))), (1, .int (v1 - x15)), (0, .ref (E.2.1 79))]) hx hb dX4_openColumns_98 hl (k := 2) rfl rfl (by decide) rfl (fun ls hl => ?_)
          refine lv_goto (tgt := 52) hx hb dX4_openColumns_101 (by decide) ?_
          exact ih52 _ _ _ _ _ _ h hW hS (lv_sub hl [2, 1, 0] rfl)
        · refine lv_iconst (v := (0 : Int32)) hx hb dX4_openColumns_73 (by decide) ?_
          exact rrZ hQ hW hS h dX4_openColumns_74
  have J12 : ∀ (n : Nat) (v1 : Int32) (v2 : Int32) (w : Wd) (H : Heap) (locs : List Loc) (ls : Array Slot), lp (fun _ _ _ => none) (bX4_openColumns_12) n v1 v2 w = some q → World E full w s H → va_S (wA E full) s.heap H locs → lv_has ls 3 [(0, .ref (E.2.1 79)), (1, .int v1), (2, .int v2)] → W p l e rmX4_openColumns s m args below meth c H locs 0 0 Q (F0 m 12 ls []) := by
    intro n
    induction n with
    | zero =>
      intro v1 v2 w H locs ls h hW hS hl
      exact absurd (show (none : Option (Int32 × Wd)) = some q from h) (fun z => by cases z)
    | succ n ih12 =>
      intro v1 v2 w H locs ls h hW hS hl
      have h : bX4_openColumns_12 (lp (fun _ _ _ => none) (bX4_openColumns_12) n) v1 v2 w = some q := h
      generalize lp (fun _ _ _ => none) (bX4_openColumns_12) n = k12 at h ih12
      unfold bX4_openColumns_12 at h
      refine lv_iload_n hx hb dX4_openColumns_12 rfl (lv_at hl 2 rfl) ?_
      refine lv_aload_n hx hb dX4_openColumns_13 rfl (lv_at hl 0 rfl) ?_
      refine rw_get hx hb hts iX4 hown hW (fl 79 rfl) rfl rfl 0 (by decide) e40 rfl (v := .ref (E.2.1 1)) rfl dX4_openColumns_14 ?_
      refine lv_iconst (v := (0 : Int32)) hx hb dX4_openColumns_17 (by decide) ?_
      refine rc_Vi (k := 1) (As := [.int (0 : Int32)]) (rest := [.int v2]) S hW hS h (kX2_lines l E (0 : Int32) w) (cwV 1 hts gX4_openColumns_X2_lines rfl rfl rfl hdX2_lines ⟨Nat.le_of_ble_eq_true rfl, Nat.le_of_ble_eq_true rfl⟩) (fl 1 rfl) rfl rfl rfl rfl hl.1 rfl (Nat.le_of_ble_eq_true rfl) ⟨Nat.zero_le _, Nat.zero_le _⟩ dX4_openColumns_18 (fun x2 w3 H locs h hW hS => ?_)
      refine rb_icmp_ge (tgt := 50) hx hb h dX4_openColumns_21 (by decide) (fun h => ?_) (fun h => ?_)
      · refine lv_iconst (v := (0 : Int32)) hx hb dX4_openColumns_50 (by decide) ?_
        refine lv_istore_n (lv' := [(2, .int (0 : Int32)), (0, .ref (E.2.1 79)), (1, .int v1)]) hx hb dX4_openColumns_51 rfl hl (by decide) rfl (fun ls hl => ?_)
        exact J52 _ _ _ _ _ _ _ h hW hS (lv_sub hl [1, 2, 0] rfl)
      · refine lv_aload_n hx hb dX4_openColumns_24 rfl (lv_at hl 0 rfl) ?_
        refine lv_iconst (v := (0 : Int32)) hx hb dX4_openColumns_25 (by decide) ?_
        refine lv_iload_n hx hb dX4_openColumns_26 rfl (lv_at hl 2 rfl) ?_
        refine rc_Vi (k := 79) (As := [.int (0 : Int32), .int v2]) (rest := []) S hW hS h (kX4_missing l E (0 : Int32) v2 w3) (cwV 2 hts gX4_openColumns_X4_missing rfl rfl rfl hdX4_missing ⟨Nat.le_of_ble_eq_true rfl, Nat.le_of_ble_eq_true rfl⟩) (fl 79 rfl) rfl rfl rfl rfl hl.1 rfl (Nat.le_of_ble_eq_true rfl) ⟨Nat.zero_le _, Nat.zero_le _⟩ dX4_openColumns_27 (fun x4 w5 H locs h hW hS => ?_)
        refine rb_if_ge (tgt := 35) hx hb h dX4_openColumns_30 (by decide) (fun h => ?_) (fun h => ?_)
        · refine lv_iload_n hx hb dX4_openColumns_35 rfl (lv_at hl 1 rfl) ?_
          refine lv_aload_n hx hb dX4_openColumns_36 rfl (lv_at hl 0 rfl) ?_
          refine lv_iconst (v := (0 : Int32)) hx hb dX4_openColumns_37 (by decide) ?_
          refine lv_iload_n hx hb dX4_openColumns_38 rfl (lv_at hl 2 rfl) ?_
          refine rc_Vi (k := 79) (As := [.int (0 : Int32), .int v2]) (rest := [.int v1]) S hW hS h (kX4_missing l E (0 : Int32) v2 w5) (cwV 2 hts gX4_openColumns_X4_missing rfl rfl rfl hdX4_missing ⟨Nat.le_of_ble_eq_true rfl, Nat.le_of_ble_eq_true rfl⟩) (fl 79 rfl) rfl rfl rfl rfl hl.1 rfl (Nat.le_of_ble_eq_true rfl) ⟨Nat.zero_le _, Nat.zero_le _⟩ dX4_openColumns_39 (fun x6 w7 H locs h hW hS => ?_)
          refine lv_iadd hx hb dX4_openColumns_42 ?_
          refine lv_istore_n (lv' := [(1, .int (v1 + x6)), (0, .ref (E.2.1 79)), (2, .int v2)]) hx hb dX4_openColumns_43 rfl hl (by decide) rfl (fun ls hl => ?_)
          refine lv_iinc (v := (v2 + (1 : Int32))) (lv' := [(2, .int (v2 + (1 : Int32))), (1, .int (v1 + x6)), (0, .ref (E.2.1 79))]) hx hb dX4_openColumns_44 hl (k := 2) rfl rfl (by decide) rfl (fun ls hl => ?_)
          refine lv_goto (tgt := 12) hx hb dX4_openColumns_47 (by decide) ?_
          exact ih12 _ _ _ _ _ _ h hW hS (lv_sub hl [2, 1, 0] rfl)
        · refine lv_iconst (v := (0 : Int32)) hx hb dX4_openColumns_33 (by decide) ?_
          exact rrZ hQ hW hS h dX4_openColumns_34
  unfold fX4_openColumns at h
  refine lv_aload_n hx hb dX4_openColumns_0 rfl (lv_at hl 0 rfl) ?_
  refine rw_get hx hb hts iX4 hown hW (fl 79 rfl) rfl rfl 6 (by decide) e28 rfl (v := .ref (E.2.1 86)) rfl dX4_openColumns_1 ?_
  refine lv_iconst (v := (0 : Int32)) hx hb dX4_openColumns_4 (by decide) ?_
  refine rc_Sv (As := [.ref (E.2.1 86), .int (0 : Int32)]) (rest := []) S hW hS h (kJ7_fill_53178 l E full 86 (0 : Int32) LI_full w) (va_cwS 2 hts gX4_openColumns_J7_fill_53178 rfl rfl rfl hdJ7_fill_53178 ⟨Nat.le_of_ble_eq_true rfl, Nat.le_of_ble_eq_true rfl⟩) rfl hl.1 rfl (Nat.le_of_ble_eq_true rfl) ⟨Nat.zero_le _, Nat.zero_le _⟩ dX4_openColumns_5 (fun _ w1 H locs h hW hS => ?_)
  refine lv_iconst (v := (0 : Int32)) hx hb dX4_openColumns_8 (by decide) ?_
  refine lv_istore_n (lv' := [(1, .int (0 : Int32)), (0, .ref (E.2.1 79))]) hx hb dX4_openColumns_9 rfl hl (by decide) rfl (fun ls hl => ?_)
  refine lv_iconst (v := (0 : Int32)) hx hb dX4_openColumns_10 (by decide) ?_
  refine lv_istore_n (lv' := [(2, .int (0 : Int32)), (1, .int (0 : Int32)), (0, .ref (E.2.1 79))]) hx hb dX4_openColumns_11 rfl hl (by decide) rfl (fun ls hl => ?_)
  exact J12 _ _ _ _ _ _ _ h hW hS (lv_sub hl [2, 1, 0] rfl)
noncomputable def fX4_isColumn (p0 : Int32) (w : Wd) : Option (Int32 × Wd) :=
  if p0 < (5 : Int32) then zr (0 : Int32) w else zr (1 : Int32) w
abbrev rmX4_isColumn : Room := { frames := 0, cells := 0, slots := 0, locals := 0 }
set_option maxHeartbeats 4000000 in
set_option maxRecDepth 100000 in
theorem kX4_isColumn (l : Launch) (E : Ev) (p0 : Int32) (w : Wd) (q : Int32 × Wd) (h : fX4_isColumn p0 w = some q) : CtI l yX4_isColumn wsX4_isColumn rmX4_isColumn E full [.int p0] w q := by
  refine mkZ (cc := cX4_isColumn) (maxL := 1) (by decide) rfl (Nat.le_of_ble_eq_true rfl) ?_
  intro p e s m args below meth c Q S hW hQ ls hl
  obtain ⟨hx, hb, hml, hown, hts⟩ := id S
  have hW0 := hW
  have hS : va_S (wA E full) s.heap s.heap [] := va_S.rf
  have hl : lv_has ls 1 [(0, .int p0)] := hl
  unfold fX4_isColumn at h
  refine lv_iload_n hx hb dX4_isColumn_0 rfl (lv_at hl 0 rfl) ?_
  refine lv_iconst (v := (5 : Int32)) hx hb dX4_isColumn_1 (by decide) ?_
  refine rb_icmp_lt (tgt := 9) hx hb h dX4_isColumn_2 (by decide) (fun h => ?_) (fun h => ?_)
  · refine lv_iconst (v := (0 : Int32)) hx hb dX4_isColumn_9 (by decide) ?_
    exact rrZ hQ hW hS h dX4_isColumn_10
  · refine lv_iconst (v := (1 : Int32)) hx hb dX4_isColumn_5 (by decide) ?_
    refine lv_goto (tgt := 10) hx hb dX4_isColumn_6 (by decide) ?_
    exact rrZ hQ hW hS h dX4_isColumn_10
noncomputable def fX4_passes (p1 : Int32) (p2 : Int32) (w : Wd) : Option (Int32 × Wd) :=
  if p1 = 0 then (gI w 83 p2).bind fun x1 => (gI w 85 p2).bind fun x2 => if x2 ≤ x1 then zr (0 : Int32) w else zr (1 : Int32) w else (gI w 83 p2).bind fun x3 => (gI w 84 p2).bind fun x4 => if x3 ≤ x4 then zr (0 : Int32) w else zr (1 : Int32) w
abbrev rmX4_passes : Room := { frames := 0, cells := 0, slots := 0, locals := 0 }
set_option maxHeartbeats 4000000 in
set_option maxRecDepth 100000 in
theorem kX4_passes (l : Launch) (E : Ev) (p1 : Int32) (p2 : Int32) (w : Wd) (q : Int32 × Wd) (h : fX4_passes p1 p2 w = some q) : CtI l yX4_passes wsX4_passes rmX4_passes E full [.ref (E.2.1 79), .int p1, .int p2] w q := by
  refine mkZ (cc := cX4_passes) (maxL := 3) (by decide) rfl (Nat.le_of_ble_eq_true rfl) ?_
  intro p e s m args below meth c Q S hW hQ ls hl
  obtain ⟨hx, hb, hml, hown, hts⟩ := id S
  have hW0 := hW
  have hS : va_S (wA E full) s.heap s.heap [] := va_S.rf
  have hl : lv_has ls 3 [(0, .ref (E.2.1 79)), (1, .int p1), (2, .int p2)] := hl
  have iX4 : ∀ w ∈ wsX40, w ∈ wsX4_passes := by decide +kernel
  have e18 := hts (.fieldLink RX4 18 "CubeHeaps$Sums" "made" "[I") (by decide +kernel)
  have e22 := hts (.fieldLink RX4 22 "CubeHeaps$Sums" "low" "[I") (by decide +kernel)
  have e25 := hts (.fieldLink RX4 25 "CubeHeaps$Sums" "high" "[I") (by decide +kernel)
  unfold fX4_passes at h
  refine lv_iload_n hx hb dX4_passes_0 rfl (lv_at hl 1 rfl) ?_
  refine rb_if_eq (tgt := 27) hx hb h dX4_passes_1 (by decide) (fun h => ?_) (fun h => ?_)
  · refine lv_aload_n hx hb dX4_passes_27 rfl (lv_at hl 0 rfl) ?_
    refine rw_get hx hb hts iX4 hown hW (fl 79 rfl) rfl rfl 3 (by decide) e18 rfl (v := .ref (E.2.1 83)) rfl dX4_passes_28 ?_
    refine lv_iload_n hx hb dX4_passes_31 rfl (lv_at hl 2 rfl) ?_
    refine rw_iald hx hb hW (fun _ => (fl 83 rfl)) h dX4_passes_32 (fun x1 h => ?_)
    refine lv_aload_n hx hb dX4_passes_33 rfl (lv_at hl 0 rfl) ?_
    refine rw_get hx hb hts iX4 hown hW (fl 79 rfl) rfl rfl 5 (by decide) e25 rfl (v := .ref (E.2.1 85)) rfl dX4_passes_34 ?_
    refine lv_iload_n hx hb dX4_passes_37 rfl (lv_at hl 2 rfl) ?_
    refine rw_iald hx hb hW (fun _ => (fl 85 rfl)) h dX4_passes_38 (fun x2 h => ?_)
    refine rb_icmp_ge (tgt := 46) hx hb h dX4_passes_39 (by decide) (fun h => ?_) (fun h => ?_)
    · refine lv_iconst (v := (0 : Int32)) hx hb dX4_passes_46 (by decide) ?_
      exact rrZ hQ hW hS h dX4_passes_47
    · refine lv_iconst (v := (1 : Int32)) hx hb dX4_passes_42 (by decide) ?_
      refine lv_goto (tgt := 47) hx hb dX4_passes_43 (by decide) ?_
      exact rrZ hQ hW hS h dX4_passes_47
  · refine lv_aload_n hx hb dX4_passes_4 rfl (lv_at hl 0 rfl) ?_
    refine rw_get hx hb hts iX4 hown hW (fl 79 rfl) rfl rfl 3 (by decide) e18 rfl (v := .ref (E.2.1 83)) rfl dX4_passes_5 ?_
    refine lv_iload_n hx hb dX4_passes_8 rfl (lv_at hl 2 rfl) ?_
    refine rw_iald hx hb hW (fun _ => (fl 83 rfl)) h dX4_passes_9 (fun x3 h => ?_)
    refine lv_aload_n hx hb dX4_passes_10 rfl (lv_at hl 0 rfl) ?_
    refine rw_get hx hb hts iX4 hown hW (fl 79 rfl) rfl rfl 4 (by decide) e22 rfl (v := .ref (E.2.1 84)) rfl dX4_passes_11 ?_
    refine lv_iload_n hx hb dX4_passes_14 rfl (lv_at hl 2 rfl) ?_
    refine rw_iald hx hb hW (fun _ => (fl 84 rfl)) h dX4_passes_15 (fun x4 h => ?_)
    refine rb_icmp_le (tgt := 23) hx hb h dX4_passes_16 (by decide) (fun h => ?_) (fun h => ?_)
    · refine lv_iconst (v := (0 : Int32)) hx hb dX4_passes_23 (by decide) ?_
      refine lv_goto (tgt := 47) hx hb dX4_passes_24 (by decide) ?_
      exact rrZ hQ hW hS h dX4_passes_47
    · refine lv_iconst (v := (1 : Int32)) hx hb dX4_passes_19 (by decide) ?_
      refine lv_goto (tgt := 47) hx hb dX4_passes_20 (by decide) ?_
      exact rrZ hQ hW hS h dX4_passes_47
noncomputable def jX4_findOpen_192 (p1 : Int32) (k26 : Int32 → Int32 → Wd → Option (Int32 × Wd)) (k83 : Int32 → Int32 → Int32 → Int32 → Int32 → Int32 → Int32 → Wd → Option (Int32 × Wd)) (v2 : Int32) (v3 : Int32) (v4 : Int32) (v5 : Int32) (v6 : Int32) (v7 : Int32) (v8 : Int32)  (w : Wd) : Option (Int32 × Wd) :=
  k83 v2 v3 v4 v5 v6 v7 (v8 + (1 : Int32)) w
noncomputable def bX4_findOpen_83 (p1 : Int32) (k26 : Int32 → Int32 → Wd → Option (Int32 × Wd)) (k83 : Int32 → Int32 → Int32 → Int32 → Int32 → Int32 → Int32 → Wd → Option (Int32 × Wd)) (v2 : Int32) (v3 : Int32) (v4 : Int32) (v5 : Int32) (v6 : Int32) (v7 : Int32) (v8 : Int32)  (w : Wd) : Option (Int32 × Wd) :=
  bnd (fX2_length v5 w) fun x7 w8 => if x7 ≤ v8 then k26 v2 (v3 + (1 : Int32)) w8 else bnd (fX2_onLine v5 v6 v8 w8) fun x9 w10 => (gI w10 87 (v7 + v8)).bind fun x11 => if x11 = (-1 : Int32) then if (10 : Int32) ≤ v2 then jX4_findOpen_192 p1 k26 k83 v2 v3 v4 v5 v6 v7 v8 w10 else bnd (fX4_passes v5 x9 w10) fun x12 w13 => if x12 = 0 then jX4_findOpen_192 p1 k26 k83 v2 v3 v4 v5 v6 v7 v8 w13 else (sI w13 87 (v7 + v8) v4).bind fun w14 => (sI w14 88 (v7 + v8) x9).bind fun w15 => (gI w15 86 (v7 + v8)).bind fun x16 => if x16 ≤ 0 then (sI w15 89 v2 (v7 + v8)).bind fun w17 => jX4_findOpen_192 p1 k26 k83 (v2 + (1 : Int32)) v3 v4 v5 v6 v7 v8 w17 else some ((v7 + v8), w15) else jX4_findOpen_192 p1 k26 k83 v2 v3 v4 v5 v6 v7 v8 w10
noncomputable def jX4_findOpen_78 (p1 : Int32) (k26 : Int32 → Int32 → Wd → Option (Int32 × Wd)) (v2 : Int32) (v3 : Int32) (v4 : Int32) (v5 : Int32) (v6 : Int32) (s0 : Int32)  (w : Wd) : Option (Int32 × Wd) :=
  lp (fun _ _ _ _ _ _ _ _ => none) (bX4_findOpen_83 p1 k26) G v2 v3 v4 v5 v6 s0 (0 : Int32) w
noncomputable def jX4_findOpen_66 (p1 : Int32) (k26 : Int32 → Int32 → Wd → Option (Int32 × Wd)) (v2 : Int32) (v3 : Int32) (v4 : Int32) (v5 : Int32) (s0 : Int32)  (w : Wd) : Option (Int32 × Wd) :=
  if v5 = 0 then jX4_findOpen_78 p1 k26 v2 v3 v4 v5 s0 (5 : Int32) w else jX4_findOpen_78 p1 k26 v2 v3 v4 v5 s0 (0 : Int32) w
noncomputable def bX4_findOpen_26 (p1 : Int32) (k26 : Int32 → Int32 → Wd → Option (Int32 × Wd)) (v2 : Int32) (v3 : Int32)  (w : Wd) : Option (Int32 × Wd) :=
  if v2 ≤ v3 then some ((-1 : Int32), w) else if (10 : Int32) ≤ v3 then some ((-1 : Int32), w) else (gI w 89 v3).bind fun x4 => bnd (fX4_isColumn x4 w) fun x5 w6 => if x5 = 0 then jX4_findOpen_66 p1 k26 v2 v3 x4 x5 x4 w6 else jX4_findOpen_66 p1 k26 v2 v3 x4 x5 (x4 - (5 : Int32)) w6
noncomputable def fX4_findOpen (p1 : Int32) (w : Wd) : Option (Int32 × Wd) :=
  bnd (fJ7_fill_53178 87 (-1 : Int32) w) fun _ w1 => (sI w1 87 p1 p1).bind fun w2 => (sI w2 89 (0 : Int32) p1).bind fun w3 => lp (fun _ _ _ => none) (bX4_findOpen_26 p1) G (1 : Int32) (0 : Int32) w3
abbrev rmX4_findOpen : Room := { frames := 1, cells := 0, slots := 0, locals := 23 }
set_option maxHeartbeats 4000000 in
set_option maxRecDepth 100000 in
theorem kX4_findOpen (l : Launch) (E : Ev) (p1 : Int32) (w : Wd) (q : Int32 × Wd) (h : fX4_findOpen p1 w = some q) : CtI l yX4_findOpen wsX4_findOpen rmX4_findOpen E full [.ref (E.2.1 79), .int p1] w q := by
  refine mkI (cc := cX4_findOpen) (maxL := 11) (by decide) rfl (Nat.le_of_ble_eq_true rfl) ?_
  intro p e s m args below meth c Q S hW hQ ls hl
  obtain ⟨hx, hb, hml, hown, hts⟩ := id S
  have hW0 := hW
  have hS : va_S (wA E full) s.heap s.heap [] := va_S.rf
  have hl : lv_has ls 11 [(0, .ref (E.2.1 79)), (1, .int p1)] := hl
  have iX4 : ∀ w ∈ wsX40, w ∈ wsX4_findOpen := by decide +kernel
  have e28 := hts (.fieldLink RX4 28 "CubeHeaps$Sums" "open" "[I") (by decide +kernel)
  have e31 := hts (.fieldLink RX4 31 "CubeHeaps$Sums" "cameFrom" "[I") (by decide +kernel)
  have e34 := hts (.fieldLink RX4 34 "CubeHeaps$Sums" "cameOver" "[I") (by decide +kernel)
  have e37 := hts (.fieldLink RX4 37 "CubeHeaps$Sums" "waiting" "[I") (by decide +kernel)
  have e40 := hts (.fieldLink RX4 40 "CubeHeaps$Sums" "ground" "LCubeHeaps$Ground;") (by decide +kernel)
  have J26 : ∀ (n : Nat) (v2 : Int32) (v3 : Int32) (w : Wd) (H : Heap) (locs : List Loc) (ls : Array Slot), lp (fun _ _ _ => none) (bX4_findOpen_26 p1) n v2 v3 w = some q → World E full w s H → va_S (wA E full) s.heap H locs → lv_has ls 11 [(0, .ref (E.2.1 79)), (2, .int v2), (3, .int v3)] → W p l e rmX4_findOpen s m args below meth c H locs 0 0 Q (F0 m 26 ls []) := by
    intro n
    induction n with
    | zero =>
      intro v2 v3 w H locs ls h hW hS hl
      exact absurd (show (none : Option (Int32 × Wd)) = some q from h) (fun z => by cases z)
    | succ n ih26 =>
      intro v2 v3 w H locs ls h hW hS hl
      have h : bX4_findOpen_26 p1 (lp (fun _ _ _ => none) (bX4_findOpen_26 p1) n) v2 v3 w = some q := h
      generalize lp (fun _ _ _ => none) (bX4_findOpen_26 p1) n = k26 at h ih26
      have J83 : ∀ (n : Nat) (v2 : Int32) (v3 : Int32) (v4 : Int32) (v5 : Int32) (v6 : Int32) (v7 : Int32) (v8 : Int32) (w : Wd) (H : Heap) (locs : List Loc) (ls : Array Slot), lp (fun _ _ _ _ _ _ _ _ => none) (bX4_findOpen_83 p1 k26) n v2 v3 v4 v5 v6 v7 v8 w = some q → World E full w s H → va_S (wA E full) s.heap H locs → lv_has ls 11 [(0, .ref (E.2.1 79)), (2, .int v2), (3, .int v3), (4, .int v4), (5, .int v5), (6, .int v6), (7, .int v7), (8, .int v8)] → W p l e rmX4_findOpen s m args below meth c H locs 0 0 Q (F0 m 83 ls []) := by
        intro n
        induction n with
        | zero =>
          intro v2 v3 v4 v5 v6 v7 v8 w H locs ls h hW hS hl
          exact absurd (show (none : Option (Int32 × Wd)) = some q from h) (fun z => by cases z)
        | succ n ih83 =>
          intro v2 v3 v4 v5 v6 v7 v8 w H locs ls h hW hS hl
          have h : bX4_findOpen_83 p1 k26 (lp (fun _ _ _ _ _ _ _ _ => none) (bX4_findOpen_83 p1 k26) n) v2 v3 v4 v5 v6 v7 v8 w = some q := h
          generalize lp (fun _ _ _ _ _ _ _ _ => none) (bX4_findOpen_83 p1 k26) n = k83 at h ih83
          have J192 : ∀ (v2 : Int32) (v3 : Int32) (v4 : Int32) (v5 : Int32) (v6 : Int32) (v7 : Int32) (v8 : Int32) (w : Wd) (H : Heap) (locs : List Loc) (ls : Array Slot), jX4_findOpen_192 p1 k26 k83 v2 v3 v4 v5 v6 v7 v8 w = some q → World E full w s H → va_S (wA E full) s.heap H locs → lv_has ls 11 [(0, .ref (E.2.1 79)), (2, .int v2), (3, .int v3), (4, .int v4), (5, .int v5), (6, .int v6), (7, .int v7), (8, .int v8)] → W p l e rmX4_findOpen s m args below meth c H locs 0 0 Q (F0 m 192 ls []) := by
            intro v2 v3 v4 v5 v6 v7 v8 w H locs ls h hW hS hl
            unfold jX4_findOpen_192 at h
            refine lv_iinc (v := (v8 + (1 : Int32))) (lv' := [(8, .int (v8 + (1 : Int32))), (0, .ref (E.2.1 79)), (2, .int v2), (3, .int v3), (4, .int v4), (5, .int v5), (6, .int v6), (7, .int v7)]) hx hb dX4_findOpen_192 hl (k := 7) rfl rfl (by decide) rfl (fun ls hl => ?_)
            refine lv_goto (tgt := 83) hx hb dX4_findOpen_195 (by decide) ?_
            exact ih83 _ _ _ _ _ _ _ _ _ _ _ h hW hS (lv_sub hl [1, 2, 3, 4, 5, 6, 7, 0] rfl)
          unfold bX4_findOpen_83 at h
          refine lv_iload hx hb dX4_findOpen_83 (lv_at hl 7 rfl) ?_
          refine lv_aload_n hx hb dX4_findOpen_85 rfl (lv_at hl 0 rfl) ?_
          refine rw_get hx hb hts iX4 hown hW (fl 79 rfl) rfl rfl 0 (by decide) e40 rfl (v := .ref (E.2.1 1)) rfl dX4_findOpen_86 ?_
          refine lv_iload hx hb dX4_findOpen_89 (lv_at hl 4 rfl) ?_
          refine rc_Vi (k := 1) (As := [.int v5]) (rest := [.int v8]) S hW hS h (kX2_length l E v5 w) (cwV 1 hts gX4_findOpen_X2_length rfl rfl rfl hdX2_length ⟨Nat.le_of_ble_eq_true rfl, Nat.le_of_ble_eq_true rfl⟩) (fl 1 rfl) rfl rfl rfl rfl hl.1 rfl (Nat.le_of_ble_eq_true rfl) ⟨Nat.zero_le _, Nat.zero_le _⟩ dX4_findOpen_91 (fun x7 w8 H locs h hW hS => ?_)
          refine rb_icmp_ge (tgt := 198) hx hb h dX4_findOpen_94 (by decide) (fun h => ?_) (fun h => ?_)
          · refine lv_iinc (v := (v3 + (1 : Int32))) (lv' := [(3, .int (v3 + (1 : Int32))), (0, .ref (E.2.1 79)), (2, .int v2), (4, .int v4), (5, .int v5), (6, .int v6), (7, .int v7), (8, .int v8)]) hx hb dX4_findOpen_198 hl (k := 2) rfl rfl (by decide) rfl (fun ls hl => ?_)
            refine lv_goto (tgt := 26) hx hb dX4_findOpen_201 (by decide) ?_
            exact ih26 _ _ _ _ _ _ h hW hS (lv_sub hl [1, 2, 0] rfl)
          · refine lv_iload hx hb dX4_findOpen_97 (lv_at hl 6 rfl) ?_
            refine lv_iload hx hb dX4_findOpen_99 (lv_at hl 7 rfl) ?_
            refine lv_iadd hx hb dX4_findOpen_101 ?_
            refine lv_istore (lv' := [(9, .int (v7 + v8)), (0, .ref (E.2.1 79)), (2, .int v2), (3, .int v3), (4, .int v4), (5, .int v5), (6, .int v6), (7, .int v7), (8, .int v8)]) hx hb dX4_findOpen_102 hl (by decide) rfl (fun ls hl => ?_)
            refine lv_aload_n hx hb dX4_findOpen_104 rfl (lv_at hl 1 rfl) ?_
            refine rw_get hx hb hts iX4 hown hW (fl 79 rfl) rfl rfl 0 (by decide) e40 rfl (v := .ref (E.2.1 1)) rfl dX4_findOpen_105 ?_
            refine lv_iload hx hb dX4_findOpen_108 (lv_at hl 5 rfl) ?_
            refine lv_iload hx hb dX4_findOpen_110 (lv_at hl 6 rfl) ?_
            refine lv_iload hx hb dX4_findOpen_112 (lv_at hl 8 rfl) ?_
            refine rc_Vi (k := 1) (As := [.int v5, .int v6, .int v8]) (rest := []) S hW hS h (kX2_onLine l E v5 v6 v8 w8) (cwV 3 hts gX4_findOpen_X2_onLine rfl rfl rfl hdX2_onLine ⟨Nat.le_of_ble_eq_true rfl, Nat.le_of_ble_eq_true rfl⟩) (fl 1 rfl) rfl rfl rfl rfl hl.1 rfl (Nat.le_of_ble_eq_true rfl) ⟨Nat.zero_le _, Nat.zero_le _⟩ dX4_findOpen_114 (fun x9 w10 H locs h hW hS => ?_)
            refine lv_istore (lv' := [(10, .int x9), (9, .int (v7 + v8)), (0, .ref (E.2.1 79)), (2, .int v2), (3, .int v3), (4, .int v4), (5, .int v5), (6, .int v6), (7, .int v7), (8, .int v8)]) hx hb dX4_findOpen_117 hl (by decide) rfl (fun ls hl => ?_)
            refine lv_aload_n hx hb dX4_findOpen_119 rfl (lv_at hl 2 rfl) ?_
            refine rw_get hx hb hts iX4 hown hW (fl 79 rfl) rfl rfl 7 (by decide) e31 rfl (v := .ref (E.2.1 87)) rfl dX4_findOpen_120 ?_
            refine lv_iload hx hb dX4_findOpen_123 (lv_at hl 1 rfl) ?_
            refine rw_iald hx hb hW (fun _ => (fl 87 rfl)) h dX4_findOpen_125 (fun x11 h => ?_)
            refine lv_iconst (v := (-1 : Int32)) hx hb dX4_findOpen_126 (by decide) ?_
            refine rb_icmp_ne (tgt := 192) hx hb h dX4_findOpen_127 (by decide) (fun h => ?_) (fun h => ?_)
            · exact J192 _ _ _ _ _ _ _ _ _ _ _ h hW hS (lv_sub hl [2, 3, 4, 5, 6, 7, 8, 9] rfl)
            · refine lv_iload_n hx hb dX4_findOpen_130 rfl (lv_at hl 3 rfl) ?_
              refine lv_bipush (v := (10 : Int32)) hx hb dX4_findOpen_131 (by decide) ?_
              refine rb_icmp_ge (tgt := 192) hx hb h dX4_findOpen_133 (by decide) (fun h => ?_) (fun h => ?_)
              · exact J192 _ _ _ _ _ _ _ _ _ _ _ h hW hS (lv_sub hl [2, 3, 4, 5, 6, 7, 8, 9] rfl)
              · refine lv_aload_n hx hb dX4_findOpen_136 rfl (lv_at hl 2 rfl) ?_
                refine lv_iload hx hb dX4_findOpen_137 (lv_at hl 6 rfl) ?_
                refine lv_iload hx hb dX4_findOpen_139 (lv_at hl 0 rfl) ?_
                refine rc_Vi (k := 79) (As := [.int v5, .int x9]) (rest := []) S hW hS h (kX4_passes l E v5 x9 w10) (cwV 2 hts gX4_findOpen_X4_passes rfl rfl rfl hdX4_passes ⟨Nat.le_of_ble_eq_true rfl, Nat.le_of_ble_eq_true rfl⟩) (fl 79 rfl) rfl rfl rfl rfl hl.1 rfl (Nat.le_of_ble_eq_true rfl) ⟨Nat.zero_le _, Nat.zero_le _⟩ dX4_findOpen_141 (fun x12 w13 H locs h hW hS => ?_)
                refine rb_if_ne (tgt := 150) hx hb h dX4_findOpen_144 (by decide) (fun h => ?_) (fun h => ?_)
                · refine lv_aload_n hx hb dX4_findOpen_150 rfl (lv_at hl 2 rfl) ?_
                  refine rw_get hx hb hts iX4 hown hW (fl 79 rfl) rfl rfl 7 (by decide) e31 rfl (v := .ref (E.2.1 87)) rfl dX4_findOpen_151 ?_
                  refine lv_iload hx hb dX4_findOpen_154 (lv_at hl 1 rfl) ?_
                  refine lv_iload hx hb dX4_findOpen_156 (lv_at hl 5 rfl) ?_
                  refine rw_iast hx hb hW hS (fun _ => (fl 87 rfl)) h dX4_findOpen_158 (fun w14 H locs h hW hS => ?_)
                  refine lv_aload_n hx hb dX4_findOpen_159 rfl (lv_at hl 2 rfl) ?_
                  refine rw_get hx hb hts iX4 hown hW (fl 79 rfl) rfl rfl 8 (by decide) e34 rfl (v := .ref (E.2.1 88)) rfl dX4_findOpen_160 ?_
                  refine lv_iload hx hb dX4_findOpen_163 (lv_at hl 1 rfl) ?_
                  refine lv_iload hx hb dX4_findOpen_165 (lv_at hl 0 rfl) ?_
                  refine rw_iast hx hb hW hS (fun _ => (fl 88 rfl)) h dX4_findOpen_167 (fun w15 H locs h hW hS => ?_)
                  refine lv_aload_n hx hb dX4_findOpen_168 rfl (lv_at hl 2 rfl) ?_
                  refine rw_get hx hb hts iX4 hown hW (fl 79 rfl) rfl rfl 6 (by decide) e28 rfl (v := .ref (E.2.1 86)) rfl dX4_findOpen_169 ?_
                  refine lv_iload hx hb dX4_findOpen_172 (lv_at hl 1 rfl) ?_
                  refine rw_iald hx hb hW (fun _ => (fl 86 rfl)) h dX4_findOpen_174 (fun x16 h => ?_)
                  refine rb_if_le (tgt := 181) hx hb h dX4_findOpen_175 (by decide) (fun h => ?_) (fun h => ?_)
                  · refine lv_aload_n hx hb dX4_findOpen_181 rfl (lv_at hl 2 rfl) ?_
                    refine rw_get hx hb hts iX4 hown hW (fl 79 rfl) rfl rfl 9 (by decide) e37 rfl (v := .ref (E.2.1 89)) rfl dX4_findOpen_182 ?_
                    refine lv_iload_n hx hb dX4_findOpen_185 rfl (lv_at hl 3 rfl) ?_
                    refine lv_iinc (v := (v2 + (1 : Int32))) (lv' := [(2, .int (v2 + (1 : Int32))), (10, .int x9), (9, .int (v7 + v8)), (0, .ref (E.2.1 79)), (3, .int v3), (4, .int v4), (5, .int v5), (6, .int v6), (7, .int v7), (8, .int v8)]) hx hb dX4_findOpen_186 hl (k := 3) rfl rfl (by decide) rfl (fun ls hl => ?_)
                    refine lv_iload hx hb dX4_findOpen_189 (lv_at hl 2 rfl) ?_
                    refine rw_iast hx hb hW hS (fun _ => (fl 89 rfl)) h dX4_findOpen_191 (fun w17 H locs h hW hS => ?_)
                    exact J192 _ _ _ _ _ _ _ _ _ _ _ h hW hS (lv_sub hl [3, 0, 4, 5, 6, 7, 8, 9] rfl)
                  · refine lv_iload hx hb dX4_findOpen_178 (lv_at hl 1 rfl) ?_
                    exact rrI hQ hW hS h dX4_findOpen_180
                · refine lv_goto (tgt := 192) hx hb dX4_findOpen_147 (by decide) ?_
                  exact J192 _ _ _ _ _ _ _ _ _ _ _ h hW hS (lv_sub hl [2, 3, 4, 5, 6, 7, 8, 9] rfl)
      have J78 : ∀ (v2 : Int32) (v3 : Int32) (v4 : Int32) (v5 : Int32) (v6 : Int32) (s0 : Int32) (w : Wd) (H : Heap) (locs : List Loc) (ls : Array Slot), jX4_findOpen_78 p1 k26 v2 v3 v4 v5 v6 s0 w = some q → World E full w s H → va_S (wA E full) s.heap H locs → lv_has ls 11 [(0, .ref (E.2.1 79)), (2, .int v2), (3, .int v3), (4, .int v4), (5, .int v5), (6, .int v6)] → W p l e rmX4_findOpen s m args below meth c H locs 0 0 Q (F0 m 78 ls [.int s0]) := by
        intro v2 v3 v4 v5 v6 s0 w H locs ls h hW hS hl
        unfold jX4_findOpen_78 at h
        refine lv_istore (lv' := [(7, .int s0), (0, .ref (E.2.1 79)), (2, .int v2), (3, .int v3), (4, .int v4), (5, .int v5), (6, .int v6)]) hx hb dX4_findOpen_78 hl (by decide) rfl (fun ls hl => ?_)
        refine lv_iconst (v := (0 : Int32)) hx hb dX4_findOpen_80 (by decide) ?_
        refine lv_istore (lv' := [(8, .int (0 : Int32)), (7, .int s0), (0, .ref (E.2.1 79)), (2, .int v2), (3, .int v3), (4, .int v4), (5, .int v5), (6, .int v6)]) hx hb dX4_findOpen_81 hl (by decide) rfl (fun ls hl => ?_)
        exact J83 _ _ _ _ _ _ _ _ _ _ _ _ h hW hS (lv_sub hl [2, 3, 4, 5, 6, 7, 1, 0] rfl)
      have J66 : ∀ (v2 : Int32) (v3 : Int32) (v4 : Int32) (v5 : Int32) (s0 : Int32) (w : Wd) (H : Heap) (locs : List Loc) (ls : Array Slot), jX4_findOpen_66 p1 k26 v2 v3 v4 v5 s0 w = some q → World E full w s H → va_S (wA E full) s.heap H locs → lv_has ls 11 [(0, .ref (E.2.1 79)), (2, .int v2), (3, .int v3), (4, .int v4), (5, .int v5)] → W p l e rmX4_findOpen s m args below meth c H locs 0 0 Q (F0 m 66 ls [.int s0]) := by
        intro v2 v3 v4 v5 s0 w H locs ls h hW hS hl
        unfold jX4_findOpen_66 at h
        refine lv_istore (lv' := [(6, .int s0), (0, .ref (E.2.1 79)), (2, .int v2), (3, .int v3), (4, .int v4), (5, .int v5)]) hx hb dX4_findOpen_66 hl (by decide) rfl (fun ls hl => ?_)
        refine lv_iload hx hb dX4_findOpen_68 (lv_at hl 5 rfl) ?_
        refine rb_if_eq (tgt := 77) hx hb h dX4_findOpen_70 (by decide) (fun h => ?_) (fun h => ?_)
        · refine lv_iconst (v := (5 : Int32)) hx hb dX4_findOpen_77 (by decide) ?_
          exact J78 _ _ _ _ _ _ _ _ _ _ h hW hS (lv_sub hl [1, 2, 3, 4, 5, 0] rfl)
        · refine lv_iconst (v := (0 : Int32)) hx hb dX4_findOpen_73 (by decide) ?_
          refine lv_goto (tgt := 78) hx hb dX4_findOpen_74 (by decide) ?_
          exact J78 _ _ _ _ _ _ _ _ _ _ h hW hS (lv_sub hl [1, 2, 3, 4, 5, 0] rfl)
      unfold bX4_findOpen_26 at h
      refine lv_iload_n hx hb dX4_findOpen_26 rfl (lv_at hl 2 rfl) ?_
      refine lv_iload_n hx hb dX4_findOpen_27 rfl (lv_at hl 1 rfl) ?_
      refine rb_icmp_ge (tgt := 204) hx hb h dX4_findOpen_28 (by decide) (fun h => ?_) (fun h => ?_)
      · refine lv_iconst (v := (-1 : Int32)) hx hb dX4_findOpen_204 (by decide) ?_
        exact rrI hQ hW hS h dX4_findOpen_205
      · refine lv_iload_n hx hb dX4_findOpen_31 rfl (lv_at hl 2 rfl) ?_
        refine lv_bipush (v := (10 : Int32)) hx hb dX4_findOpen_32 (by decide) ?_
        refine rb_icmp_ge (tgt := 204) hx hb h dX4_findOpen_34 (by decide) (fun h => ?_) (fun h => ?_)
        · refine lv_iconst (v := (-1 : Int32)) hx hb dX4_findOpen_204 (by decide) ?_
          exact rrI hQ hW hS h dX4_findOpen_205
        · refine lv_aload_n hx hb dX4_findOpen_37 rfl (lv_at hl 0 rfl) ?_
          refine rw_get hx hb hts iX4 hown hW (fl 79 rfl) rfl rfl 9 (by decide) e37 rfl (v := .ref (E.2.1 89)) rfl dX4_findOpen_38 ?_
          refine lv_iload_n hx hb dX4_findOpen_41 rfl (lv_at hl 2 rfl) ?_
          refine rw_iald hx hb hW (fun _ => (fl 89 rfl)) h dX4_findOpen_42 (fun x4 h => ?_)
          refine lv_istore (lv' := [(4, .int x4), (0, .ref (E.2.1 79)), (2, .int v2), (3, .int v3)]) hx hb dX4_findOpen_43 hl (by decide) rfl (fun ls hl => ?_)
          refine lv_iload hx hb dX4_findOpen_45 (lv_at hl 0 rfl) ?_
          refine rc_Si (As := [.int x4]) (rest := []) S hW hS h (kX4_isColumn l E x4 w) (va_cwS 1 hts gX4_findOpen_X4_isColumn rfl rfl rfl hdX4_isColumn ⟨Nat.le_of_ble_eq_true rfl, Nat.le_of_ble_eq_true rfl⟩) rfl hl.1 rfl (Nat.le_of_ble_eq_true rfl) ⟨Nat.zero_le _, Nat.zero_le _⟩ dX4_findOpen_47 (fun x5 w6 H locs h hW hS => ?_)
          refine lv_istore (lv' := [(5, .int x5), (4, .int x4), (0, .ref (E.2.1 79)), (2, .int v2), (3, .int v3)]) hx hb dX4_findOpen_50 hl (by decide) rfl (fun ls hl => ?_)
          refine lv_iload hx hb dX4_findOpen_52 (lv_at hl 0 rfl) ?_
          refine rb_if_eq (tgt := 64) hx hb h dX4_findOpen_54 (by decide) (fun h => ?_) (fun h => ?_)
          · refine lv_iload hx hb dX4_findOpen_64 (lv_at hl 1 rfl) ?_
            exact J66 _ _ _ _ _ _ _ _ _ h hW hS (lv_sub hl [2, 3, 4, 1, 0] rfl)
          · refine lv_iload hx hb dX4_findOpen_57 (lv_at hl 1 rfl) ?_
            refine lv_iconst (v := (5 : Int32)) hx hb dX4_findOpen_59 (by decide) ?_
            refine lv_isub hx hb dX4_findOpen_60 ?_
            refine lv_goto (tgt := 66) hx hb dX4_findOpen_61 (by decide) ?_
            exact J66 _ _ _ _ _ _ _ _ _ h hW hS (lv_sub hl [2, 3, 4, 1, 0] rfl)
  unfold fX4_findOpen at h
  refine lv_aload_n hx hb dX4_findOpen_0 rfl (lv_at hl 0 rfl) ?_
  refine rw_get hx hb hts iX4 hown hW (fl 79 rfl) rfl rfl 7 (by decide) e31 rfl (v := .ref (E.2.1 87)) rfl dX4_findOpen_1 ?_
  refine lv_iconst (v := (-1 : Int32)) hx hb dX4_findOpen_4 (by decide) ?_
  refine rc_Sv (As := [.ref (E.2.1 87), .int (-1 : Int32)]) (rest := []) S hW hS h (kJ7_fill_53178 l E full 87 (-1 : Int32) LI_full w) (va_cwS 2 hts gX4_findOpen_J7_fill_53178 rfl rfl rfl hdJ7_fill_53178 ⟨Nat.le_of_ble_eq_true rfl, Nat.le_of_ble_eq_true rfl⟩) rfl hl.1 rfl (Nat.le_of_ble_eq_true rfl) ⟨Nat.zero_le _, Nat.zero_le _⟩ dX4_findOpen_5 (fun _ w1 H locs h hW hS => ?_)
  refine lv_aload_n hx hb dX4_findOpen_8 rfl (lv_at hl 0 rfl) ?_
  refine rw_get hx hb hts iX4 hown hW (fl 79 rfl) rfl rfl 7 (by decide) e31 rfl (v := .ref (E.2.1 87)) rfl dX4_findOpen_9 ?_
  refine lv_iload_n hx hb dX4_findOpen_12 rfl (lv_at hl 1 rfl) ?_
  refine lv_iload_n hx hb dX4_findOpen_13 rfl (lv_at hl 1 rfl) ?_
  refine rw_iast hx hb hW hS (fun _ => (fl 87 rfl)) h dX4_findOpen_14 (fun w2 H locs h hW hS => ?_)
  refine lv_aload_n hx hb dX4_findOpen_15 rfl (lv_at hl 0 rfl) ?_
  refine rw_get hx hb hts iX4 hown hW (fl 79 rfl) rfl rfl 9 (by decide) e37 rfl (v := .ref (E.2.1 89)) rfl dX4_findOpen_16 ?_
  refine lv_iconst (v := (0 : Int32)) hx hb dX4_findOpen_19 (by decide) ?_
  refine lv_iload_n hx hb dX4_findOpen_20 rfl (lv_at hl 1 rfl) ?_
  refine rw_iast hx hb hW hS (fun _ => (fl 89 rfl)) h dX4_findOpen_21 (fun w3 H locs h hW hS => ?_)
  refine lv_iconst (v := (1 : Int32)) hx hb dX4_findOpen_22 (by decide) ?_
  refine lv_istore_n (lv' := [(2, .int (1 : Int32)), (0, .ref (E.2.1 79)), (1, .int p1)]) hx hb dX4_findOpen_23 rfl hl (by decide) rfl (fun ls hl => ?_)
  refine lv_iconst (v := (0 : Int32)) hx hb dX4_findOpen_24 (by decide) ?_
  refine lv_istore_n (lv' := [(3, .int (0 : Int32)), (2, .int (1 : Int32)), (0, .ref (E.2.1 79)), (1, .int p1)]) hx hb dX4_findOpen_25 rfl hl (by decide) rfl (fun ls hl => ?_)
  exact J26 _ _ _ _ _ _ _ h hW hS (lv_sub hl [2, 1, 0] rfl)
noncomputable def jX4_push_69 (p1 : Int32) (k28 : Int32 → Int32 → Wd → Option (Int32 × Wd)) (v3 : Int32) (v4 : Int32) (s0 : Int32) (s1 : Int32) (s2 : Int32)  (w : Wd) : Option (Int32 × Wd) :=
  (sI w 83 s2 (s1 + s0)).bind fun w9 => (gI w9 87 v3).bind fun x10 => k28 x10 (v4 + (1 : Int32)) w9
noncomputable def bX4_push_28 (p1 : Int32) (k28 : Int32 → Int32 → Wd → Option (Int32 × Wd)) (v3 : Int32) (v4 : Int32)  (w : Wd) : Option (Int32 × Wd) :=
  if (10 : Int32) ≤ v4 then zr (1 : Int32) w else if v3 = p1 then zr (1 : Int32) w else if v3 = (-1 : Int32) then zr (1 : Int32) w else (gI w 88 v3).bind fun x5 => (gI w 83 x5).bind fun x6 => bnd (fX4_isColumn v3 w) fun x7 w8 => if x7 = 0 then jX4_push_69 p1 k28 v3 v4 (-1 : Int32) x6 x5 w8 else jX4_push_69 p1 k28 v3 v4 (1 : Int32) x6 x5 w8
noncomputable def fX4_push (p1 : Int32) (w : Wd) : Option (Int32 × Wd) :=
  bnd (fX4_findOpen p1 w) fun x1 w2 => if x1 = (-1 : Int32) then zr (0 : Int32) w2 else (gI w2 86 x1).bind fun x3 => (sI w2 86 x1 (x3 - (1 : Int32))).bind fun w4 => lp (fun _ _ _ => none) (bX4_push_28 p1) G x1 (0 : Int32) w4
abbrev rmX4_push : Room := { frames := 2, cells := 0, slots := 0, locals := 53 }
set_option maxHeartbeats 4000000 in
set_option maxRecDepth 100000 in
theorem kX4_push (l : Launch) (E : Ev) (p1 : Int32) (w : Wd) (q : Int32 × Wd) (h : fX4_push p1 w = some q) : CtI l yX4_push wsX4_push rmX4_push E full [.ref (E.2.1 79), .int p1] w q := by
  refine mkZ (cc := cX4_push) (maxL := 5) (by decide) rfl (Nat.le_of_ble_eq_true rfl) ?_
  intro p e s m args below meth c Q S hW hQ ls hl
  obtain ⟨hx, hb, hml, hown, hts⟩ := id S
  have hW0 := hW
  have hS : va_S (wA E full) s.heap s.heap [] := va_S.rf
  have hl : lv_has ls 5 [(0, .ref (E.2.1 79)), (1, .int p1)] := hl
  have iX4 : ∀ w ∈ wsX40, w ∈ wsX4_push := by decide +kernel
  have e18 := hts (.fieldLink RX4 18 "CubeHeaps$Sums" "made" "[I") (by decide +kernel)
  have e28 := hts (.fieldLink RX4 28 "CubeHeaps$Sums" "open" "[I") (by decide +kernel)
  have e31 := hts (.fieldLink RX4 31 "CubeHeaps$Sums" "cameFrom" "[I") (by decide +kernel)
  have e34 := hts (.fieldLink RX4 34 "CubeHeaps$Sums" "cameOver" "[I") (by decide +kernel)
  have J28 : ∀ (n : Nat) (v3 : Int32) (v4 : Int32) (w : Wd) (H : Heap) (locs : List Loc) (ls : Array Slot), lp (fun _ _ _ => none) (bX4_push_28 p1) n v3 v4 w = some q → World E full w s H → va_S (wA E full) s.heap H locs → lv_has ls 5 [(0, .ref (E.2.1 79)), (1, .int p1), (3, .int v3), (4, .int v4)] → W p l e rmX4_push s m args below meth c H locs 0 0 Q (F0 m 28 ls []) := by
    intro n
    induction n with
    | zero =>
      intro v3 v4 w H locs ls h hW hS hl
      exact absurd (show (none : Option (Int32 × Wd)) = some q from h) (fun z => by cases z)
    | succ n ih28 =>
      intro v3 v4 w H locs ls h hW hS hl
      have h : bX4_push_28 p1 (lp (fun _ _ _ => none) (bX4_push_28 p1) n) v3 v4 w = some q := h
      generalize lp (fun _ _ _ => none) (bX4_push_28 p1) n = k28 at h ih28
      have J69 : ∀ (v3 : Int32) (v4 : Int32) (s0 : Int32) (s1 : Int32) (s2 : Int32) (w : Wd) (H : Heap) (locs : List Loc) (ls : Array Slot), jX4_push_69 p1 k28 v3 v4 s0 s1 s2 w = some q → World E full w s H → va_S (wA E full) s.heap H locs → lv_has ls 5 [(0, .ref (E.2.1 79)), (1, .int p1), (3, .int v3), (4, .int v4)] → W p l e rmX4_push s m args below meth c H locs 0 0 Q (F0 m 69 ls [.int s0, .int s1, .int s2, .ref (E.2.1 83)]) := by
        intro v3 v4 s0 s1 s2 w H locs ls h hW hS hl
        unfold jX4_push_69 at h
        refine lv_iadd hx hb dX4_push_69 ?_
        refine rw_iast hx hb hW hS (fun _ => (fl 83 rfl)) h dX4_push_70 (fun w9 H locs h hW hS => ?_)
        refine lv_aload_n hx hb dX4_push_71 rfl (lv_at hl 0 rfl) ?_
        refine rw_get hx hb hts iX4 hown hW (fl 79 rfl) rfl rfl 7 (by decide) e31 rfl (v := .ref (E.2.1 87)) rfl dX4_push_72 ?_
        refine lv_iload_n hx hb dX4_push_75 rfl (lv_at hl 2 rfl) ?_
        refine rw_iald hx hb hW (fun _ => (fl 87 rfl)) h dX4_push_76 (fun x10 h => ?_)
        refine lv_istore_n (lv' := [(3, .int x10), (0, .ref (E.2.1 79)), (1, .int p1), (4, .int v4)]) hx hb dX4_push_77 rfl hl (by decide) rfl (fun ls hl => ?_)
        refine lv_iinc (v := (v4 + (1 : Int32))) (lv' := [(4, .int (v4 + (1 : Int32))), (3, .int x10), (0, .ref (E.2.1 79)), (1, .int p1)]) hx hb dX4_push_78 hl (k := 3) rfl rfl (by decide) rfl (fun ls hl => ?_)
        refine lv_goto (tgt := 28) hx hb dX4_push_81 (by decide) ?_
        exact ih28 _ _ _ _ _ _ h hW hS (lv_sub hl [2, 3, 1, 0] rfl)
      unfold bX4_push_28 at h
      refine lv_iload hx hb dX4_push_28 (lv_at hl 3 rfl) ?_
      refine lv_bipush (v := (10 : Int32)) hx hb dX4_push_30 (by decide) ?_
      refine rb_icmp_ge (tgt := 84) hx hb h dX4_push_32 (by decide) (fun h => ?_) (fun h => ?_)
      · refine lv_iconst (v := (1 : Int32)) hx hb dX4_push_84 (by decide) ?_
        exact rrZ hQ hW hS h dX4_push_85
      · refine lv_iload_n hx hb dX4_push_35 rfl (lv_at hl 2 rfl) ?_
        refine lv_iload_n hx hb dX4_push_36 rfl (lv_at hl 1 rfl) ?_
        refine rb_icmp_eq (tgt := 84) hx hb h dX4_push_37 (by decide) (fun h => ?_) (fun h => ?_)
        · refine lv_iconst (v := (1 : Int32)) hx hb dX4_push_84 (by decide) ?_
          exact rrZ hQ hW hS h dX4_push_85
        · refine lv_iload_n hx hb dX4_push_40 rfl (lv_at hl 2 rfl) ?_
          refine lv_iconst (v := (-1 : Int32)) hx hb dX4_push_41 (by decide) ?_
          refine rb_icmp_eq (tgt := 84) hx hb h dX4_push_42 (by decide) (fun h => ?_) (fun h => ?_)
          · refine lv_iconst (v := (1 : Int32)) hx hb dX4_push_84 (by decide) ?_
            exact rrZ hQ hW hS h dX4_push_85
          · refine lv_aload_n hx hb dX4_push_45 rfl (lv_at hl 0 rfl) ?_
            refine rw_get hx hb hts iX4 hown hW (fl 79 rfl) rfl rfl 3 (by decide) e18 rfl (v := .ref (E.2.1 83)) rfl dX4_push_46 ?_
            refine lv_aload_n hx hb dX4_push_49 rfl (lv_at hl 0 rfl) ?_
            refine rw_get hx hb hts iX4 hown hW (fl 79 rfl) rfl rfl 8 (by decide) e34 rfl (v := .ref (E.2.1 88)) rfl dX4_push_50 ?_
            refine lv_iload_n hx hb dX4_push_53 rfl (lv_at hl 2 rfl) ?_
            refine rw_iald hx hb hW (fun _ => (fl 88 rfl)) h dX4_push_54 (fun x5 h => ?_)
            refine lv_dup2_11 hx hb dX4_push_55 rfl rfl ?_
            refine rw_iald hx hb hW (fun _ => (fl 83 rfl)) h dX4_push_56 (fun x6 h => ?_)
            refine lv_iload_n hx hb dX4_push_57 rfl (lv_at hl 2 rfl) ?_
            refine rc_Si (As := [.int v3]) (rest := [.int x6, .int x5, .ref (E.2.1 83)]) S hW hS h (kX4_isColumn l E v3 w) (va_cwS 1 hts gX4_push_X4_isColumn rfl rfl rfl hdX4_isColumn ⟨Nat.le_of_ble_eq_true rfl, Nat.le_of_ble_eq_true rfl⟩) rfl hl.1 rfl (Nat.le_of_ble_eq_true rfl) ⟨Nat.zero_le _, Nat.zero_le _⟩ dX4_push_58 (fun x7 w8 H locs h hW hS => ?_)
            refine rb_if_eq (tgt := 68) hx hb h dX4_push_61 (by decide) (fun h => ?_) (fun h => ?_)
            · refine lv_iconst (v := (-1 : Int32)) hx hb dX4_push_68 (by decide) ?_
              exact J69 _ _ _ _ _ _ _ _ _ h hW hS (hl)
            · refine lv_iconst (v := (1 : Int32)) hx hb dX4_push_64 (by decide) ?_
              refine lv_goto (tgt := 69) hx hb dX4_push_65 (by decide) ?_
              exact J69 _ _ _ _ _ _ _ _ _ h hW hS (hl)
  unfold fX4_push at h
  refine lv_aload_n hx hb dX4_push_0 rfl (lv_at hl 0 rfl) ?_
  refine lv_iload_n hx hb dX4_push_1 rfl (lv_at hl 1 rfl) ?_
  refine rc_Vi (k := 79) (As := [.int p1]) (rest := []) S hW hS h (kX4_findOpen l E p1 w) (cwV 1 hts gX4_push_X4_findOpen rfl rfl rfl hdX4_findOpen ⟨Nat.le_of_ble_eq_true rfl, Nat.le_of_ble_eq_true rfl⟩) (fl 79 rfl) rfl rfl rfl rfl hl.1 rfl (Nat.le_of_ble_eq_true rfl) ⟨Nat.zero_le _, Nat.zero_le _⟩ dX4_push_2 (fun x1 w2 H locs h hW hS => ?_)
  refine lv_istore_n (lv' := [(2, .int x1), (0, .ref (E.2.1 79)), (1, .int p1)]) hx hb dX4_push_5 rfl hl (by decide) rfl (fun ls hl => ?_)
  refine lv_iload_n hx hb dX4_push_6 rfl (lv_at hl 0 rfl) ?_
  refine lv_iconst (v := (-1 : Int32)) hx hb dX4_push_7 (by decide) ?_
  refine rb_icmp_ne (tgt := 13) hx hb h dX4_push_8 (by decide) (fun h => ?_) (fun h => ?_)
  · refine lv_aload_n hx hb dX4_push_13 rfl (lv_at hl 1 rfl) ?_
    refine rw_get hx hb hts iX4 hown hW (fl 79 rfl) rfl rfl 6 (by decide) e28 rfl (v := .ref (E.2.1 86)) rfl dX4_push_14 ?_
    refine lv_iload_n hx hb dX4_push_17 rfl (lv_at hl 0 rfl) ?_
    refine lv_dup2_11 hx hb dX4_push_18 rfl rfl ?_
    refine rw_iald hx hb hW (fun _ => (fl 86 rfl)) h dX4_push_19 (fun x3 h => ?_)
    refine lv_iconst (v := (1 : Int32)) hx hb dX4_push_20 (by decide) ?_
    refine lv_isub hx hb dX4_push_21 ?_
    refine rw_iast hx hb hW hS (fun _ => (fl 86 rfl)) h dX4_push_22 (fun w4 H locs h hW hS => ?_)
    refine lv_iload_n hx hb dX4_push_23 rfl (lv_at hl 0 rfl) ?_
    refine lv_istore_n (lv' := [(3, .int x1), (2, .int x1), (0, .ref (E.2.1 79)), (1, .int p1)]) hx hb dX4_push_24 rfl hl (by decide) rfl (fun ls hl => ?_)
    refine lv_iconst (v := (0 : Int32)) hx hb dX4_push_25 (by decide) ?_
    refine lv_istore (lv' := [(4, .int (0 : Int32)), (3, .int x1), (2, .int x1), (0, .ref (E.2.1 79)), (1, .int p1)]) hx hb dX4_push_26 hl (by decide) rfl (fun ls hl => ?_)
    exact J28 _ _ _ _ _ _ _ h hW hS (lv_sub hl [3, 4, 1, 0] rfl)
  · refine lv_iconst (v := (0 : Int32)) hx hb dX4_push_11 (by decide) ?_
    exact rrZ hQ hW hS h dX4_push_12
noncomputable def bX4_makeOne_34 (k15 : Int32 → Wd → Option (Int32 × Wd)) (k34 : Int32 → Int32 → Wd → Option (Int32 × Wd)) (v1 : Int32) (v2 : Int32)  (w : Wd) : Option (Int32 × Wd) :=
  if v2 ≤ 0 then k15 (v1 + (1 : Int32)) w else bnd (fX4_push v1 w) fun x8 w9 => if x8 = 0 then zr (0 : Int32) w9 else k34 v1 (v2 + (-1 : Int32)) w9
noncomputable def bX4_makeOne_15 (k15 : Int32 → Wd → Option (Int32 × Wd)) (v1 : Int32)  (w : Wd) : Option (Int32 × Wd) :=
  bnd (fX2_lines (0 : Int32) w) fun x4 w5 => if x4 ≤ v1 then zr (1 : Int32) w5 else bnd (fX4_missing (0 : Int32) v1 w5) fun x6 w7 => lp (fun _ _ _ => none) (bX4_makeOne_34 k15) G v1 x6 w7
noncomputable def fX4_makeOne  (w : Wd) : Option (Int32 × Wd) :=
  bnd (fX4_startLow w) fun _ w1 => bnd (fX4_openColumns w1) fun x2 w3 => if x2 = 0 then zr (0 : Int32) w3 else lp (fun _ _ => none) (bX4_makeOne_15) G (0 : Int32) w3
abbrev rmX4_makeOne : Room := { frames := 4, cells := 0, slots := 0, locals := 92 }
set_option maxHeartbeats 4000000 in
set_option maxRecDepth 100000 in
theorem kX4_makeOne (l : Launch) (E : Ev)  (w : Wd) (q : Int32 × Wd) (h : fX4_makeOne w = some q) : CtI l yX4_makeOne wsX4_makeOne rmX4_makeOne E full [.ref (E.2.1 79)] w q := by
  refine mkZ (cc := cX4_makeOne) (maxL := 3) (by decide) rfl (Nat.le_of_ble_eq_true rfl) ?_
  intro p e s m args below meth c Q S hW hQ ls hl
  obtain ⟨hx, hb, hml, hown, hts⟩ := id S
  have hW0 := hW
  have hS : va_S (wA E full) s.heap s.heap [] := va_S.rf
  have hl : lv_has ls 3 [(0, .ref (E.2.1 79))] := hl
  have iX4 : ∀ w ∈ wsX40, w ∈ wsX4_makeOne := by decide +kernel
  have e40 := hts (.fieldLink RX4 40 "CubeHeaps$Sums" "ground" "LCubeHeaps$Ground;") (by decide +kernel)
  have J15 : ∀ (n : Nat) (v1 : Int32) (w : Wd) (H : Heap) (locs : List Loc) (ls : Array Slot), lp (fun _ _ => none) (bX4_makeOne_15) n v1 w = some q → World E full w s H → va_S (wA E full) s.heap H locs → lv_has ls 3 [(0, .ref (E.2.1 79)), (1, .int v1)] → W p l e rmX4_makeOne s m args below meth c H locs 0 0 Q (F0 m 15 ls []) := by
    intro n
    induction n with
    | zero =>
      intro v1 w H locs ls h hW hS hl
      exact absurd (show (none : Option (Int32 × Wd)) = some q from h) (fun z => by cases z)
    | succ n ih15 =>
      intro v1 w H locs ls h hW hS hl
      have h : bX4_makeOne_15 (lp (fun _ _ => none) (bX4_makeOne_15) n) v1 w = some q := h
      generalize lp (fun _ _ => none) (bX4_makeOne_15) n = k15 at h ih15
      have J34 : ∀ (n : Nat) (v1 : Int32) (v2 : Int32) (w : Wd) (H : Heap) (locs : List Loc) (ls : Array Slot), lp (fun _ _ _ => none) (bX4_makeOne_34 k15) n v1 v2 w = some q → World E full w s H → va_S (wA E full) s.heap H locs → lv_has ls 3 [(0, .ref (E.2.1 79)), (1, .int v1), (2, .int v2)] → W p l e rmX4_makeOne s m args below meth c H locs 0 0 Q (F0 m 34 ls []) := by
        intro n
        induction n with
        | zero =>
          intro v1 v2 w H locs ls h hW hS hl
          exact absurd (show (none : Option (Int32 × Wd)) = some q from h) (fun z => by cases z)
        | succ n ih34 =>
          intro v1 v2 w H locs ls h hW hS hl
          have h : bX4_makeOne_34 k15 (lp (fun _ _ _ => none) (bX4_makeOne_34 k15) n) v1 v2 w = some q := h
          generalize lp (fun _ _ _ => none) (bX4_makeOne_34 k15) n = k34 at h ih34
          unfold bX4_makeOne_34 at h
          refine lv_iload_n hx hb dX4_makeOne_34 rfl (lv_at hl 2 rfl) ?_
          refine rb_if_le (tgt := 54) hx hb h dX4_makeOne_35 (by decide) (fun h => ?_) (fun h => ?_)
          · refine lv_iinc (v := (v1 + (1 : Int32))) (lv' := [(1, .int (v1 + (1 : Int32))), (0, .ref (E.2.1 79)), (2, .int v2)]) hx hb dX4_makeOne_54 hl (k := 1) rfl rfl (by decide) rfl (fun ls hl => ?_)
            refine lv_goto (tgt := 15) hx hb dX4_makeOne_57 (by decide) ?_
            exact ih15 _ _ _ _ _ h hW hS (lv_sub hl [1, 0] rfl)
          · refine lv_aload_n hx hb dX4_makeOne_38 rfl (lv_at hl 0 rfl) ?_
            refine lv_iload_n hx hb dX4_makeOne_39 rfl (lv_at hl 1 rfl) ?_
            refine rc_Vi (k := 79) (As := [.int v1]) (rest := []) S hW hS h (kX4_push l E v1 w) (cwV 1 hts gX4_makeOne_X4_push rfl rfl rfl hdX4_push ⟨Nat.le_of_ble_eq_true rfl, Nat.le_of_ble_eq_true rfl⟩) (fl 79 rfl) rfl rfl rfl rfl hl.1 rfl (Nat.le_of_ble_eq_true rfl) ⟨Nat.zero_le _, Nat.zero_le _⟩ dX4_makeOne_40 (fun x8 w9 H locs h hW hS => ?_)
            refine rb_if_ne (tgt := 48) hx hb h dX4_makeOne_43 (by decide) (fun h => ?_) (fun h => ?_)
            · refine lv_iinc (v := (v2 + (-1 : Int32))) (lv' := [(2, .int (v2 + (-1 : Int32))), (0, .ref (E.2.1 79)), (1, .int v1)]) hx hb dX4_makeOne_48 hl (k := 2) rfl rfl (by decide) rfl (fun ls hl => ?_)
              refine lv_goto (tgt := 34) hx hb dX4_makeOne_51 (by decide) ?_
              exact ih34 _ _ _ _ _ _ h hW hS (lv_sub hl [1, 2, 0] rfl)
            · refine lv_iconst (v := (0 : Int32)) hx hb dX4_makeOne_46 (by decide) ?_
              exact rrZ hQ hW hS h dX4_makeOne_47
      unfold bX4_makeOne_15 at h
      refine lv_iload_n hx hb dX4_makeOne_15 rfl (lv_at hl 1 rfl) ?_
      refine lv_aload_n hx hb dX4_makeOne_16 rfl (lv_at hl 0 rfl) ?_
      refine rw_get hx hb hts iX4 hown hW (fl 79 rfl) rfl rfl 0 (by decide) e40 rfl (v := .ref (E.2.1 1)) rfl dX4_makeOne_17 ?_
      refine lv_iconst (v := (0 : Int32)) hx hb dX4_makeOne_20 (by decide) ?_
      refine rc_Vi (k := 1) (As := [.int (0 : Int32)]) (rest := [.int v1]) S hW hS h (kX2_lines l E (0 : Int32) w) (cwV 1 hts gX4_makeOne_X2_lines rfl rfl rfl hdX2_lines ⟨Nat.le_of_ble_eq_true rfl, Nat.le_of_ble_eq_true rfl⟩) (fl 1 rfl) rfl rfl rfl rfl hl.1 rfl (Nat.le_of_ble_eq_true rfl) ⟨Nat.zero_le _, Nat.zero_le _⟩ dX4_makeOne_21 (fun x4 w5 H locs h hW hS => ?_)
      refine rb_icmp_ge (tgt := 60) hx hb h dX4_makeOne_24 (by decide) (fun h => ?_) (fun h => ?_)
      · refine lv_iconst (v := (1 : Int32)) hx hb dX4_makeOne_60 (by decide) ?_
        exact rrZ hQ hW hS h dX4_makeOne_61
      · refine lv_aload_n hx hb dX4_makeOne_27 rfl (lv_at hl 0 rfl) ?_
        refine lv_iconst (v := (0 : Int32)) hx hb dX4_makeOne_28 (by decide) ?_
        refine lv_iload_n hx hb dX4_makeOne_29 rfl (lv_at hl 1 rfl) ?_
        refine rc_Vi (k := 79) (As := [.int (0 : Int32), .int v1]) (rest := []) S hW hS h (kX4_missing l E (0 : Int32) v1 w5) (cwV 2 hts gX4_makeOne_X4_missing rfl rfl rfl hdX4_missing ⟨Nat.le_of_ble_eq_true rfl, Nat.le_of_ble_eq_true rfl⟩) (fl 79 rfl) rfl rfl rfl rfl hl.1 rfl (Nat.le_of_ble_eq_true rfl) ⟨Nat.zero_le _, Nat.zero_le _⟩ dX4_makeOne_30 (fun x6 w7 H locs h hW hS => ?_)
        refine lv_istore_n (lv' := [(2, .int x6), (0, .ref (E.2.1 79)), (1, .int v1)]) hx hb dX4_makeOne_33 rfl hl (by decide) rfl (fun ls hl => ?_)
        exact J34 _ _ _ _ _ _ _ h hW hS (lv_sub hl [1, 2, 0] rfl)
  unfold fX4_makeOne at h
  refine lv_aload_n hx hb dX4_makeOne_0 rfl (lv_at hl 0 rfl) ?_
  refine rc_Vv (k := 79) (As := []) (rest := []) S hW hS h (kX4_startLow l E  w) (cwV 0 hts gX4_makeOne_X4_startLow rfl rfl rfl hdX4_startLow ⟨Nat.le_of_ble_eq_true rfl, Nat.le_of_ble_eq_true rfl⟩) (fl 79 rfl) rfl rfl rfl rfl hl.1 rfl (Nat.le_of_ble_eq_true rfl) ⟨Nat.zero_le _, Nat.zero_le _⟩ dX4_makeOne_1 (fun _ w1 H locs h hW hS => ?_)
  refine lv_aload_n hx hb dX4_makeOne_4 rfl (lv_at hl 0 rfl) ?_
  refine rc_Vi (k := 79) (As := []) (rest := []) S hW hS h (kX4_openColumns l E  w1) (cwV 0 hts gX4_makeOne_X4_openColumns rfl rfl rfl hdX4_openColumns ⟨Nat.le_of_ble_eq_true rfl, Nat.le_of_ble_eq_true rfl⟩) (fl 79 rfl) rfl rfl rfl rfl hl.1 rfl (Nat.le_of_ble_eq_true rfl) ⟨Nat.zero_le _, Nat.zero_le _⟩ dX4_makeOne_5 (fun x2 w3 H locs h hW hS => ?_)
  refine rb_if_ne (tgt := 13) hx hb h dX4_makeOne_8 (by decide) (fun h => ?_) (fun h => ?_)
  · refine lv_iconst (v := (0 : Int32)) hx hb dX4_makeOne_13 (by decide) ?_
    refine lv_istore_n (lv' := [(1, .int (0 : Int32)), (0, .ref (E.2.1 79))]) hx hb dX4_makeOne_14 rfl hl (by decide) rfl (fun ls hl => ?_)
    exact J15 _ _ _ _ _ _ h hW hS (lv_sub hl [1, 0] rfl)
  · refine lv_iconst (v := (0 : Int32)) hx hb dX4_makeOne_11 (by decide) ?_
    exact rrZ hQ hW hS h dX4_makeOne_12
noncomputable def jX4_shift_138 (p1 : Int32) (p2 : Int32) (v4 : Int32) (v5 : Int32) (v8 : Int32)  (w : Wd) : Option (Int32 × Wd) :=
  (sI w 84 p1 v4).bind fun w16 => (sI w16 85 p1 v5).bind fun w17 => zr v8 w17
noncomputable def jX4_shift_119 (p1 : Int32) (p2 : Int32) (v3 : Int32) (v4 : Int32) (v5 : Int32) (s0 : Int32)  (w : Wd) : Option (Int32 × Wd) :=
  bnd (fX4_push s0 w) fun x13 w14 => if x13 = 0 then (sI w14 83 p1 (v3 - p2)).bind fun w15 => jX4_shift_138 p1 p2 v4 v5 x13 w15 else jX4_shift_138 p1 p2 v4 v5 x13 w14
noncomputable def jX4_shift_105 (p1 : Int32) (p2 : Int32) (v3 : Int32) (v4 : Int32) (v5 : Int32) (v6 : Int32) (v7 : Int32) (s0 : Int32)  (w : Wd) : Option (Int32 × Wd) :=
  (sI w 86 s0 (1 : Int32)).bind fun w12 => if 0 ≤ p2 then jX4_shift_119 p1 p2 v3 v4 v5 v7 w12 else jX4_shift_119 p1 p2 v3 v4 v5 v6 w12
noncomputable def fX4_shift (p1 : Int32) (p2 : Int32) (w : Wd) : Option (Int32 × Wd) :=
  (gI w 83 p1).bind fun x1 => (gI w 84 p1).bind fun x2 => (gI w 85 p1).bind fun x3 => if (x1 + p2) < x2 then zr (0 : Int32) w else if (x1 + p2) ≤ x3 then (sI w 83 p1 (x1 + p2)).bind fun w4 => (sI w4 84 p1 (x1 + p2)).bind fun w5 => (sI w5 85 p1 (x1 + p2)).bind fun w6 => bnd (fX2_y p1 w6) fun x7 w8 => bnd (fX2_x p1 w8) fun x9 w10 => bnd (fJ7_fill_53178 86 (0 : Int32) w10) fun _ w11 => if 0 ≤ p2 then jX4_shift_105 p1 p2 (x1 + p2) x2 x3 x7 ((5 : Int32) + x9) x7 w11 else jX4_shift_105 p1 p2 (x1 + p2) x2 x3 x7 ((5 : Int32) + x9) ((5 : Int32) + x9) w11 else zr (0 : Int32) w
abbrev rmX4_shift : Room := { frames := 3, cells := 0, slots := 0, locals := 77 }
set_option maxHeartbeats 4000000 in
set_option maxRecDepth 100000 in
theorem kX4_shift (l : Launch) (E : Ev) (p1 : Int32) (p2 : Int32) (w : Wd) (q : Int32 × Wd) (h : fX4_shift p1 p2 w = some q) : CtI l yX4_shift wsX4_shift rmX4_shift E full [.ref (E.2.1 79), .int p1, .int p2] w q := by
  refine mkZ (cc := cX4_shift) (maxL := 9) (by decide) rfl (Nat.le_of_ble_eq_true rfl) ?_
  intro p e s m args below meth c Q S hW hQ ls hl
  obtain ⟨hx, hb, hml, hown, hts⟩ := id S
  have hW0 := hW
  have hS : va_S (wA E full) s.heap s.heap [] := va_S.rf
  have hl : lv_has ls 9 [(0, .ref (E.2.1 79)), (1, .int p1), (2, .int p2)] := hl
  have iX4 : ∀ w ∈ wsX40, w ∈ wsX4_shift := by decide +kernel
  have e18 := hts (.fieldLink RX4 18 "CubeHeaps$Sums" "made" "[I") (by decide +kernel)
  have e22 := hts (.fieldLink RX4 22 "CubeHeaps$Sums" "low" "[I") (by decide +kernel)
  have e25 := hts (.fieldLink RX4 25 "CubeHeaps$Sums" "high" "[I") (by decide +kernel)
  have e28 := hts (.fieldLink RX4 28 "CubeHeaps$Sums" "open" "[I") (by decide +kernel)
  have e40 := hts (.fieldLink RX4 40 "CubeHeaps$Sums" "ground" "LCubeHeaps$Ground;") (by decide +kernel)
  have J138 : ∀ (v4 : Int32) (v5 : Int32) (v8 : Int32) (w : Wd) (H : Heap) (locs : List Loc) (ls : Array Slot), jX4_shift_138 p1 p2 v4 v5 v8 w = some q → World E full w s H → va_S (wA E full) s.heap H locs → lv_has ls 9 [(0, .ref (E.2.1 79)), (1, .int p1), (4, .int v4), (5, .int v5), (8, .int v8)] → W p l e rmX4_shift s m args below meth c H locs 0 0 Q (F0 m 138 ls []) := by
    intro v4 v5 v8 w H locs ls h hW hS hl
    unfold jX4_shift_138 at h
    refine lv_aload_n hx hb dX4_shift_138 rfl (lv_at hl 0 rfl) ?_
    refine rw_get hx hb hts iX4 hown hW (fl 79 rfl) rfl rfl 4 (by decide) e22 rfl (v := .ref (E.2.1 84)) rfl dX4_shift_139 ?_
    refine lv_iload_n hx hb dX4_shift_142 rfl (lv_at hl 1 rfl) ?_
    refine lv_iload hx hb dX4_shift_143 (lv_at hl 2 rfl) ?_
    refine rw_iast hx hb hW hS (fun _ => (fl 84 rfl)) h dX4_shift_145 (fun w16 H locs h hW hS => ?_)
    refine lv_aload_n hx hb dX4_shift_146 rfl (lv_at hl 0 rfl) ?_
    refine rw_get hx hb hts iX4 hown hW (fl 79 rfl) rfl rfl 5 (by decide) e25 rfl (v := .ref (E.2.1 85)) rfl dX4_shift_147 ?_
    refine lv_iload_n hx hb dX4_shift_150 rfl (lv_at hl 1 rfl) ?_
    refine lv_iload hx hb dX4_shift_151 (lv_at hl 3 rfl) ?_
    refine rw_iast hx hb hW hS (fun _ => (fl 85 rfl)) h dX4_shift_153 (fun w17 H locs h hW hS => ?_)
    refine lv_iload hx hb dX4_shift_154 (lv_at hl 4 rfl) ?_
    exact rrZ hQ hW hS h dX4_shift_156
  have J119 : ∀ (v3 : Int32) (v4 : Int32) (v5 : Int32) (s0 : Int32) (w : Wd) (H : Heap) (locs : List Loc) (ls : Array Slot), jX4_shift_119 p1 p2 v3 v4 v5 s0 w = some q → World E full w s H → va_S (wA E full) s.heap H locs → lv_has ls 9 [(0, .ref (E.2.1 79)), (1, .int p1), (2, .int p2), (3, .int v3), (4, .int v4), (5, .int v5)] → W p l e rmX4_shift s m args below meth c H locs 0 0 Q (F0 m 119 ls [.int s0, .ref (E.2.1 79)]) := by
    intro v3 v4 v5 s0 w H locs ls h hW hS hl
    unfold jX4_shift_119 at h
    refine rc_Vi (k := 79) (As := [.int s0]) (rest := []) S hW hS h (kX4_push l E s0 w) (cwV 1 hts gX4_shift_X4_push rfl rfl rfl hdX4_push ⟨Nat.le_of_ble_eq_true rfl, Nat.le_of_ble_eq_true rfl⟩) (fl 79 rfl) rfl rfl rfl rfl hl.1 rfl (Nat.le_of_ble_eq_true rfl) ⟨Nat.zero_le _, Nat.zero_le _⟩ dX4_shift_119 (fun x13 w14 H locs h hW hS => ?_)
    refine lv_istore (lv' := [(8, .int x13), (0, .ref (E.2.1 79)), (1, .int p1), (2, .int p2), (3, .int v3), (4, .int v4), (5, .int v5)]) hx hb dX4_shift_122 hl (by decide) rfl (fun ls hl => ?_)
    refine lv_iload hx hb dX4_shift_124 (lv_at hl 0 rfl) ?_
    refine rb_if_ne (tgt := 138) hx hb h dX4_shift_126 (by decide) (fun h => ?_) (fun h => ?_)
    · exact J138 _ _ _ _ _ _ _ h hW hS (lv_sub hl [1, 2, 5, 6, 0] rfl)
    · refine lv_aload_n hx hb dX4_shift_129 rfl (lv_at hl 1 rfl) ?_
      refine rw_get hx hb hts iX4 hown hW (fl 79 rfl) rfl rfl 3 (by decide) e18 rfl (v := .ref (E.2.1 83)) rfl dX4_shift_130 ?_
      refine lv_iload_n hx hb dX4_shift_133 rfl (lv_at hl 2 rfl) ?_
      refine lv_iload_n hx hb dX4_shift_134 rfl (lv_at hl 4 rfl) ?_
      refine lv_iload_n hx hb dX4_shift_135 rfl (lv_at hl 3 rfl) ?_
      refine lv_isub hx hb dX4_shift_136 ?_
      refine rw_iast hx hb hW hS (fun _ => (fl 83 rfl)) h dX4_shift_137 (fun w15 H locs h hW hS => ?_)
      exact J138 _ _ _ _ _ _ _ h hW hS (lv_sub hl [1, 2, 5, 6, 0] rfl)
  have J105 : ∀ (v3 : Int32) (v4 : Int32) (v5 : Int32) (v6 : Int32) (v7 : Int32) (s0 : Int32) (w : Wd) (H : Heap) (locs : List Loc) (ls : Array Slot), jX4_shift_105 p1 p2 v3 v4 v5 v6 v7 s0 w = some q → World E full w s H → va_S (wA E full) s.heap H locs → lv_has ls 9 [(0, .ref (E.2.1 79)), (1, .int p1), (2, .int p2), (3, .int v3), (4, .int v4), (5, .int v5), (6, .int v6), (7, .int v7)] → W p l e rmX4_shift s m args below meth c H locs 0 0 Q (F0 m 105 ls [.int s0, .ref (E.2.1 86)]) := by
    intro v3 v4 v5 v6 v7 s0 w H locs ls h hW hS hl
    unfold jX4_shift_105 at h
    refine lv_iconst (v := (1 : Int32)) hx hb dX4_shift_105 (by decide) ?_
    refine rw_iast hx hb hW hS (fun _ => (fl 86 rfl)) h dX4_shift_106 (fun w12 H locs h hW hS => ?_)
    refine lv_aload_n hx hb dX4_shift_107 rfl (lv_at hl 0 rfl) ?_
    refine lv_iload_n hx hb dX4_shift_108 rfl (lv_at hl 2 rfl) ?_
    refine rb_if_ge (tgt := 117) hx hb h dX4_shift_109 (by decide) (fun h => ?_) (fun h => ?_)
    · refine lv_iload hx hb dX4_shift_117 (lv_at hl 7 rfl) ?_
      exact J119 _ _ _ _ _ _ _ _ h hW hS (lv_sub hl [0, 1, 2, 3, 4, 5] rfl)
    · refine lv_iload hx hb dX4_shift_112 (lv_at hl 6 rfl) ?_
      refine lv_goto (tgt := 119) hx hb dX4_shift_114 (by decide) ?_
      exact J119 _ _ _ _ _ _ _ _ h hW hS (lv_sub hl [0, 1, 2, 3, 4, 5] rfl)
  unfold fX4_shift at h
  refine lv_aload_n hx hb dX4_shift_0 rfl (lv_at hl 0 rfl) ?_
  refine rw_get hx hb hts iX4 hown hW (fl 79 rfl) rfl rfl 3 (by decide) e18 rfl (v := .ref (E.2.1 83)) rfl dX4_shift_1 ?_
  refine lv_iload_n hx hb dX4_shift_4 rfl (lv_at hl 1 rfl) ?_
  refine rw_iald hx hb hW (fun _ => (fl 83 rfl)) h dX4_shift_5 (fun x1 h => ?_)
  refine lv_iload_n hx hb dX4_shift_6 rfl (lv_at hl 2 rfl) ?_
  refine lv_iadd hx hb dX4_shift_7 ?_
  refine lv_istore_n (lv' := [(3, .int (x1 + p2)), (0, .ref (E.2.1 79)), (1, .int p1), (2, .int p2)]) hx hb dX4_shift_8 rfl hl (by decide) rfl (fun ls hl => ?_)
  refine lv_aload_n hx hb dX4_shift_9 rfl (lv_at hl 1 rfl) ?_
  refine rw_get hx hb hts iX4 hown hW (fl 79 rfl) rfl rfl 4 (by decide) e22 rfl (v := .ref (E.2.1 84)) rfl dX4_shift_10 ?_
  refine lv_iload_n hx hb dX4_shift_13 rfl (lv_at hl 2 rfl) ?_
  refine rw_iald hx hb hW (fun _ => (fl 84 rfl)) h dX4_shift_14 (fun x2 h => ?_)
  refine lv_istore (lv' := [(4, .int x2), (3, .int (x1 + p2)), (0, .ref (E.2.1 79)), (1, .int p1), (2, .int p2)]) hx hb dX4_shift_15 hl (by decide) rfl (fun ls hl => ?_)
  refine lv_aload_n hx hb dX4_shift_17 rfl (lv_at hl 2 rfl) ?_
  refine rw_get hx hb hts iX4 hown hW (fl 79 rfl) rfl rfl 5 (by decide) e25 rfl (v := .ref (E.2.1 85)) rfl dX4_shift_18 ?_
  refine lv_iload_n hx hb dX4_shift_21 rfl (lv_at hl 3 rfl) ?_
  refine rw_iald hx hb hW (fun _ => (fl 85 rfl)) h dX4_shift_22 (fun x3 h => ?_)
  refine lv_istore (lv' := [(5, .int x3), (4, .int x2), (3, .int (x1 + p2)), (0, .ref (E.2.1 79)), (1, .int p1), (2, .int p2)]) hx hb dX4_shift_23 hl (by decide) rfl (fun ls hl => ?_)
  refine lv_iload_n hx hb dX4_shift_25 rfl (lv_at hl 2 rfl) ?_
  refine lv_iload hx hb dX4_shift_26 (lv_at hl 1 rfl) ?_
  refine rb_icmp_lt (tgt := 37) hx hb h dX4_shift_28 (by decide) (fun h => ?_) (fun h => ?_)
  · refine lv_iconst (v := (0 : Int32)) hx hb dX4_shift_37 (by decide) ?_
    exact rrZ hQ hW hS h dX4_shift_38
  · refine lv_iload_n hx hb dX4_shift_31 rfl (lv_at hl 2 rfl) ?_
    refine lv_iload hx hb dX4_shift_32 (lv_at hl 0 rfl) ?_
    refine rb_icmp_le (tgt := 39) hx hb h dX4_shift_34 (by decide) (fun h => ?_) (fun h => ?_)
    · refine lv_aload_n hx hb dX4_shift_39 rfl (lv_at hl 3 rfl) ?_
      refine rw_get hx hb hts iX4 hown hW (fl 79 rfl) rfl rfl 3 (by decide) e18 rfl (v := .ref (E.2.1 83)) rfl dX4_shift_40 ?_
      refine lv_iload_n hx hb dX4_shift_43 rfl (lv_at hl 4 rfl) ?_
      refine lv_iload_n hx hb dX4_shift_44 rfl (lv_at hl 2 rfl) ?_
      refine rw_iast hx hb hW hS (fun _ => (fl 83 rfl)) h dX4_shift_45 (fun w4 H locs h hW hS => ?_)
      refine lv_aload_n hx hb dX4_shift_46 rfl (lv_at hl 3 rfl) ?_
      refine rw_get hx hb hts iX4 hown hW (fl 79 rfl) rfl rfl 4 (by decide) e22 rfl (v := .ref (E.2.1 84)) rfl dX4_shift_47 ?_
      refine lv_iload_n hx hb dX4_shift_50 rfl (lv_at hl 4 rfl) ?_
      refine lv_iload_n hx hb dX4_shift_51 rfl (lv_at hl 2 rfl) ?_
      refine rw_iast hx hb hW hS (fun _ => (fl 84 rfl)) h dX4_shift_52 (fun w5 H locs h hW hS => ?_)
      refine lv_aload_n hx hb dX4_shift_53 rfl (lv_at hl 3 rfl) ?_
      refine rw_get hx hb hts iX4 hown hW (fl 79 rfl) rfl rfl 5 (by decide) e25 rfl (v := .ref (E.2.1 85)) rfl dX4_shift_54 ?_
      refine lv_iload_n hx hb dX4_shift_57 rfl (lv_at hl 4 rfl) ?_
      refine lv_iload_n hx hb dX4_shift_58 rfl (lv_at hl 2 rfl) ?_
      refine rw_iast hx hb hW hS (fun _ => (fl 85 rfl)) h dX4_shift_59 (fun w6 H locs h hW hS => ?_)
      refine lv_aload_n hx hb dX4_shift_60 rfl (lv_at hl 3 rfl) ?_
      refine rw_get hx hb hts iX4 hown hW (fl 79 rfl) rfl rfl 0 (by decide) e40 rfl (v := .ref (E.2.1 1)) rfl dX4_shift_61 ?_
      refine lv_iload_n hx hb dX4_shift_64 rfl (lv_at hl 4 rfl) ?_
      refine rc_Vi (k := 1) (As := [.int p1]) (rest := []) S hW hS h (kX2_y l E p1 w6) (cwV 1 hts gX4_shift_X2_y rfl rfl rfl hdX2_y ⟨Nat.le_of_ble_eq_true rfl, Nat.le_of_ble_eq_true rfl⟩) (fl 1 rfl) rfl rfl rfl rfl hl.1 rfl (Nat.le_of_ble_eq_true rfl) ⟨Nat.zero_le _, Nat.zero_le _⟩ dX4_shift_65 (fun x7 w8 H locs h hW hS => ?_)
      refine lv_istore (lv' := [(6, .int x7), (5, .int x3), (4, .int x2), (3, .int (x1 + p2)), (0, .ref (E.2.1 79)), (1, .int p1), (2, .int p2)]) hx hb dX4_shift_68 hl (by decide) rfl (fun ls hl => ?_)
      refine lv_iconst (v := (5 : Int32)) hx hb dX4_shift_70 (by decide) ?_
      refine lv_aload_n hx hb dX4_shift_71 rfl (lv_at hl 4 rfl) ?_
      refine rw_get hx hb hts iX4 hown hW (fl 79 rfl) rfl rfl 0 (by decide) e40 rfl (v := .ref (E.2.1 1)) rfl dX4_shift_72 ?_
      refine lv_iload_n hx hb dX4_shift_75 rfl (lv_at hl 5 rfl) ?_
      refine rc_Vi (k := 1) (As := [.int p1]) (rest := [.int (5 : Int32)]) S hW hS h (kX2_x l E p1 w8) (cwV 1 hts gX4_shift_X2_x rfl rfl rfl hdX2_x ⟨Nat.le_of_ble_eq_true rfl, Nat.le_of_ble_eq_true rfl⟩) (fl 1 rfl) rfl rfl rfl rfl hl.1 rfl (Nat.le_of_ble_eq_true rfl) ⟨Nat.zero_le _, Nat.zero_le _⟩ dX4_shift_76 (fun x9 w10 H locs h hW hS => ?_)
      refine lv_iadd hx hb dX4_shift_79 ?_
      refine lv_istore (lv' := [(7, .int ((5 : Int32) + x9)), (6, .int x7), (5, .int x3), (4, .int x2), (3, .int (x1 + p2)), (0, .ref (E.2.1 79)), (1, .int p1), (2, .int p2)]) hx hb dX4_shift_80 hl (by decide) rfl (fun ls hl => ?_)
      refine lv_aload_n hx hb dX4_shift_82 rfl (lv_at hl 5 rfl) ?_
      refine rw_get hx hb hts iX4 hown hW (fl 79 rfl) rfl rfl 6 (by decide) e28 rfl (v := .ref (E.2.1 86)) rfl dX4_shift_83 ?_
      refine lv_iconst (v := (0 : Int32)) hx hb dX4_shift_86 (by decide) ?_
      refine rc_Sv (As := [.ref (E.2.1 86), .int (0 : Int32)]) (rest := []) S hW hS h (kJ7_fill_53178 l E full 86 (0 : Int32) LI_full w10) (va_cwS 2 hts gX4_shift_J7_fill_53178 rfl rfl rfl hdJ7_fill_53178 ⟨Nat.le_of_ble_eq_true rfl, Nat.le_of_ble_eq_true rfl⟩) rfl hl.1 rfl (Nat.le_of_ble_eq_true rfl) ⟨Nat.zero_le _, Nat.zero_le _⟩ dX4_shift_87 (fun _ w11 H locs h hW hS => ?_)
      refine lv_aload_n hx hb dX4_shift_90 rfl (lv_at hl 5 rfl) ?_
      refine rw_get hx hb hts iX4 hown hW (fl 79 rfl) rfl rfl 6 (by decide) e28 rfl (v := .ref (E.2.1 86)) rfl dX4_shift_91 ?_
      refine lv_iload_n hx hb dX4_shift_94 rfl (lv_at hl 7 rfl) ?_
      refine rb_if_ge (tgt := 103) hx hb h dX4_shift_95 (by decide) (fun h => ?_) (fun h => ?_)
      · refine lv_iload hx hb dX4_shift_103 (lv_at hl 1 rfl) ?_
        exact J105 _ _ _ _ _ _ _ _ _ _ h hW hS (lv_sub hl [5, 6, 7, 4, 3, 2, 1, 0] rfl)
      · refine lv_iload hx hb dX4_shift_98 (lv_at hl 0 rfl) ?_
        refine lv_goto (tgt := 105) hx hb dX4_shift_100 (by decide) ?_
        exact J105 _ _ _ _ _ _ _ _ _ _ h hW hS (lv_sub hl [5, 6, 7, 4, 3, 2, 1, 0] rfl)
    · refine lv_iconst (v := (0 : Int32)) hx hb dX4_shift_37 (by decide) ?_
      exact rrZ hQ hW hS h dX4_shift_38
noncomputable def bX4_noneOneMore_11 (k11 : Int32 → Wd → Option (Int32 × Wd)) (v1 : Int32)  (w : Wd) : Option (Int32 × Wd) :=
  bnd (fX2_cells w) fun x3 w4 => if x3 ≤ v1 then some ((1 : Int32), w4) else bnd (fX4_shift v1 (-1 : Int32) w4) fun x5 w6 => if x5 = 0 then k11 (v1 + (1 : Int32)) w6 else some ((2 : Int32), w6)
noncomputable def fX4_noneOneMore  (w : Wd) : Option (Int32 × Wd) :=
  bnd (fX4_makeOne w) fun x1 w2 => if x1 = 0 then some ((0 : Int32), w2) else lp (fun _ _ => none) (bX4_noneOneMore_11) G (0 : Int32) w2
abbrev rmX4_noneOneMore : Room := { frames := 5, cells := 0, slots := 0, locals := 114 }
set_option maxHeartbeats 4000000 in
set_option maxRecDepth 100000 in
theorem kX4_noneOneMore (l : Launch) (E : Ev)  (w : Wd) (q : Int32 × Wd) (h : fX4_noneOneMore w = some q) : CtI l yX4_noneOneMore wsX4_noneOneMore rmX4_noneOneMore E full [.ref (E.2.1 79)] w q := by
  refine mkI (cc := cX4_noneOneMore) (maxL := 2) (by decide) rfl (Nat.le_of_ble_eq_true rfl) ?_
  intro p e s m args below meth c Q S hW hQ ls hl
  obtain ⟨hx, hb, hml, hown, hts⟩ := id S
  have hW0 := hW
  have hS : va_S (wA E full) s.heap s.heap [] := va_S.rf
  have hl : lv_has ls 2 [(0, .ref (E.2.1 79))] := hl
  have iX4 : ∀ w ∈ wsX40, w ∈ wsX4_noneOneMore := by decide +kernel
  have e40 := hts (.fieldLink RX4 40 "CubeHeaps$Sums" "ground" "LCubeHeaps$Ground;") (by decide +kernel)
  have J11 : ∀ (n : Nat) (v1 : Int32) (w : Wd) (H : Heap) (locs : List Loc) (ls : Array Slot), lp (fun _ _ => none) (bX4_noneOneMore_11) n v1 w = some q → World E full w s H → va_S (wA E full) s.heap H locs → lv_has ls 2 [(0, .ref (E.2.1 79)), (1, .int v1)] → W p l e rmX4_noneOneMore s m args below meth c H locs 0 0 Q (F0 m 11 ls []) := by
    intro n
    induction n with
    | zero =>
      intro v1 w H locs ls h hW hS hl
      exact absurd (show (none : Option (Int32 × Wd)) = some q from h) (fun z => by cases z)
    | succ n ih11 =>
      intro v1 w H locs ls h hW hS hl
      have h : bX4_noneOneMore_11 (lp (fun _ _ => none) (bX4_noneOneMore_11) n) v1 w = some q := h
      generalize lp (fun _ _ => none) (bX4_noneOneMore_11) n = k11 at h ih11
      unfold bX4_noneOneMore_11 at h
      refine lv_iload_n hx hb dX4_noneOneMore_11 rfl (lv_at hl 1 rfl) ?_
      refine lv_aload_n hx hb dX4_noneOneMore_12 rfl (lv_at hl 0 rfl) ?_
      refine rw_get hx hb hts iX4 hown hW (fl 79 rfl) rfl rfl 0 (by decide) e40 rfl (v := .ref (E.2.1 1)) rfl dX4_noneOneMore_13 ?_
      refine rc_Vi (k := 1) (As := []) (rest := [.int v1]) S hW hS h (kX2_cells l E  w) (cwV 0 hts gX4_noneOneMore_X2_cells rfl rfl rfl hdX2_cells ⟨Nat.le_of_ble_eq_true rfl, Nat.le_of_ble_eq_true rfl⟩) (fl 1 rfl) rfl rfl rfl rfl hl.1 rfl (Nat.le_of_ble_eq_true rfl) ⟨Nat.zero_le _, Nat.zero_le _⟩ dX4_noneOneMore_16 (fun x3 w4 H locs h hW hS => ?_)
      refine rb_icmp_ge (tgt := 39) hx hb h dX4_noneOneMore_19 (by decide) (fun h => ?_) (fun h => ?_)
      · refine lv_iconst (v := (1 : Int32)) hx hb dX4_noneOneMore_39 (by decide) ?_
        exact rrI hQ hW hS h dX4_noneOneMore_40
      · refine lv_aload_n hx hb dX4_noneOneMore_22 rfl (lv_at hl 0 rfl) ?_
        refine lv_iload_n hx hb dX4_noneOneMore_23 rfl (lv_at hl 1 rfl) ?_
        refine lv_iconst (v := (-1 : Int32)) hx hb dX4_noneOneMore_24 (by decide) ?_
        refine rc_Vi (k := 79) (As := [.int v1, .int (-1 : Int32)]) (rest := []) S hW hS h (kX4_shift l E v1 (-1 : Int32) w4) (cwV 2 hts gX4_noneOneMore_X4_shift rfl rfl rfl hdX4_shift ⟨Nat.le_of_ble_eq_true rfl, Nat.le_of_ble_eq_true rfl⟩) (fl 79 rfl) rfl rfl rfl rfl hl.1 rfl (Nat.le_of_ble_eq_true rfl) ⟨Nat.zero_le _, Nat.zero_le _⟩ dX4_noneOneMore_25 (fun x5 w6 H locs h hW hS => ?_)
        refine rb_if_eq (tgt := 33) hx hb h dX4_noneOneMore_28 (by decide) (fun h => ?_) (fun h => ?_)
        · refine lv_iinc (v := (v1 + (1 : Int32))) (lv' := [(1, .int (v1 + (1 : Int32))), (0, .ref (E.2.1 79))]) hx hb dX4_noneOneMore_33 hl (k := 1) rfl rfl (by decide) rfl (fun ls hl => ?_)
          refine lv_goto (tgt := 11) hx hb dX4_noneOneMore_36 (by decide) ?_
          exact ih11 _ _ _ _ _ h hW hS (lv_sub hl [1, 0] rfl)
        · refine lv_iconst (v := (2 : Int32)) hx hb dX4_noneOneMore_31 (by decide) ?_
          exact rrI hQ hW hS h dX4_noneOneMore_32
  unfold fX4_noneOneMore at h
  refine lv_aload_n hx hb dX4_noneOneMore_0 rfl (lv_at hl 0 rfl) ?_
  refine rc_Vi (k := 79) (As := []) (rest := []) S hW hS h (kX4_makeOne l E  w) (cwV 0 hts gX4_noneOneMore_X4_makeOne rfl rfl rfl hdX4_makeOne ⟨Nat.le_of_ble_eq_true rfl, Nat.le_of_ble_eq_true rfl⟩) (fl 79 rfl) rfl rfl rfl rfl hl.1 rfl (Nat.le_of_ble_eq_true rfl) ⟨Nat.zero_le _, Nat.zero_le _⟩ dX4_noneOneMore_1 (fun x1 w2 H locs h hW hS => ?_)
  refine rb_if_ne (tgt := 9) hx hb h dX4_noneOneMore_4 (by decide) (fun h => ?_) (fun h => ?_)
  · refine lv_iconst (v := (0 : Int32)) hx hb dX4_noneOneMore_9 (by decide) ?_
    refine lv_istore_n (lv' := [(1, .int (0 : Int32)), (0, .ref (E.2.1 79))]) hx hb dX4_noneOneMore_10 rfl hl (by decide) rfl (fun ls hl => ?_)
    exact J11 _ _ _ _ _ _ h hW hS (lv_sub hl [1, 0] rfl)
  · refine lv_iconst (v := (0 : Int32)) hx hb dX4_noneOneMore_7 (by decide) ?_
    exact rrI hQ hW hS h dX4_noneOneMore_8
noncomputable def bX4_shiftFar_5 (p1 : Int32) (p2 : Int32) (k5 : Int32 → Int32 → Wd → Option (Unit × Wd)) (v3 : Int32) (v4 : Int32)  (w : Wd) : Option (Unit × Wd) :=
  if (4 : Int32) ≤ v4 then some ((), w) else if v3 = 0 then some ((), w) else bnd (fX4_shift p1 p2 w) fun x1 w2 => k5 x1 (v4 + (1 : Int32)) w2
noncomputable def fX4_shiftFar (p1 : Int32) (p2 : Int32) (w : Wd) : Option (Unit × Wd) :=
  lp (fun _ _ _ => none) (bX4_shiftFar_5 p1 p2) G (1 : Int32) (0 : Int32) w
abbrev rmX4_shiftFar : Room := { frames := 4, cells := 0, slots := 0, locals := 105 }
set_option maxHeartbeats 4000000 in
set_option maxRecDepth 100000 in
theorem kX4_shiftFar (l : Launch) (E : Ev) (p1 : Int32) (p2 : Int32) (w : Wd) (q : Unit × Wd) (h : fX4_shiftFar p1 p2 w = some q) : CtV l yX4_shiftFar wsX4_shiftFar rmX4_shiftFar E full [.ref (E.2.1 79), .int p1, .int p2] w q := by
  refine mkV (cc := cX4_shiftFar) (maxL := 5) (by decide) rfl (Nat.le_of_ble_eq_true rfl) ?_
  intro p e s m args below meth c Q S hW hQ ls hl
  obtain ⟨hx, hb, hml, hown, hts⟩ := id S
  have hW0 := hW
  have hS : va_S (wA E full) s.heap s.heap [] := va_S.rf
  have hl : lv_has ls 5 [(0, .ref (E.2.1 79)), (1, .int p1), (2, .int p2)] := hl
  have J5 : ∀ (n : Nat) (v3 : Int32) (v4 : Int32) (w : Wd) (H : Heap) (locs : List Loc) (ls : Array Slot), lp (fun _ _ _ => none) (bX4_shiftFar_5 p1 p2) n v3 v4 w = some q → World E full w s H → va_S (wA E full) s.heap H locs → lv_has ls 5 [(0, .ref (E.2.1 79)), (1, .int p1), (2, .int p2), (3, .int v3), (4, .int v4)] → W p l e rmX4_shiftFar s m args below meth c H locs 0 0 Q (F0 m 5 ls []) := by
    intro n
    induction n with
    | zero =>
      intro v3 v4 w H locs ls h hW hS hl
      exact absurd (show (none : Option (Unit × Wd)) = some q from h) (fun z => by cases z)
    | succ n ih5 =>
      intro v3 v4 w H locs ls h hW hS hl
      have h : bX4_shiftFar_5 p1 p2 (lp (fun _ _ _ => none) (bX4_shiftFar_5 p1 p2) n) v3 v4 w = some q := h
      generalize lp (fun _ _ _ => none) (bX4_shiftFar_5 p1 p2) n = k5 at h ih5
      unfold bX4_shiftFar_5 at h
      refine lv_iload hx hb dX4_shiftFar_5 (lv_at hl 4 rfl) ?_
      refine lv_iconst (v := (4 : Int32)) hx hb dX4_shiftFar_7 (by decide) ?_
      refine rb_icmp_ge (tgt := 28) hx hb h dX4_shiftFar_8 (by decide) (fun h => ?_) (fun h => ?_)
      · exact rrV hQ hW hS h dX4_shiftFar_28
      · refine lv_iload_n hx hb dX4_shiftFar_11 rfl (lv_at hl 3 rfl) ?_
        refine rb_if_eq (tgt := 28) hx hb h dX4_shiftFar_12 (by decide) (fun h => ?_) (fun h => ?_)
        · exact rrV hQ hW hS h dX4_shiftFar_28
        · refine lv_aload_n hx hb dX4_shiftFar_15 rfl (lv_at hl 0 rfl) ?_
          refine lv_iload_n hx hb dX4_shiftFar_16 rfl (lv_at hl 1 rfl) ?_
          refine lv_iload_n hx hb dX4_shiftFar_17 rfl (lv_at hl 2 rfl) ?_
          refine rc_Vi (k := 79) (As := [.int p1, .int p2]) (rest := []) S hW hS h (kX4_shift l E p1 p2 w) (cwV 2 hts gX4_shiftFar_X4_shift rfl rfl rfl hdX4_shift ⟨Nat.le_of_ble_eq_true rfl, Nat.le_of_ble_eq_true rfl⟩) (fl 79 rfl) rfl rfl rfl rfl hl.1 rfl (Nat.le_of_ble_eq_true rfl) ⟨Nat.zero_le _, Nat.zero_le _⟩ dX4_shiftFar_18 (fun x1 w2 H locs h hW hS => ?_)
          refine lv_istore_n (lv' := [(3, .int x1), (0, .ref (E.2.1 79)), (1, .int p1), (2, .int p2), (4, .int v4)]) hx hb dX4_shiftFar_21 rfl hl (by decide) rfl (fun ls hl => ?_)
          refine lv_iinc (v := (v4 + (1 : Int32))) (lv' := [(4, .int (v4 + (1 : Int32))), (3, .int x1), (0, .ref (E.2.1 79)), (1, .int p1), (2, .int p2)]) hx hb dX4_shiftFar_22 hl (k := 4) rfl rfl (by decide) rfl (fun ls hl => ?_)
          refine lv_goto (tgt := 5) hx hb dX4_shiftFar_25 (by decide) ?_
          exact ih5 _ _ _ _ _ _ h hW hS (lv_sub hl [2, 3, 4, 1, 0] rfl)
  unfold fX4_shiftFar at h
  refine lv_iconst (v := (1 : Int32)) hx hb dX4_shiftFar_0 (by decide) ?_
  refine lv_istore_n (lv' := [(3, .int (1 : Int32)), (0, .ref (E.2.1 79)), (1, .int p1), (2, .int p2)]) hx hb dX4_shiftFar_1 rfl hl (by decide) rfl (fun ls hl => ?_)
  refine lv_iconst (v := (0 : Int32)) hx hb dX4_shiftFar_2 (by decide) ?_
  refine lv_istore (lv' := [(4, .int (0 : Int32)), (3, .int (1 : Int32)), (0, .ref (E.2.1 79)), (1, .int p1), (2, .int p2)]) hx hb dX4_shiftFar_3 hl (by decide) rfl (fun ls hl => ?_)
  exact J5 _ _ _ _ _ _ _ h hW hS (lv_sub hl [2, 3, 4, 1, 0] rfl)
noncomputable def bX4_fillFirst_11 (p1 : Nat) (k11 : Int32 → Wd → Option (Int32 × Wd)) (v2 : Int32)  (w : Wd) : Option (Int32 × Wd) :=
  bnd (fX2_cells w) fun x3 w4 => if x3 ≤ v2 then bnd (fX2_overwrite 83 p1 w4) fun x5 w6 => zr (1 : Int32) w6 else bnd (fX4_shiftFar v2 (-1 : Int32) w4) fun _ w7 => (gI w7 83 v2).bind fun x8 => (sI w7 84 v2 x8).bind fun w9 => (gI w9 83 v2).bind fun x10 => (sI w9 85 v2 x10).bind fun w11 => k11 (v2 + (1 : Int32)) w11
noncomputable def fX4_fillFirst (p1 : Nat) (w : Wd) : Option (Int32 × Wd) :=
  bnd (fX4_makeOne w) fun x1 w2 => if x1 = 0 then zr (0 : Int32) w2 else lp (fun _ _ => none) (bX4_fillFirst_11 p1) G (0 : Int32) w2
abbrev rmX4_fillFirst : Room := { frames := 5, cells := 0, slots := 0, locals := 129 }
set_option maxHeartbeats 4000000 in
set_option maxRecDepth 100000 in
theorem kX4_fillFirst (l : Launch) (E : Ev) (p1 : Nat) (w : Wd) (q : Int32 × Wd) (h : fX4_fillFirst p1 w = some q) : CtI l yX4_fillFirst wsX4_fillFirst rmX4_fillFirst E full [.ref (E.2.1 79), .ref (E.2.1 p1)] w q := by
  refine mkZ (cc := cX4_fillFirst) (maxL := 3) (by decide) rfl (Nat.le_of_ble_eq_true rfl) ?_
  intro p e s m args below meth c Q S hW hQ ls hl
  obtain ⟨hx, hb, hml, hown, hts⟩ := id S
  have hW0 := hW
  have hS : va_S (wA E full) s.heap s.heap [] := va_S.rf
  have hl : lv_has ls 3 [(0, .ref (E.2.1 79)), (1, .ref (E.2.1 p1))] := hl
  have iX4 : ∀ w ∈ wsX40, w ∈ wsX4_fillFirst := by decide +kernel
  have e18 := hts (.fieldLink RX4 18 "CubeHeaps$Sums" "made" "[I") (by decide +kernel)
  have e22 := hts (.fieldLink RX4 22 "CubeHeaps$Sums" "low" "[I") (by decide +kernel)
  have e25 := hts (.fieldLink RX4 25 "CubeHeaps$Sums" "high" "[I") (by decide +kernel)
  have e40 := hts (.fieldLink RX4 40 "CubeHeaps$Sums" "ground" "LCubeHeaps$Ground;") (by decide +kernel)
  have J11 : ∀ (n : Nat) (v2 : Int32) (w : Wd) (H : Heap) (locs : List Loc) (ls : Array Slot), lp (fun _ _ => none) (bX4_fillFirst_11 p1) n v2 w = some q → World E full w s H → va_S (wA E full) s.heap H locs → lv_has ls 3 [(0, .ref (E.2.1 79)), (1, .ref (E.2.1 p1)), (2, .int v2)] → W p l e rmX4_fillFirst s m args below meth c H locs 0 0 Q (F0 m 11 ls []) := by
    intro n
    induction n with
    | zero =>
      intro v2 w H locs ls h hW hS hl
      exact absurd (show (none : Option (Int32 × Wd)) = some q from h) (fun z => by cases z)
    | succ n ih11 =>
      intro v2 w H locs ls h hW hS hl
      have h : bX4_fillFirst_11 p1 (lp (fun _ _ => none) (bX4_fillFirst_11 p1) n) v2 w = some q := h
      generalize lp (fun _ _ => none) (bX4_fillFirst_11 p1) n = k11 at h ih11
      unfold bX4_fillFirst_11 at h
      refine lv_iload_n hx hb dX4_fillFirst_11 rfl (lv_at hl 2 rfl) ?_
      refine lv_aload_n hx hb dX4_fillFirst_12 rfl (lv_at hl 0 rfl) ?_
      refine rw_get hx hb hts iX4 hown hW (fl 79 rfl) rfl rfl 0 (by decide) e40 rfl (v := .ref (E.2.1 1)) rfl dX4_fillFirst_13 ?_
      refine rc_Vi (k := 1) (As := []) (rest := [.int v2]) S hW hS h (kX2_cells l E  w) (cwV 0 hts gX4_fillFirst_X2_cells rfl rfl rfl hdX2_cells ⟨Nat.le_of_ble_eq_true rfl, Nat.le_of_ble_eq_true rfl⟩) (fl 1 rfl) rfl rfl rfl rfl hl.1 rfl (Nat.le_of_ble_eq_true rfl) ⟨Nat.zero_le _, Nat.zero_le _⟩ dX4_fillFirst_16 (fun x3 w4 H locs h hW hS => ?_)
      refine rb_icmp_ge (tgt := 58) hx hb h dX4_fillFirst_19 (by decide) (fun h => ?_) (fun h => ?_)
      · refine lv_aload_n hx hb dX4_fillFirst_58 rfl (lv_at hl 0 rfl) ?_
        refine rw_get hx hb hts iX4 hown hW (fl 79 rfl) rfl rfl 0 (by decide) e40 rfl (v := .ref (E.2.1 1)) rfl dX4_fillFirst_59 ?_
        refine lv_aload_n hx hb dX4_fillFirst_62 rfl (lv_at hl 0 rfl) ?_
        refine rw_get hx hb hts iX4 hown hW (fl 79 rfl) rfl rfl 3 (by decide) e18 rfl (v := .ref (E.2.1 83)) rfl dX4_fillFirst_63 ?_
        refine lv_aload_n hx hb dX4_fillFirst_66 rfl (lv_at hl 1 rfl) ?_
        refine rc_Vi (k := 1) (As := [.ref (E.2.1 83), .ref (E.2.1 p1)]) (rest := []) S hW hS h (kX2_overwrite l E 83 p1 w4) (cwV 2 hts gX4_fillFirst_X2_overwrite rfl rfl rfl hdX2_overwrite ⟨Nat.le_of_ble_eq_true rfl, Nat.le_of_ble_eq_true rfl⟩) (fl 1 rfl) rfl rfl rfl rfl hl.1 rfl (Nat.le_of_ble_eq_true rfl) ⟨Nat.zero_le _, Nat.zero_le _⟩ dX4_fillFirst_67 (fun x5 w6 H locs h hW hS => ?_)
        refine lv_pop hx hb dX4_fillFirst_70 rfl ?_
        refine lv_iconst (v := (1 : Int32)) hx hb dX4_fillFirst_71 (by decide) ?_
        exact rrZ hQ hW hS h dX4_fillFirst_72
      · refine lv_aload_n hx hb dX4_fillFirst_22 rfl (lv_at hl 0 rfl) ?_
        refine lv_iload_n hx hb dX4_fillFirst_23 rfl (lv_at hl 2 rfl) ?_
        refine lv_iconst (v := (-1 : Int32)) hx hb dX4_fillFirst_24 (by decide) ?_
        refine rc_Vv (k := 79) (As := [.int v2, .int (-1 : Int32)]) (rest := []) S hW hS h (kX4_shiftFar l E v2 (-1 : Int32) w4) (cwV 2 hts gX4_fillFirst_X4_shiftFar rfl rfl rfl hdX4_shiftFar ⟨Nat.le_of_ble_eq_true rfl, Nat.le_of_ble_eq_true rfl⟩) (fl 79 rfl) rfl rfl rfl rfl hl.1 rfl (Nat.le_of_ble_eq_true rfl) ⟨Nat.zero_le _, Nat.zero_le _⟩ dX4_fillFirst_25 (fun _ w7 H locs h hW hS => ?_)
        refine lv_aload_n hx hb dX4_fillFirst_28 rfl (lv_at hl 0 rfl) ?_
        refine rw_get hx hb hts iX4 hown hW (fl 79 rfl) rfl rfl 4 (by decide) e22 rfl (v := .ref (E.2.1 84)) rfl dX4_fillFirst_29 ?_
        refine lv_iload_n hx hb dX4_fillFirst_32 rfl (lv_at hl 2 rfl) ?_
        refine lv_aload_n hx hb dX4_fillFirst_33 rfl (lv_at hl 0 rfl) ?_
        refine rw_get hx hb hts iX4 hown hW (fl 79 rfl) rfl rfl 3 (by decide) e18 rfl (v := .ref (E.2.1 83)) rfl dX4_fillFirst_34 ?_
        refine lv_iload_n hx hb dX4_fillFirst_37 rfl (lv_at hl 2 rfl) ?_
        refine rw_iald hx hb hW (fun _ => (fl 83 rfl)) h dX4_fillFirst_38 (fun x8 h => ?_)
        refine rw_iast hx hb hW hS (fun _ => (fl 84 rfl)) h dX4_fillFirst_39 (fun w9 H locs h hW hS => ?_)
        refine lv_aload_n hx hb dX4_fillFirst_40 rfl (lv_at hl 0 rfl) ?_
        refine rw_get hx hb hts iX4 hown hW (fl 79 rfl) rfl rfl 5 (by decide) e25 rfl (v := .ref (E.2.1 85)) rfl dX4_fillFirst_41 ?_
        refine lv_iload_n hx hb dX4_fillFirst_44 rfl (lv_at hl 2 rfl) ?_
        refine lv_aload_n hx hb dX4_fillFirst_45 rfl (lv_at hl 0 rfl) ?_
        refine rw_get hx hb hts iX4 hown hW (fl 79 rfl) rfl rfl 3 (by decide) e18 rfl (v := .ref (E.2.1 83)) rfl dX4_fillFirst_46 ?_
        refine lv_iload_n hx hb dX4_fillFirst_49 rfl (lv_at hl 2 rfl) ?_
        refine rw_iald hx hb hW (fun _ => (fl 83 rfl)) h dX4_fillFirst_50 (fun x10 h => ?_)
        refine rw_iast hx hb hW hS (fun _ => (fl 85 rfl)) h dX4_fillFirst_51 (fun w11 H locs h hW hS => ?_)
        refine lv_iinc (v := (v2 + (1 : Int32))) (lv' := [(2, .int (v2 + (1 : Int32))), (0, .ref (E.2.1 79)), (1, .ref (E.2.1 p1))]) hx hb dX4_fillFirst_52 hl (k := 2) rfl rfl (by decide) rfl (fun ls hl => ?_)
        refine lv_goto (tgt := 11) hx hb dX4_fillFirst_55 (by decide) ?_
        exact ih11 _ _ _ _ _ h hW hS (lv_sub hl [1, 2, 0] rfl)
  unfold fX4_fillFirst at h
  refine lv_aload_n hx hb dX4_fillFirst_0 rfl (lv_at hl 0 rfl) ?_
  refine rc_Vi (k := 79) (As := []) (rest := []) S hW hS h (kX4_makeOne l E  w) (cwV 0 hts gX4_fillFirst_X4_makeOne rfl rfl rfl hdX4_makeOne ⟨Nat.le_of_ble_eq_true rfl, Nat.le_of_ble_eq_true rfl⟩) (fl 79 rfl) rfl rfl rfl rfl hl.1 rfl (Nat.le_of_ble_eq_true rfl) ⟨Nat.zero_le _, Nat.zero_le _⟩ dX4_fillFirst_1 (fun x1 w2 H locs h hW hS => ?_)
  refine rb_if_ne (tgt := 9) hx hb h dX4_fillFirst_4 (by decide) (fun h => ?_) (fun h => ?_)
  · refine lv_iconst (v := (0 : Int32)) hx hb dX4_fillFirst_9 (by decide) ?_
    refine lv_istore_n (lv' := [(2, .int (0 : Int32)), (0, .ref (E.2.1 79)), (1, .ref (E.2.1 p1))]) hx hb dX4_fillFirst_10 rfl hl (by decide) rfl (fun ls hl => ?_)
    exact J11 _ _ _ _ _ _ h hW hS (lv_sub hl [1, 2, 0] rfl)
  · refine lv_iconst (v := (0 : Int32)) hx hb dX4_fillFirst_7 (by decide) ?_
    exact rrZ hQ hW hS h dX4_fillFirst_8
noncomputable def jX4_extreme_21 (p1 : Int32) (p2 : Int32) (s0 : Int32) (s1 : Int32)  (w : Wd) : Option (Int32 × Wd) :=
  bnd (fX4_shiftFar s1 s0 w) fun _ w3 => (gI w3 83 p1).bind fun x4 => some (x4, w3)
noncomputable def fX4_extreme (p1 : Int32) (p2 : Int32) (w : Wd) : Option (Int32 × Wd) :=
  bnd (fX4_makeOne w) fun x1 w2 => if x1 = 0 then some ((-9 : Int32), w2) else if p2 = 0 then jX4_extreme_21 p1 p2 (-1 : Int32) p1 w2 else jX4_extreme_21 p1 p2 (1 : Int32) p1 w2
abbrev rmX4_extreme : Room := { frames := 5, cells := 0, slots := 0, locals := 129 }
set_option maxHeartbeats 4000000 in
set_option maxRecDepth 100000 in
theorem kX4_extreme (l : Launch) (E : Ev) (p1 : Int32) (p2 : Int32) (w : Wd) (q : Int32 × Wd) (h : fX4_extreme p1 p2 w = some q) : CtI l yX4_extreme wsX4_extreme rmX4_extreme E full [.ref (E.2.1 79), .int p1, .int p2] w q := by
  refine mkI (cc := cX4_extreme) (maxL := 3) (by decide) rfl (Nat.le_of_ble_eq_true rfl) ?_
  intro p e s m args below meth c Q S hW hQ ls hl
  obtain ⟨hx, hb, hml, hown, hts⟩ := id S
  have hW0 := hW
  have hS : va_S (wA E full) s.heap s.heap [] := va_S.rf
  have hl : lv_has ls 3 [(0, .ref (E.2.1 79)), (1, .int p1), (2, .int p2)] := hl
  have iX4 : ∀ w ∈ wsX40, w ∈ wsX4_extreme := by decide +kernel
  have e18 := hts (.fieldLink RX4 18 "CubeHeaps$Sums" "made" "[I") (by decide +kernel)
  have J21 : ∀ (s0 : Int32) (s1 : Int32) (w : Wd) (H : Heap) (locs : List Loc) (ls : Array Slot), jX4_extreme_21 p1 p2 s0 s1 w = some q → World E full w s H → va_S (wA E full) s.heap H locs → lv_has ls 3 [(0, .ref (E.2.1 79)), (1, .int p1)] → W p l e rmX4_extreme s m args below meth c H locs 0 0 Q (F0 m 21 ls [.int s0, .int s1, .ref (E.2.1 79)]) := by
    intro s0 s1 w H locs ls h hW hS hl
    unfold jX4_extreme_21 at h
    refine rc_Vv (k := 79) (As := [.int s1, .int s0]) (rest := []) S hW hS h (kX4_shiftFar l E s1 s0 w) (cwV 2 hts gX4_extreme_X4_shiftFar rfl rfl rfl hdX4_shiftFar ⟨Nat.le_of_ble_eq_true rfl, Nat.le_of_ble_eq_true rfl⟩) (fl 79 rfl) rfl rfl rfl rfl hl.1 rfl (Nat.le_of_ble_eq_true rfl) ⟨Nat.zero_le _, Nat.zero_le _⟩ dX4_extreme_21 (fun _ w3 H locs h hW hS => ?_)
    refine lv_aload_n hx hb dX4_extreme_24 rfl (lv_at hl 0 rfl) ?_
    refine rw_get hx hb hts iX4 hown hW (fl 79 rfl) rfl rfl 3 (by decide) e18 rfl (v := .ref (E.2.1 83)) rfl dX4_extreme_25 ?_
    refine lv_iload_n hx hb dX4_extreme_28 rfl (lv_at hl 1 rfl) ?_
    refine rw_iald hx hb hW (fun _ => (fl 83 rfl)) h dX4_extreme_29 (fun x4 h => ?_)
    exact rrI hQ hW hS h dX4_extreme_30
  unfold fX4_extreme at h
  refine lv_aload_n hx hb dX4_extreme_0 rfl (lv_at hl 0 rfl) ?_
  refine rc_Vi (k := 79) (As := []) (rest := []) S hW hS h (kX4_makeOne l E  w) (cwV 0 hts gX4_extreme_X4_makeOne rfl rfl rfl hdX4_makeOne ⟨Nat.le_of_ble_eq_true rfl, Nat.le_of_ble_eq_true rfl⟩) (fl 79 rfl) rfl rfl rfl rfl hl.1 rfl (Nat.le_of_ble_eq_true rfl) ⟨Nat.zero_le _, Nat.zero_le _⟩ dX4_extreme_1 (fun x1 w2 H locs h hW hS => ?_)
  refine rb_if_ne (tgt := 10) hx hb h dX4_extreme_4 (by decide) (fun h => ?_) (fun h => ?_)
  · refine lv_aload_n hx hb dX4_extreme_10 rfl (lv_at hl 0 rfl) ?_
    refine lv_iload_n hx hb dX4_extreme_11 rfl (lv_at hl 1 rfl) ?_
    refine lv_iload_n hx hb dX4_extreme_12 rfl (lv_at hl 2 rfl) ?_
    refine rb_if_eq (tgt := 20) hx hb h dX4_extreme_13 (by decide) (fun h => ?_) (fun h => ?_)
    · refine lv_iconst (v := (-1 : Int32)) hx hb dX4_extreme_20 (by decide) ?_
      exact J21 _ _ _ _ _ _ h hW hS (lv_sub hl [0, 1] rfl)
    · refine lv_iconst (v := (1 : Int32)) hx hb dX4_extreme_16 (by decide) ?_
      refine lv_goto (tgt := 21) hx hb dX4_extreme_17 (by decide) ?_
      exact J21 _ _ _ _ _ _ h hW hS (lv_sub hl [0, 1] rfl)
  · refine lv_bipush (v := (-9 : Int32)) hx hb dX4_extreme_7 (by decide) ?_
    exact rrI hQ hW hS h dX4_extreme_9
noncomputable def fX5_forget  (w : Wd) : Option (Unit × Wd) :=
  bnd (fX3_putAllT (-9 : Int32) w) fun _ w1 => bnd (fJ7_fill_53178 18 (-9 : Int32) w1) fun _ w2 => some ((), (uI w2 14 4 ((w2.1 14 4) + (1 : Int32))))
abbrev rmX5_forget : Room := { frames := 2, cells := 0, slots := 0, locals := 44 }
set_option maxHeartbeats 4000000 in
set_option maxRecDepth 100000 in
theorem kX5_forget (l : Launch) (E : Ev) (rs : Nat → Prop) (hrs : ∀ k ∈ ([14, 15, 16, 17, 18] : List Nat), rs k)  (w : Wd) (q : Unit × Wd) (h : fX5_forget w = some q) : CtV l yX5_forget wsX5_forget rmX5_forget E rs [.ref (E.2.1 14)] w q := by
  refine mkV (cc := cX5_forget) (maxL := 1) (by decide) rfl (Nat.le_of_ble_eq_true rfl) ?_
  intro p e s m args below meth c Q S hW hQ ls hl
  obtain ⟨hx, hb, hml, hown, hts⟩ := id S
  have hW0 := hW
  have hS : va_S (wA E rs) s.heap s.heap [] := va_S.rf
  have hl : lv_has ls 1 [(0, .ref (E.2.1 14))] := hl
  have iX5 : ∀ w ∈ wsX50, w ∈ wsX5_forget := by decide +kernel
  have e12 := hts (.fieldLink RX5 12 "CubeHeaps$Told" "tallest" "LCubeHeaps$Lines;") (by decide +kernel)
  have e18 := hts (.fieldLink RX5 18 "CubeHeaps$Told" "tops" "[I") (by decide +kernel)
  have e22 := hts (.fieldLink RX5 22 "CubeHeaps$Told" "version" "I") (by decide +kernel)
  unfold fX5_forget at h
  refine lv_aload_n hx hb dX5_forget_0 rfl (lv_at hl 0 rfl) ?_
  refine rw_get hx hb hts iX5 hown hW (hrs 14 (by decide)) rfl rfl 2 (by decide) e12 rfl (v := .ref (E.2.1 15)) rfl dX5_forget_1 ?_
  refine lv_bipush (v := (-9 : Int32)) hx hb dX5_forget_4 (by decide) ?_
  refine rc_Vv (k := 15) (As := [.int (-9 : Int32)]) (rest := []) S hW hS h (kX3_putAllT l E rs (fun k hk => hrs k ((by decide : ∀ k ∈ ([15, 16, 17] : List Nat), k ∈ ([14, 15, 16, 17, 18] : List Nat)) k hk)) (-9 : Int32) w) (cwV 1 hts gX5_forget_X3_putAll rfl rfl rfl hdX3_putAll ⟨Nat.le_of_ble_eq_true rfl, Nat.le_of_ble_eq_true rfl⟩) (hrs 15 (by decide)) rfl rfl rfl rfl hl.1 rfl (Nat.le_of_ble_eq_true rfl) ⟨Nat.zero_le _, Nat.zero_le _⟩ dX5_forget_6 (fun _ w1 H locs h hW hS => ?_)
  refine lv_aload_n hx hb dX5_forget_9 rfl (lv_at hl 0 rfl) ?_
  refine rw_get hx hb hts iX5 hown hW (hrs 14 (by decide)) rfl rfl 3 (by decide) e18 rfl (v := .ref (E.2.1 18)) rfl dX5_forget_10 ?_
  refine lv_bipush (v := (-9 : Int32)) hx hb dX5_forget_13 (by decide) ?_
  refine rc_Sv (As := [.ref (E.2.1 18), .int (-9 : Int32)]) (rest := []) S hW hS h (kJ7_fill_53178 l E rs 18 (-9 : Int32) (fun _ => (hrs 18 (by decide))) w1) (va_cwS 2 hts gX5_forget_J7_fill_53178 rfl rfl rfl hdJ7_fill_53178 ⟨Nat.le_of_ble_eq_true rfl, Nat.le_of_ble_eq_true rfl⟩) rfl hl.1 rfl (Nat.le_of_ble_eq_true rfl) ⟨Nat.zero_le _, Nat.zero_le _⟩ dX5_forget_15 (fun _ w2 H locs h hW hS => ?_)
  refine lv_aload_n hx hb dX5_forget_18 rfl (lv_at hl 0 rfl) ?_
  refine lv_dup hx hb dX5_forget_19 rfl ?_
  refine rw_get hx hb hts iX5 hown hW (hrs 14 (by decide)) rfl rfl 4 (by decide) e22 rfl (v := .int (w2.1 14 4)) rfl dX5_forget_20 ?_
  refine lv_iconst (v := (1 : Int32)) hx hb dX5_forget_23 (by decide) ?_
  refine lv_iadd hx hb dX5_forget_24 ?_
  refine rw_put hx hb hts iX5 tyX5_ok nmX5 hown hW hS (hrs 14 (by decide)) rfl rfl 4 (by decide) e22 rfl 4 ((w2.1 14 4) + (1 : Int32)) (L := [.ref (E.2.1 1), .ref (E.2.1 10), .ref (E.2.1 15), .ref (E.2.1 18), .int ((w2.1 14 4) + (1 : Int32))]) rfl rfl rfl rfl (by decide) dX5_forget_25 (fun H locs hW hS => ?_)
  exact rrV hQ hW hS h dX5_forget_28
noncomputable def fX5_putLine (p1 : Int32) (p2 : Int32) (p3 : Int32) (w : Wd) : Option (Int32 × Wd) :=
  bnd (fX3_putT p1 p2 p3 (uI w 14 4 ((w.1 14 4) + (1 : Int32)))) fun x1 w2 => some (x1, w2)
abbrev rmX5_putLine : Room := { frames := 1, cells := 0, slots := 0, locals := 25 }
set_option maxHeartbeats 4000000 in
set_option maxRecDepth 100000 in
theorem kX5_putLine (l : Launch) (E : Ev) (p1 : Int32) (p2 : Int32) (p3 : Int32) (w : Wd) (q : Int32 × Wd) (h : fX5_putLine p1 p2 p3 w = some q) : CtI l yX5_putLine wsX5_putLine rmX5_putLine E full [.ref (E.2.1 14), .int p1, .int p2, .int p3] w q := by
  refine mkI (cc := cX5_putLine) (maxL := 4) (by decide) rfl (Nat.le_of_ble_eq_true rfl) ?_
  intro p e s m args below meth c Q S hW hQ ls hl
  obtain ⟨hx, hb, hml, hown, hts⟩ := id S
  have hW0 := hW
  have hS : va_S (wA E full) s.heap s.heap [] := va_S.rf
  have hl : lv_has ls 4 [(0, .ref (E.2.1 14)), (1, .int p1), (2, .int p2), (3, .int p3)] := hl
  have iX5 : ∀ w ∈ wsX50, w ∈ wsX5_putLine := by decide +kernel
  have e12 := hts (.fieldLink RX5 12 "CubeHeaps$Told" "tallest" "LCubeHeaps$Lines;") (by decide +kernel)
  have e22 := hts (.fieldLink RX5 22 "CubeHeaps$Told" "version" "I") (by decide +kernel)
  unfold fX5_putLine at h
  refine lv_aload_n hx hb dX5_putLine_0 rfl (lv_at hl 0 rfl) ?_
  refine lv_dup hx hb dX5_putLine_1 rfl ?_
  refine rw_get hx hb hts iX5 hown hW (fl 14 rfl) rfl rfl 4 (by decide) e22 rfl (v := .int (w.1 14 4)) rfl dX5_putLine_2 ?_
  refine lv_iconst (v := (1 : Int32)) hx hb dX5_putLine_5 (by decide) ?_
  refine lv_iadd hx hb dX5_putLine_6 ?_
  refine rw_put hx hb hts iX5 tyX5_ok nmX5 hown hW hS (fl 14 rfl) rfl rfl 4 (by decide) e22 rfl 4 ((w.1 14 4) + (1 : Int32)) (L := [.ref (E.2.1 1), .ref (E.2.1 10), .ref (E.2.1 15), .ref (E.2.1 18), .int ((w.1 14 4) + (1 : Int32))]) rfl rfl rfl rfl (by decide) dX5_putLine_7 (fun H locs hW hS => ?_)
  refine lv_aload_n hx hb dX5_putLine_10 rfl (lv_at hl 0 rfl) ?_
  refine rw_get hx hb hts iX5 hown hW (fl 14 rfl) rfl rfl 2 (by decide) e12 rfl (v := .ref (E.2.1 15)) rfl dX5_putLine_11 ?_
  refine lv_iload_n hx hb dX5_putLine_14 rfl (lv_at hl 1 rfl) ?_
  refine lv_iload_n hx hb dX5_putLine_15 rfl (lv_at hl 2 rfl) ?_
  refine lv_iload_n hx hb dX5_putLine_16 rfl (lv_at hl 3 rfl) ?_
  refine rc_Vi (k := 15) (As := [.int p1, .int p2, .int p3]) (rest := []) S hW hS h (kX3_putT l E p1 p2 p3 (uI w 14 4 ((w.1 14 4) + (1 : Int32)))) (cwV 3 hts gX5_putLine_X3_put rfl rfl rfl hdX3_put ⟨Nat.le_of_ble_eq_true rfl, Nat.le_of_ble_eq_true rfl⟩) (fl 15 rfl) rfl rfl rfl rfl hl.1 rfl (Nat.le_of_ble_eq_true rfl) ⟨Nat.zero_le _, Nat.zero_le _⟩ dX5_putLine_17 (fun x1 w2 H locs h hW hS => ?_)
  exact rrI hQ hW hS h dX5_putLine_20
noncomputable def fX5_putTop (p1 : Int32) (p2 : Int32) (w : Wd) : Option (Int32 × Wd) :=
  (gI (uI w 14 4 ((w.1 14 4) + (1 : Int32))) 18 p1).bind fun x1 => (sI (uI w 14 4 ((w.1 14 4) + (1 : Int32))) 18 p1 p2).bind fun w2 => some (x1, w2)
abbrev rmX5_putTop : Room := { frames := 0, cells := 0, slots := 0, locals := 0 }
set_option maxHeartbeats 4000000 in
set_option maxRecDepth 100000 in
theorem kX5_putTop (l : Launch) (E : Ev) (p1 : Int32) (p2 : Int32) (w : Wd) (q : Int32 × Wd) (h : fX5_putTop p1 p2 w = some q) : CtI l yX5_putTop wsX5_putTop rmX5_putTop E full [.ref (E.2.1 14), .int p1, .int p2] w q := by
  refine mkI (cc := cX5_putTop) (maxL := 4) (by decide) rfl (Nat.le_of_ble_eq_true rfl) ?_
  intro p e s m args below meth c Q S hW hQ ls hl
  obtain ⟨hx, hb, hml, hown, hts⟩ := id S
  have hW0 := hW
  have hS : va_S (wA E full) s.heap s.heap [] := va_S.rf
  have hl : lv_has ls 4 [(0, .ref (E.2.1 14)), (1, .int p1), (2, .int p2)] := hl
  have iX5 : ∀ w ∈ wsX50, w ∈ wsX5_putTop := by decide +kernel
  have e18 := hts (.fieldLink RX5 18 "CubeHeaps$Told" "tops" "[I") (by decide +kernel)
  have e22 := hts (.fieldLink RX5 22 "CubeHeaps$Told" "version" "I") (by decide +kernel)
  unfold fX5_putTop at h
  refine lv_aload_n hx hb dX5_putTop_0 rfl (lv_at hl 0 rfl) ?_
  refine lv_dup hx hb dX5_putTop_1 rfl ?_
  refine rw_get hx hb hts iX5 hown hW (fl 14 rfl) rfl rfl 4 (by decide) e22 rfl (v := .int (w.1 14 4)) rfl dX5_putTop_2 ?_
  refine lv_iconst (v := (1 : Int32)) hx hb dX5_putTop_5 (by decide) ?_
  refine lv_iadd hx hb dX5_putTop_6 ?_
  refine rw_put hx hb hts iX5 tyX5_ok nmX5 hown hW hS (fl 14 rfl) rfl rfl 4 (by decide) e22 rfl 4 ((w.1 14 4) + (1 : Int32)) (L := [.ref (E.2.1 1), .ref (E.2.1 10), .ref (E.2.1 15), .ref (E.2.1 18), .int ((w.1 14 4) + (1 : Int32))]) rfl rfl rfl rfl (by decide) dX5_putTop_7 (fun H locs hW hS => ?_)
  refine lv_aload_n hx hb dX5_putTop_10 rfl (lv_at hl 0 rfl) ?_
  refine rw_get hx hb hts iX5 hown hW (fl 14 rfl) rfl rfl 3 (by decide) e18 rfl (v := .ref (E.2.1 18)) rfl dX5_putTop_11 ?_
  refine lv_iload_n hx hb dX5_putTop_14 rfl (lv_at hl 1 rfl) ?_
  refine rw_iald hx hb hW (fun _ => (fl 18 rfl)) h dX5_putTop_15 (fun x1 h => ?_)
  refine lv_istore_n (lv' := [(3, .int x1), (0, .ref (E.2.1 14)), (1, .int p1), (2, .int p2)]) hx hb dX5_putTop_16 rfl hl (by decide) rfl (fun ls hl => ?_)
  refine lv_aload_n hx hb dX5_putTop_17 rfl (lv_at hl 1 rfl) ?_
  refine rw_get hx hb hts iX5 hown hW (fl 14 rfl) rfl rfl 3 (by decide) e18 rfl (v := .ref (E.2.1 18)) rfl dX5_putTop_18 ?_
  refine lv_iload_n hx hb dX5_putTop_21 rfl (lv_at hl 2 rfl) ?_
  refine lv_iload_n hx hb dX5_putTop_22 rfl (lv_at hl 3 rfl) ?_
  refine rw_iast hx hb hW hS (fun _ => (fl 18 rfl)) h dX5_putTop_23 (fun w2 H locs h hW hS => ?_)
  refine lv_iload_n hx hb dX5_putTop_24 rfl (lv_at hl 0 rfl) ?_
  exact rrI hQ hW hS h dX5_putTop_25
noncomputable def bX7_tallest_6 (p1 : Nat) (p2 : Int32) (p3 : Int32) (k6 : Int32 → Int32 → Wd → Option (Int32 × Wd)) (v4 : Int32) (v5 : Int32)  (w : Wd) : Option (Int32 × Wd) :=
  bnd (fX2_length p2 w) fun x1 w2 => if x1 ≤ v5 then some (v4, w2) else bnd (fX2_onLine p2 p3 v5 w2) fun x3 w4 => (gI w4 p1 x3).bind fun x5 => k6 (if v4 < x5 then x5 else v4) (v5 + (1 : Int32)) w4
noncomputable def fX7_tallest (p1 : Nat) (p2 : Int32) (p3 : Int32) (w : Wd) : Option (Int32 × Wd) :=
  lp (fun _ _ _ => none) (bX7_tallest_6 p1 p2 p3) G (0 : Int32) (0 : Int32) w
abbrev rmX7_tallest : Room := { frames := 1, cells := 0, slots := 0, locals := 23 }
set_option maxHeartbeats 4000000 in
set_option maxRecDepth 100000 in
theorem kX7_tallest (l : Launch) (E : Ev) (p1 : Nat) (p2 : Int32) (p3 : Int32) (w : Wd) (q : Int32 × Wd) (h : fX7_tallest p1 p2 p3 w = some q) : CtI l yX7_tallest wsX7_tallest rmX7_tallest E full [.ref (E.2.1 10), .ref (E.2.1 p1), .int p2, .int p3] w q := by
  refine mkI (cc := cX7_tallest) (maxL := 6) (by decide) rfl (Nat.le_of_ble_eq_true rfl) ?_
  intro p e s m args below meth c Q S hW hQ ls hl
  obtain ⟨hx, hb, hml, hown, hts⟩ := id S
  have hW0 := hW
  have hS : va_S (wA E full) s.heap s.heap [] := va_S.rf
  have hl : lv_has ls 6 [(0, .ref (E.2.1 10)), (1, .ref (E.2.1 p1)), (2, .int p2), (3, .int p3)] := hl
  have iX7 : ∀ w ∈ wsX70, w ∈ wsX7_tallest := by decide +kernel
  have e21 := hts (.fieldLink RX7 21 "CubeHeaps$View" "ground" "LCubeHeaps$Ground;") (by decide +kernel)
  have J6 : ∀ (n : Nat) (v4 : Int32) (v5 : Int32) (w : Wd) (H : Heap) (locs : List Loc) (ls : Array Slot), lp (fun _ _ _ => none) (bX7_tallest_6 p1 p2 p3) n v4 v5 w = some q → World E full w s H → va_S (wA E full) s.heap H locs → lv_has ls 6 [(0, .ref (E.2.1 10)), (1, .ref (E.2.1 p1)), (2, .int p2), (3, .int p3), (4, .int v4), (5, .int v5)] → W p l e rmX7_tallest s m args below meth c H locs 0 0 Q (F0 m 6 ls []) := by
    intro n
    induction n with
    | zero =>
      intro v4 v5 w H locs ls h hW hS hl
      exact absurd (show (none : Option (Int32 × Wd)) = some q from h) (fun z => by cases z)
    | succ n ih6 =>
      intro v4 v5 w H locs ls h hW hS hl
      have h : bX7_tallest_6 p1 p2 p3 (lp (fun _ _ _ => none) (bX7_tallest_6 p1 p2 p3) n) v4 v5 w = some q := h
      generalize lp (fun _ _ _ => none) (bX7_tallest_6 p1 p2 p3) n = k6 at h ih6
      unfold bX7_tallest_6 at h
      refine lv_iload hx hb dX7_tallest_6 (lv_at hl 5 rfl) ?_
      refine lv_aload_n hx hb dX7_tallest_8 rfl (lv_at hl 0 rfl) ?_
      refine rw_get hx hb hts iX7 hown hW (fl 10 rfl) rfl rfl 0 (by decide) e21 rfl (v := .ref (E.2.1 1)) rfl dX7_tallest_9 ?_
      refine lv_iload_n hx hb dX7_tallest_12 rfl (lv_at hl 2 rfl) ?_
      refine rc_Vi (k := 1) (As := [.int p2]) (rest := [.int v5]) S hW hS h (kX2_length l E p2 w) (cwV 1 hts gX7_tallest_X2_length rfl rfl rfl hdX2_length ⟨Nat.le_of_ble_eq_true rfl, Nat.le_of_ble_eq_true rfl⟩) (fl 1 rfl) rfl rfl rfl rfl hl.1 rfl (Nat.le_of_ble_eq_true rfl) ⟨Nat.zero_le _, Nat.zero_le _⟩ dX7_tallest_13 (fun x1 w2 H locs h hW hS => ?_)
      refine rb_icmp_ge (tgt := 45) hx hb h dX7_tallest_16 (by decide) (fun h => ?_) (fun h => ?_)
      · refine lv_iload hx hb dX7_tallest_45 (lv_at hl 4 rfl) ?_
        exact rrI hQ hW hS h dX7_tallest_47
      · refine lv_iload hx hb dX7_tallest_19 (lv_at hl 4 rfl) ?_
        refine lv_aload_n hx hb dX7_tallest_21 rfl (lv_at hl 1 rfl) ?_
        refine lv_aload_n hx hb dX7_tallest_22 rfl (lv_at hl 0 rfl) ?_
        refine rw_get hx hb hts iX7 hown hW (fl 10 rfl) rfl rfl 0 (by decide) e21 rfl (v := .ref (E.2.1 1)) rfl dX7_tallest_23 ?_
        refine lv_iload_n hx hb dX7_tallest_26 rfl (lv_at hl 2 rfl) ?_
        refine lv_iload_n hx hb dX7_tallest_27 rfl (lv_at hl 3 rfl) ?_
        refine lv_iload hx hb dX7_tallest_28 (lv_at hl 5 rfl) ?_
        refine rc_Vi (k := 1) (As := [.int p2, .int p3, .int v5]) (rest := [.ref (E.2.1 p1), .int v4]) S hW hS h (kX2_onLine l E p2 p3 v5 w2) (cwV 3 hts gX7_tallest_X2_onLine rfl rfl rfl hdX2_onLine ⟨Nat.le_of_ble_eq_true rfl, Nat.le_of_ble_eq_true rfl⟩) (fl 1 rfl) rfl rfl rfl rfl hl.1 rfl (Nat.le_of_ble_eq_true rfl) ⟨Nat.zero_le _, Nat.zero_le _⟩ dX7_tallest_30 (fun x3 w4 H locs h hW hS => ?_)
        refine rw_iald hx hb hW LI_full h dX7_tallest_33 (fun x5 h => ?_)
        refine va_mmax hx hb (hml.trans hl.1.symm) (own := RX7) hown (hts (.methodLink RX7 35 Lib.Math.max.name) (by decide +kernel)) (hts (.static Lib.Math.max.name) (by decide +kernel)) (hts (.initialized "java/lang/Math") (by decide +kernel)) (hts (.code Lib.Math.max.name Lib.Math.max.code 2 (some .int)) (by decide +kernel)) (Nat.le_of_ble_eq_true rfl) (Nat.le_of_ble_eq_true rfl) (Nat.zero_le _) (Nat.zero_le _) dX7_tallest_34 ?_
        refine lv_istore (lv' := [(4, .int (if v4 < x5 then x5 else v4)), (0, .ref (E.2.1 10)), (1, .ref (E.2.1 p1)), (2, .int p2), (3, .int p3), (5, .int v5)]) hx hb dX7_tallest_37 hl (by decide) rfl (fun ls hl => ?_)
        refine lv_iinc (v := (v5 + (1 : Int32))) (lv' := [(5, .int (v5 + (1 : Int32))), (4, .int (if v4 < x5 then x5 else v4)), (0, .ref (E.2.1 10)), (1, .ref (E.2.1 p1)), (2, .int p2), (3, .int p3)]) hx hb dX7_tallest_39 hl (k := 5) rfl rfl (by decide) rfl (fun ls hl => ?_)
        refine lv_goto (tgt := 6) hx hb dX7_tallest_42 (by decide) ?_
        exact ih6 _ _ _ _ _ _ h hW hS (lv_sub hl [2, 3, 4, 5, 1, 0] rfl)
  unfold fX7_tallest at h
  refine lv_iconst (v := (0 : Int32)) hx hb dX7_tallest_0 (by decide) ?_
  refine lv_istore (lv' := [(4, .int (0 : Int32)), (0, .ref (E.2.1 10)), (1, .ref (E.2.1 p1)), (2, .int p2), (3, .int p3)]) hx hb dX7_tallest_1 hl (by decide) rfl (fun ls hl => ?_)
  refine lv_iconst (v := (0 : Int32)) hx hb dX7_tallest_3 (by decide) ?_
  refine lv_istore (lv' := [(5, .int (0 : Int32)), (4, .int (0 : Int32)), (0, .ref (E.2.1 10)), (1, .ref (E.2.1 p1)), (2, .int p2), (3, .int p3)]) hx hb dX7_tallest_4 hl (by decide) rfl (fun ls hl => ?_)
  exact J6 _ _ _ _ _ _ _ h hW hS (lv_sub hl [2, 3, 4, 5, 1, 0] rfl)
noncomputable def jX5_putLinesAs_48 (p1 : Nat) (p2 : Int32) (k5 : Int32 → Int32 → Wd → Option (Int32 × Wd)) (v3 : Int32) (v4 : Int32)  (w : Wd) : Option (Int32 × Wd) :=
  k5 v3 (v4 + (1 : Int32)) w
noncomputable def bX5_putLinesAs_5 (p1 : Nat) (p2 : Int32) (k5 : Int32 → Int32 → Wd → Option (Int32 × Wd)) (v3 : Int32) (v4 : Int32)  (w : Wd) : Option (Int32 × Wd) :=
  bnd (fX2_lines p2 w) fun x1 w2 => if x1 ≤ v4 then some (v3, w2) else bnd (fX7_tallest p1 p2 v4 w2) fun x3 w4 => bnd (fX5_putLine p2 v4 x3 w4) fun x5 w6 => if x5 = x3 then jX5_putLinesAs_48 p1 p2 k5 v3 v4 w6 else jX5_putLinesAs_48 p1 p2 k5 (v3 + (1 : Int32)) v4 w6
noncomputable def fX5_putLinesAs (p1 : Nat) (p2 : Int32) (w : Wd) : Option (Int32 × Wd) :=
  lp (fun _ _ _ => none) (bX5_putLinesAs_5 p1 p2) G (0 : Int32) (0 : Int32) w
abbrev rmX5_putLinesAs : Room := { frames := 2, cells := 0, slots := 0, locals := 48 }
set_option maxHeartbeats 4000000 in
set_option maxRecDepth 100000 in
theorem kX5_putLinesAs (l : Launch) (E : Ev) (p1 : Nat) (p2 : Int32) (w : Wd) (q : Int32 × Wd) (h : fX5_putLinesAs p1 p2 w = some q) : CtI l yX5_putLinesAs wsX5_putLinesAs rmX5_putLinesAs E full [.ref (E.2.1 14), .ref (E.2.1 p1), .int p2] w q := by
  refine mkI (cc := cX5_putLinesAs) (maxL := 6) (by decide) rfl (Nat.le_of_ble_eq_true rfl) ?_
  intro p e s m args below meth c Q S hW hQ ls hl
  obtain ⟨hx, hb, hml, hown, hts⟩ := id S
  have hW0 := hW
  have hS : va_S (wA E full) s.heap s.heap [] := va_S.rf
  have hl : lv_has ls 6 [(0, .ref (E.2.1 14)), (1, .ref (E.2.1 p1)), (2, .int p2)] := hl
  have iX5 : ∀ w ∈ wsX50, w ∈ wsX5_putLinesAs := by decide +kernel
  have e26 := hts (.fieldLink RX5 26 "CubeHeaps$Told" "ground" "LCubeHeaps$Ground;") (by decide +kernel)
  have e30 := hts (.fieldLink RX5 30 "CubeHeaps$Told" "view" "LCubeHeaps$View;") (by decide +kernel)
  have J5 : ∀ (n : Nat) (v3 : Int32) (v4 : Int32) (w : Wd) (H : Heap) (locs : List Loc) (ls : Array Slot), lp (fun _ _ _ => none) (bX5_putLinesAs_5 p1 p2) n v3 v4 w = some q → World E full w s H → va_S (wA E full) s.heap H locs → lv_has ls 6 [(0, .ref (E.2.1 14)), (1, .ref (E.2.1 p1)), (2, .int p2), (3, .int v3), (4, .int v4)] → W p l e rmX5_putLinesAs s m args below meth c H locs 0 0 Q (F0 m 5 ls []) := by
    intro n
    induction n with
    | zero =>
      intro v3 v4 w H locs ls h hW hS hl
      exact absurd (show (none : Option (Int32 × Wd)) = some q from h) (fun z => by cases z)
    | succ n ih5 =>
      intro v3 v4 w H locs ls h hW hS hl
      have h : bX5_putLinesAs_5 p1 p2 (lp (fun _ _ _ => none) (bX5_putLinesAs_5 p1 p2) n) v3 v4 w = some q := h
      generalize lp (fun _ _ _ => none) (bX5_putLinesAs_5 p1 p2) n = k5 at h ih5
      have J48 : ∀ (v3 : Int32) (v4 : Int32) (w : Wd) (H : Heap) (locs : List Loc) (ls : Array Slot), jX5_putLinesAs_48 p1 p2 k5 v3 v4 w = some q → World E full w s H → va_S (wA E full) s.heap H locs → lv_has ls 6 [(0, .ref (E.2.1 14)), (1, .ref (E.2.1 p1)), (2, .int p2), (3, .int v3), (4, .int v4)] → W p l e rmX5_putLinesAs s m args below meth c H locs 0 0 Q (F0 m 48 ls []) := by
        intro v3 v4 w H locs ls h hW hS hl
        unfold jX5_putLinesAs_48 at h
        refine lv_iinc (v := (v4 + (1 : Int32))) (lv' := [(4, .int (v4 + (1 : Int32))), (0, .ref (E.2.1 14)), (1, .ref (E.2.1 p1)), (2, .int p2), (3, .int v3)]) hx hb dX5_putLinesAs_48 hl (k := 4) rfl rfl (by decide) rfl (fun ls hl => ?_)
        refine lv_goto (tgt := 5) hx hb dX5_putLinesAs_51 (by decide) ?_
        exact ih5 _ _ _ _ _ _ h hW hS (lv_sub hl [1, 2, 3, 4, 0] rfl)
      unfold bX5_putLinesAs_5 at h
      refine lv_iload hx hb dX5_putLinesAs_5 (lv_at hl 4 rfl) ?_
      refine lv_aload_n hx hb dX5_putLinesAs_7 rfl (lv_at hl 0 rfl) ?_
      refine rw_get hx hb hts iX5 hown hW (fl 14 rfl) rfl rfl 0 (by decide) e26 rfl (v := .ref (E.2.1 1)) rfl dX5_putLinesAs_8 ?_
      refine lv_iload_n hx hb dX5_putLinesAs_11 rfl (lv_at hl 2 rfl) ?_
      refine rc_Vi (k := 1) (As := [.int p2]) (rest := [.int v4]) S hW hS h (kX2_lines l E p2 w) (cwV 1 hts gX5_putLinesAs_X2_lines rfl rfl rfl hdX2_lines ⟨Nat.le_of_ble_eq_true rfl, Nat.le_of_ble_eq_true rfl⟩) (fl 1 rfl) rfl rfl rfl rfl hl.1 rfl (Nat.le_of_ble_eq_true rfl) ⟨Nat.zero_le _, Nat.zero_le _⟩ dX5_putLinesAs_12 (fun x1 w2 H locs h hW hS => ?_)
      refine rb_icmp_ge (tgt := 54) hx hb h dX5_putLinesAs_15 (by decide) (fun h => ?_) (fun h => ?_)
      · refine lv_iload_n hx hb dX5_putLinesAs_54 rfl (lv_at hl 3 rfl) ?_
        exact rrI hQ hW hS h dX5_putLinesAs_55
      · refine lv_aload_n hx hb dX5_putLinesAs_18 rfl (lv_at hl 0 rfl) ?_
        refine rw_get hx hb hts iX5 hown hW (fl 14 rfl) rfl rfl 1 (by decide) e30 rfl (v := .ref (E.2.1 10)) rfl dX5_putLinesAs_19 ?_
        refine lv_aload_n hx hb dX5_putLinesAs_22 rfl (lv_at hl 1 rfl) ?_
        refine lv_iload_n hx hb dX5_putLinesAs_23 rfl (lv_at hl 2 rfl) ?_
        refine lv_iload hx hb dX5_putLinesAs_24 (lv_at hl 4 rfl) ?_
        refine rc_Vi (k := 10) (As := [.ref (E.2.1 p1), .int p2, .int v4]) (rest := []) S hW hS h (kX7_tallest l E p1 p2 v4 w2) (cwV 3 hts gX5_putLinesAs_X7_tallest rfl rfl rfl hdX7_tallest ⟨Nat.le_of_ble_eq_true rfl, Nat.le_of_ble_eq_true rfl⟩) (fl 10 rfl) rfl rfl rfl rfl hl.1 rfl (Nat.le_of_ble_eq_true rfl) ⟨Nat.zero_le _, Nat.zero_le _⟩ dX5_putLinesAs_26 (fun x3 w4 H locs h hW hS => ?_)
        refine lv_istore (lv' := [(5, .int x3), (0, .ref (E.2.1 14)), (1, .ref (E.2.1 p1)), (2, .int p2), (3, .int v3), (4, .int v4)]) hx hb dX5_putLinesAs_29 hl (by decide) rfl (fun ls hl => ?_)
        refine lv_aload_n hx hb dX5_putLinesAs_31 rfl (lv_at hl 1 rfl) ?_
        refine lv_iload_n hx hb dX5_putLinesAs_32 rfl (lv_at hl 3 rfl) ?_
        refine lv_iload hx hb dX5_putLinesAs_33 (lv_at hl 5 rfl) ?_
        refine lv_iload hx hb dX5_putLinesAs_35 (lv_at hl 0 rfl) ?_
        refine rc_Vi (k := 14) (As := [.int p2, .int v4, .int x3]) (rest := []) S hW hS h (kX5_putLine l E p2 v4 x3 w4) (cwV 3 hts gX5_putLinesAs_X5_putLine rfl rfl rfl hdX5_putLine ⟨Nat.le_of_ble_eq_true rfl, Nat.le_of_ble_eq_true rfl⟩) (fl 14 rfl) rfl rfl rfl rfl hl.1 rfl (Nat.le_of_ble_eq_true rfl) ⟨Nat.zero_le _, Nat.zero_le _⟩ dX5_putLinesAs_37 (fun x5 w6 H locs h hW hS => ?_)
        refine lv_iload hx hb dX5_putLinesAs_40 (lv_at hl 0 rfl) ?_
        refine rb_icmp_eq (tgt := 48) hx hb h dX5_putLinesAs_42 (by decide) (fun h => ?_) (fun h => ?_)
        · exact J48 _ _ _ _ _ _ h hW hS (lv_sub hl [1, 2, 3, 4, 5] rfl)
        · refine lv_iinc (v := (v3 + (1 : Int32))) (lv' := [(3, .int (v3 + (1 : Int32))), (5, .int x3), (0, .ref (E.2.1 14)), (1, .ref (E.2.1 p1)), (2, .int p2), (4, .int v4)]) hx hb dX5_putLinesAs_45 hl (k := 4) rfl rfl (by decide) rfl (fun ls hl => ?_)
          exact J48 _ _ _ _ _ _ h hW hS (lv_sub hl [2, 3, 4, 0, 5] rfl)
  unfold fX5_putLinesAs at h
  refine lv_iconst (v := (0 : Int32)) hx hb dX5_putLinesAs_0 (by decide) ?_
  refine lv_istore_n (lv' := [(3, .int (0 : Int32)), (0, .ref (E.2.1 14)), (1, .ref (E.2.1 p1)), (2, .int p2)]) hx hb dX5_putLinesAs_1 rfl hl (by decide) rfl (fun ls hl => ?_)
  refine lv_iconst (v := (0 : Int32)) hx hb dX5_putLinesAs_2 (by decide) ?_
  refine lv_istore (lv' := [(4, .int (0 : Int32)), (3, .int (0 : Int32)), (0, .ref (E.2.1 14)), (1, .ref (E.2.1 p1)), (2, .int p2)]) hx hb dX5_putLinesAs_3 hl (by decide) rfl (fun ls hl => ?_)
  exact J5 _ _ _ _ _ _ _ h hW hS (lv_sub hl [2, 3, 4, 1, 0] rfl)
noncomputable def fX5_linesAs (p1 : Nat) (w : Wd) : Option (Int32 × Wd) :=
  bnd (fX5_putLinesAs p1 (1 : Int32) w) fun x1 w2 => bnd (fX5_putLinesAs p1 (0 : Int32) w2) fun x3 w4 => some ((x1 + x3), w4)
abbrev rmX5_linesAs : Room := { frames := 3, cells := 0, slots := 0, locals := 73 }
set_option maxHeartbeats 4000000 in
set_option maxRecDepth 100000 in
theorem kX5_linesAs (l : Launch) (E : Ev) (p1 : Nat) (w : Wd) (q : Int32 × Wd) (h : fX5_linesAs p1 w = some q) : CtI l yX5_linesAs wsX5_linesAs rmX5_linesAs E full [.ref (E.2.1 14), .ref (E.2.1 p1)] w q := by
  refine mkI (cc := cX5_linesAs) (maxL := 2) (by decide) rfl (Nat.le_of_ble_eq_true rfl) ?_
  intro p e s m args below meth c Q S hW hQ ls hl
  obtain ⟨hx, hb, hml, hown, hts⟩ := id S
  have hW0 := hW
  have hS : va_S (wA E full) s.heap s.heap [] := va_S.rf
  have hl : lv_has ls 2 [(0, .ref (E.2.1 14)), (1, .ref (E.2.1 p1))] := hl
  unfold fX5_linesAs at h
  refine lv_aload_n hx hb dX5_linesAs_0 rfl (lv_at hl 0 rfl) ?_
  refine lv_aload_n hx hb dX5_linesAs_1 rfl (lv_at hl 1 rfl) ?_
  refine lv_iconst (v := (1 : Int32)) hx hb dX5_linesAs_2 (by decide) ?_
  refine rc_Vi (k := 14) (As := [.ref (E.2.1 p1), .int (1 : Int32)]) (rest := []) S hW hS h (kX5_putLinesAs l E p1 (1 : Int32) w) (cwV 2 hts gX5_linesAs_X5_putLinesAs rfl rfl rfl hdX5_putLinesAs ⟨Nat.le_of_ble_eq_true rfl, Nat.le_of_ble_eq_true rfl⟩) (fl 14 rfl) rfl rfl rfl rfl hl.1 rfl (Nat.le_of_ble_eq_true rfl) ⟨Nat.zero_le _, Nat.zero_le _⟩ dX5_linesAs_3 (fun x1 w2 H locs h hW hS => ?_)
  refine lv_aload_n hx hb dX5_linesAs_6 rfl (lv_at hl 0 rfl) ?_
  refine lv_aload_n hx hb dX5_linesAs_7 rfl (lv_at hl 1 rfl) ?_
  refine lv_iconst (v := (0 : Int32)) hx hb dX5_linesAs_8 (by decide) ?_
  refine rc_Vi (k := 14) (As := [.ref (E.2.1 p1), .int (0 : Int32)]) (rest := [.int x1]) S hW hS h (kX5_putLinesAs l E p1 (0 : Int32) w2) (cwV 2 hts gX5_linesAs_X5_putLinesAs rfl rfl rfl hdX5_putLinesAs ⟨Nat.le_of_ble_eq_true rfl, Nat.le_of_ble_eq_true rfl⟩) (fl 14 rfl) rfl rfl rfl rfl hl.1 rfl (Nat.le_of_ble_eq_true rfl) ⟨Nat.zero_le _, Nat.zero_le _⟩ dX5_linesAs_9 (fun x3 w4 H locs h hW hS => ?_)
  refine lv_iadd hx hb dX5_linesAs_12 ?_
  exact rrI hQ hW hS h dX5_linesAs_13
noncomputable def fX5_topOf (p0 : Nat) (p1 : Int32) (w : Wd) : Option (Int32 × Wd) :=
  (gI w p0 p1).bind fun x1 => if x1 ≤ 0 then some ((0 : Int32), w) else some ((1 : Int32), w)
abbrev rmX5_topOf : Room := { frames := 0, cells := 0, slots := 0, locals := 0 }
set_option maxHeartbeats 4000000 in
set_option maxRecDepth 100000 in
theorem kX5_topOf (l : Launch) (E : Ev) (p0 : Nat) (p1 : Int32) (w : Wd) (q : Int32 × Wd) (h : fX5_topOf p0 p1 w = some q) : CtI l yX5_topOf wsX5_topOf rmX5_topOf E full [.ref (E.2.1 p0), .int p1] w q := by
  refine mkI (cc := cX5_topOf) (maxL := 2) (by decide) rfl (Nat.le_of_ble_eq_true rfl) ?_
  intro p e s m args below meth c Q S hW hQ ls hl
  obtain ⟨hx, hb, hml, hown, hts⟩ := id S
  have hW0 := hW
  have hS : va_S (wA E full) s.heap s.heap [] := va_S.rf
  have hl : lv_has ls 2 [(0, .ref (E.2.1 p0)), (1, .int p1)] := hl
  unfold fX5_topOf at h
  refine lv_aload_n hx hb dX5_topOf_0 rfl (lv_at hl 0 rfl) ?_
  refine lv_iload_n hx hb dX5_topOf_1 rfl (lv_at hl 1 rfl) ?_
  refine rw_iald hx hb hW LI_full h dX5_topOf_2 (fun x1 h => ?_)
  refine rb_if_le (tgt := 10) hx hb h dX5_topOf_3 (by decide) (fun h => ?_) (fun h => ?_)
  · refine lv_iconst (v := (0 : Int32)) hx hb dX5_topOf_10 (by decide) ?_
    exact rrI hQ hW hS h dX5_topOf_11
  · refine lv_iconst (v := (1 : Int32)) hx hb dX5_topOf_6 (by decide) ?_
    refine lv_goto (tgt := 11) hx hb dX5_topOf_7 (by decide) ?_
    exact rrI hQ hW hS h dX5_topOf_11
noncomputable def jX5_topsAs_37 (p1 : Nat) (k4 : Int32 → Int32 → Wd → Option (Int32 × Wd)) (v2 : Int32) (v3 : Int32)  (w : Wd) : Option (Int32 × Wd) :=
  k4 v2 (v3 + (1 : Int32)) w
noncomputable def bX5_topsAs_4 (p1 : Nat) (k4 : Int32 → Int32 → Wd → Option (Int32 × Wd)) (v2 : Int32) (v3 : Int32)  (w : Wd) : Option (Int32 × Wd) :=
  bnd (fX2_cells w) fun x1 w2 => if x1 ≤ v3 then some (v2, w2) else bnd (fX5_topOf p1 v3 w2) fun x3 w4 => bnd (fX5_putTop v3 x3 w4) fun x5 w6 => if x5 = x3 then jX5_topsAs_37 p1 k4 v2 v3 w6 else jX5_topsAs_37 p1 k4 (v2 + (1 : Int32)) v3 w6
noncomputable def fX5_topsAs (p1 : Nat) (w : Wd) : Option (Int32 × Wd) :=
  lp (fun _ _ _ => none) (bX5_topsAs_4 p1) G (0 : Int32) (0 : Int32) w
abbrev rmX5_topsAs : Room := { frames := 1, cells := 0, slots := 0, locals := 23 }
set_option maxHeartbeats 4000000 in
set_option maxRecDepth 100000 in
theorem kX5_topsAs (l : Launch) (E : Ev) (p1 : Nat) (w : Wd) (q : Int32 × Wd) (h : fX5_topsAs p1 w = some q) : CtI l yX5_topsAs wsX5_topsAs rmX5_topsAs E full [.ref (E.2.1 14), .ref (E.2.1 p1)] w q := by
  refine mkI (cc := cX5_topsAs) (maxL := 5) (by decide) rfl (Nat.le_of_ble_eq_true rfl) ?_
  intro p e s m args below meth c Q S hW hQ ls hl
  obtain ⟨hx, hb, hml, hown, hts⟩ := id S
  have hW0 := hW
  have hS : va_S (wA E full) s.heap s.heap [] := va_S.rf
  have hl : lv_has ls 5 [(0, .ref (E.2.1 14)), (1, .ref (E.2.1 p1))] := hl
  have iX5 : ∀ w ∈ wsX50, w ∈ wsX5_topsAs := by decide +kernel
  have e26 := hts (.fieldLink RX5 26 "CubeHeaps$Told" "ground" "LCubeHeaps$Ground;") (by decide +kernel)
  have J4 : ∀ (n : Nat) (v2 : Int32) (v3 : Int32) (w : Wd) (H : Heap) (locs : List Loc) (ls : Array Slot), lp (fun _ _ _ => none) (bX5_topsAs_4 p1) n v2 v3 w = some q → World E full w s H → va_S (wA E full) s.heap H locs → lv_has ls 5 [(0, .ref (E.2.1 14)), (1, .ref (E.2.1 p1)), (2, .int v2), (3, .int v3)] → W p l e rmX5_topsAs s m args below meth c H locs 0 0 Q (F0 m 4 ls []) := by
    intro n
    induction n with
    | zero =>
      intro v2 v3 w H locs ls h hW hS hl
      exact absurd (show (none : Option (Int32 × Wd)) = some q from h) (fun z => by cases z)
    | succ n ih4 =>
      intro v2 v3 w H locs ls h hW hS hl
      have h : bX5_topsAs_4 p1 (lp (fun _ _ _ => none) (bX5_topsAs_4 p1) n) v2 v3 w = some q := h
      generalize lp (fun _ _ _ => none) (bX5_topsAs_4 p1) n = k4 at h ih4
      have J37 : ∀ (v2 : Int32) (v3 : Int32) (w : Wd) (H : Heap) (locs : List Loc) (ls : Array Slot), jX5_topsAs_37 p1 k4 v2 v3 w = some q → World E full w s H → va_S (wA E full) s.heap H locs → lv_has ls 5 [(0, .ref (E.2.1 14)), (1, .ref (E.2.1 p1)), (2, .int v2), (3, .int v3)] → W p l e rmX5_topsAs s m args below meth c H locs 0 0 Q (F0 m 37 ls []) := by
        intro v2 v3 w H locs ls h hW hS hl
        unfold jX5_topsAs_37 at h
        refine lv_iinc (v := (v3 + (1 : Int32))) (lv' := [(3, .int (v3 + (1 : Int32))), (0, .ref (E.2.1 14)), (1, .ref (E.2.1 p1)), (2, .int v2)]) hx hb dX5_topsAs_37 hl (k := 3) rfl rfl (by decide) rfl (fun ls hl => ?_)
        refine lv_goto (tgt := 4) hx hb dX5_topsAs_40 (by decide) ?_
        exact ih4 _ _ _ _ _ _ h hW hS (lv_sub hl [1, 2, 3, 0] rfl)
      unfold bX5_topsAs_4 at h
      refine lv_iload_n hx hb dX5_topsAs_4 rfl (lv_at hl 3 rfl) ?_
      refine lv_aload_n hx hb dX5_topsAs_5 rfl (lv_at hl 0 rfl) ?_
      refine rw_get hx hb hts iX5 hown hW (fl 14 rfl) rfl rfl 0 (by decide) e26 rfl (v := .ref (E.2.1 1)) rfl dX5_topsAs_6 ?_
      refine rc_Vi (k := 1) (As := []) (rest := [.int v3]) S hW hS h (kX2_cells l E  w) (cwV 0 hts gX5_topsAs_X2_cells rfl rfl rfl hdX2_cells ⟨Nat.le_of_ble_eq_true rfl, Nat.le_of_ble_eq_true rfl⟩) (fl 1 rfl) rfl rfl rfl rfl hl.1 rfl (Nat.le_of_ble_eq_true rfl) ⟨Nat.zero_le _, Nat.zero_le _⟩ dX5_topsAs_9 (fun x1 w2 H locs h hW hS => ?_)
      refine rb_icmp_ge (tgt := 43) hx hb h dX5_topsAs_12 (by decide) (fun h => ?_) (fun h => ?_)
      · refine lv_iload_n hx hb dX5_topsAs_43 rfl (lv_at hl 2 rfl) ?_
        exact rrI hQ hW hS h dX5_topsAs_44
      · refine lv_aload_n hx hb dX5_topsAs_15 rfl (lv_at hl 1 rfl) ?_
        refine lv_iload_n hx hb dX5_topsAs_16 rfl (lv_at hl 3 rfl) ?_
        refine rc_Si (As := [.ref (E.2.1 p1), .int v3]) (rest := []) S hW hS h (kX5_topOf l E p1 v3 w2) (va_cwS 2 hts gX5_topsAs_X5_topOf rfl rfl rfl hdX5_topOf ⟨Nat.le_of_ble_eq_true rfl, Nat.le_of_ble_eq_true rfl⟩) rfl hl.1 rfl (Nat.le_of_ble_eq_true rfl) ⟨Nat.zero_le _, Nat.zero_le _⟩ dX5_topsAs_17 (fun x3 w4 H locs h hW hS => ?_)
        refine lv_istore (lv' := [(4, .int x3), (0, .ref (E.2.1 14)), (1, .ref (E.2.1 p1)), (2, .int v2), (3, .int v3)]) hx hb dX5_topsAs_20 hl (by decide) rfl (fun ls hl => ?_)
        refine lv_aload_n hx hb dX5_topsAs_22 rfl (lv_at hl 1 rfl) ?_
        refine lv_iload_n hx hb dX5_topsAs_23 rfl (lv_at hl 4 rfl) ?_
        refine lv_iload hx hb dX5_topsAs_24 (lv_at hl 0 rfl) ?_
        refine rc_Vi (k := 14) (As := [.int v3, .int x3]) (rest := []) S hW hS h (kX5_putTop l E v3 x3 w4) (cwV 2 hts gX5_topsAs_X5_putTop rfl rfl rfl hdX5_putTop ⟨Nat.le_of_ble_eq_true rfl, Nat.le_of_ble_eq_true rfl⟩) (fl 14 rfl) rfl rfl rfl rfl hl.1 rfl (Nat.le_of_ble_eq_true rfl) ⟨Nat.zero_le _, Nat.zero_le _⟩ dX5_topsAs_26 (fun x5 w6 H locs h hW hS => ?_)
        refine lv_iload hx hb dX5_topsAs_29 (lv_at hl 0 rfl) ?_
        refine rb_icmp_eq (tgt := 37) hx hb h dX5_topsAs_31 (by decide) (fun h => ?_) (fun h => ?_)
        · exact J37 _ _ _ _ _ _ h hW hS (lv_sub hl [1, 2, 3, 4] rfl)
        · refine lv_iinc (v := (v2 + (1 : Int32))) (lv' := [(2, .int (v2 + (1 : Int32))), (4, .int x3), (0, .ref (E.2.1 14)), (1, .ref (E.2.1 p1)), (3, .int v3)]) hx hb dX5_topsAs_34 hl (k := 3) rfl rfl (by decide) rfl (fun ls hl => ?_)
          exact J37 _ _ _ _ _ _ h hW hS (lv_sub hl [2, 3, 0, 4] rfl)
  unfold fX5_topsAs at h
  refine lv_iconst (v := (0 : Int32)) hx hb dX5_topsAs_0 (by decide) ?_
  refine lv_istore_n (lv' := [(2, .int (0 : Int32)), (0, .ref (E.2.1 14)), (1, .ref (E.2.1 p1))]) hx hb dX5_topsAs_1 rfl hl (by decide) rfl (fun ls hl => ?_)
  refine lv_iconst (v := (0 : Int32)) hx hb dX5_topsAs_2 (by decide) ?_
  refine lv_istore_n (lv' := [(3, .int (0 : Int32)), (2, .int (0 : Int32)), (0, .ref (E.2.1 14)), (1, .ref (E.2.1 p1))]) hx hb dX5_topsAs_3 rfl hl (by decide) rfl (fun ls hl => ?_)
  exact J4 _ _ _ _ _ _ _ h hW hS (lv_sub hl [2, 3, 1, 0] rfl)
