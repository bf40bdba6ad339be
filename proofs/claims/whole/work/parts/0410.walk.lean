noncomputable def jX9_layEnds_50 (k2 : Int32 → Wd → Option (Unit × Wd)) (v1 : Int32) (s0 : Int32) (s1 : Int32)  (w : Wd) : Option (Unit × Wd) :=
  (sI w 110 s1 s0).bind fun w6 => k2 (v1 + (1 : Int32)) w6
noncomputable def jX9_layEnds_30 (k2 : Int32 → Wd → Option (Unit × Wd)) (v1 : Int32) (s0 : Int32) (s1 : Int32)  (w : Wd) : Option (Unit × Wd) :=
  (sI w 109 s1 s0).bind fun w4 => (gI w4 103 v1).bind fun x5 => if x5 = 0 then jX9_layEnds_50 k2 v1 (0 : Int32) v1 w4 else jX9_layEnds_50 k2 v1 (4 : Int32) v1 w4
noncomputable def bX9_layEnds_2 (k2 : Int32 → Wd → Option (Unit × Wd)) (v1 : Int32)  (w : Wd) : Option (Unit × Wd) :=
  bnd (fX9_cells w) fun x1 w2 => if x1 ≤ v1 then some ((), w2) else (gI w2 103 v1).bind fun x3 => if x3 = (1 : Int32) then jX9_layEnds_30 k2 v1 (1 : Int32) v1 w2 else jX9_layEnds_30 k2 v1 (0 : Int32) v1 w2
noncomputable def fX9_layEnds  (w : Wd) : Option (Unit × Wd) :=
  lp (fun _ _ => none) (bX9_layEnds_2) G (0 : Int32) w
abbrev rmX9_layEnds : Room := { frames := 1, cells := 0, slots := 0, locals := 20 }
set_option maxHeartbeats 4000000 in
set_option maxRecDepth 100000 in
theorem kX9_layEnds (l : Launch) (E : Ev)  (w : Wd) (q : Unit × Wd) (h : fX9_layEnds w = some q) : CtV l yX9_layEnds wsX9_layEnds rmX9_layEnds E full [.ref (E.2.1 99)] w q := by
  refine mkV (cc := cX9_layEnds) (maxL := 2) (by decide) rfl (Nat.le_of_ble_eq_true rfl) ?_
  intro p e s m args below meth c Q S hW hQ ls hl
  obtain ⟨hx, hb, hml, hown, hts⟩ := id S
  have hW0 := hW
  have hS : va_S (wA E full) s.heap s.heap [] := va_S.rf
  have hl : lv_has ls 2 [(0, .ref (E.2.1 99))] := hl
  have iX9 : ∀ w ∈ wsX90, w ∈ wsX9_layEnds := by decide +kernel
  have e19 := hts (.fieldLink RX9 19 "CubeHeapsModel" "tops" "[I") (by decide +kernel)
  have e42 := hts (.fieldLink RX9 42 "CubeHeapsModel" "low" "[I") (by decide +kernel)
  have e45 := hts (.fieldLink RX9 45 "CubeHeapsModel" "high" "[I") (by decide +kernel)
  have J2 : ∀ (n : Nat) (v1 : Int32) (w : Wd) (H : Heap) (locs : List Loc) (ls : Array Slot), lp (fun _ _ => none) (bX9_layEnds_2) n v1 w = some q → World E full w s H → va_S (wA E full) s.heap H locs → lv_has ls 2 [(0, .ref (E.2.1 99)), (1, .int v1)] → W p l e rmX9_layEnds s m args below meth c H locs 0 0 Q (F0 m 2 ls []) := by
    intro n
    induction n with
    | zero =>
      intro v1 w H locs ls h hW hS hl
      exact absurd (show (none : Option (Unit × Wd)) = some q from h) (fun z => by cases z)
    | succ n ih2 =>
      intro v1 w H locs ls h hW hS hl
      have h : bX9_layEnds_2 (lp (fun _ _ => none) (bX9_layEnds_2) n) v1 w = some q := h
      generalize lp (fun _ _ => none) (bX9_layEnds_2) n = k2 at h ih2
      have J50 : ∀ (v1 : Int32) (s0 : Int32) (s1 : Int32) (w : Wd) (H : Heap) (locs : List Loc) (ls : Array Slot), jX9_layEnds_50 k2 v1 s0 s1 w = some q → World E full w s H → va_S (wA E full) s.heap H locs → lv_has ls 2 [(0, .ref (E.2.1 99)), (1, .int v1)] → W p l e rmX9_layEnds s m args below meth c H locs 0 0 Q (F0 m 50 ls [.int s0, .int s1, .ref (E.2.1 110)]) := by
        intro v1 s0 s1 w H locs ls h hW hS hl
        unfold jX9_layEnds_50 at h
        refine rw_iast hx hb hW hS (fun _ => (fl 110 rfl)) h dX9_layEnds_50 (fun w6 H locs h hW hS => ?_)
        refine lv_iinc (v := (v1 + (1 : Int32))) (lv' := [(1, .int (v1 + (1 : Int32))), (0, .ref (E.2.1 99))]) hx hb dX9_layEnds_51 hl (k := 1) rfl rfl (by decide) rfl (fun ls hl => ?_)
        refine lv_goto (tgt := 2) hx hb dX9_layEnds_54 (by decide) ?_
        exact ih2 _ _ _ _ _ h hW hS (lv_sub hl [1, 0] rfl)
      have J30 : ∀ (v1 : Int32) (s0 : Int32) (s1 : Int32) (w : Wd) (H : Heap) (locs : List Loc) (ls : Array Slot), jX9_layEnds_30 k2 v1 s0 s1 w = some q → World E full w s H → va_S (wA E full) s.heap H locs → lv_has ls 2 [(0, .ref (E.2.1 99)), (1, .int v1)] → W p l e rmX9_layEnds s m args below meth c H locs 0 0 Q (F0 m 30 ls [.int s0, .int s1, .ref (E.2.1 109)]) := by
        intro v1 s0 s1 w H locs ls h hW hS hl
        unfold jX9_layEnds_30 at h
        refine rw_iast hx hb hW hS (fun _ => (fl 109 rfl)) h dX9_layEnds_30 (fun w4 H locs h hW hS => ?_)
        refine lv_aload_n hx hb dX9_layEnds_31 rfl (lv_at hl 0 rfl) ?_
        refine rw_get hx hb hts iX9 hown hW (fl 99 rfl) rfl rfl 14 (by decide) e45 rfl (v := .ref (E.2.1 110)) rfl dX9_layEnds_32 ?_
        refine lv_iload_n hx hb dX9_layEnds_35 rfl (lv_at hl 1 rfl) ?_
        refine lv_aload_n hx hb dX9_layEnds_36 rfl (lv_at hl 0 rfl) ?_
        refine rw_get hx hb hts iX9 hown hW (fl 99 rfl) rfl rfl 5 (by decide) e19 rfl (v := .ref (E.2.1 103)) rfl dX9_layEnds_37 ?_
        refine lv_iload_n hx hb dX9_layEnds_40 rfl (lv_at hl 1 rfl) ?_
        refine rw_iald hx hb hW (fun _ => (fl 103 rfl)) h dX9_layEnds_41 (fun x5 h => ?_)
        refine rb_if_ne (tgt := 49) hx hb h dX9_layEnds_42 (by decide) (fun h => ?_) (fun h => ?_)
        · refine lv_iconst (v := (4 : Int32)) hx hb dX9_layEnds_49 (by decide) ?_
          exact J50 _ _ _ _ _ _ _ h hW hS (hl)
        · refine lv_iconst (v := (0 : Int32)) hx hb dX9_layEnds_45 (by decide) ?_
          refine lv_goto (tgt := 50) hx hb dX9_layEnds_46 (by decide) ?_
          exact J50 _ _ _ _ _ _ _ h hW hS (hl)
      unfold bX9_layEnds_2 at h
      refine lv_iload_n hx hb dX9_layEnds_2 rfl (lv_at hl 1 rfl) ?_
      refine lv_aload_n hx hb dX9_layEnds_3 rfl (lv_at hl 0 rfl) ?_
      refine rc_Vi (k := 99) (As := []) (rest := [.int v1]) S hW hS h (kX9_cells l E  w) (cwV 0 hts gX9_layEnds_X9_cells rfl rfl rfl hdX9_cells ⟨Nat.le_of_ble_eq_true rfl, Nat.le_of_ble_eq_true rfl⟩) (fl 99 rfl) rfl rfl rfl rfl hl.1 rfl (Nat.le_of_ble_eq_true rfl) ⟨Nat.zero_le _, Nat.zero_le _⟩ dX9_layEnds_4 (fun x1 w2 H locs h hW hS => ?_)
      refine rb_icmp_ge (tgt := 57) hx hb h dX9_layEnds_7 (by decide) (fun h => ?_) (fun h => ?_)
      · exact rrV hQ hW hS h dX9_layEnds_57
      · refine lv_aload_n hx hb dX9_layEnds_10 rfl (lv_at hl 0 rfl) ?_
        refine rw_get hx hb hts iX9 hown hW (fl 99 rfl) rfl rfl 13 (by decide) e42 rfl (v := .ref (E.2.1 109)) rfl dX9_layEnds_11 ?_
        refine lv_iload_n hx hb dX9_layEnds_14 rfl (lv_at hl 1 rfl) ?_
        refine lv_aload_n hx hb dX9_layEnds_15 rfl (lv_at hl 0 rfl) ?_
        refine rw_get hx hb hts iX9 hown hW (fl 99 rfl) rfl rfl 5 (by decide) e19 rfl (v := .ref (E.2.1 103)) rfl dX9_layEnds_16 ?_
        refine lv_iload_n hx hb dX9_layEnds_19 rfl (lv_at hl 1 rfl) ?_
        refine rw_iald hx hb hW (fun _ => (fl 103 rfl)) h dX9_layEnds_20 (fun x3 h => ?_)
        refine lv_iconst (v := (1 : Int32)) hx hb dX9_layEnds_21 (by decide) ?_
        refine rb_icmp_ne (tgt := 29) hx hb h dX9_layEnds_22 (by decide) (fun h => ?_) (fun h => ?_)
        · refine lv_iconst (v := (0 : Int32)) hx hb dX9_layEnds_29 (by decide) ?_
          exact J30 _ _ _ _ _ _ _ h hW hS (hl)
        · refine lv_iconst (v := (1 : Int32)) hx hb dX9_layEnds_25 (by decide) ?_
          refine lv_goto (tgt := 30) hx hb dX9_layEnds_26 (by decide) ?_
          exact J30 _ _ _ _ _ _ _ h hW hS (hl)
  unfold fX9_layEnds at h
  refine lv_iconst (v := (0 : Int32)) hx hb dX9_layEnds_0 (by decide) ?_
  refine lv_istore_n (lv' := [(1, .int (0 : Int32)), (0, .ref (E.2.1 99))]) hx hb dX9_layEnds_1 rfl hl (by decide) rfl (fun ls hl => ?_)
  exact J2 _ _ _ _ _ _ h hW hS (lv_sub hl [1, 0] rfl)
noncomputable def jX9_reach_52 (k24 : Int32 → Wd → Option (Int32 × Wd)) (v1 : Int32) (s0 : Int32) (s1 : Int32)  (w : Wd) : Option (Int32 × Wd) :=
  (sI w 114 s1 s0).bind fun w3 => k24 (v1 + (1 : Int32)) w3
noncomputable def jX9_reach_235 (k201 : Int32 → Wd → Option (Int32 × Wd)) (v2 : Int32)  (w : Wd) : Option (Int32 × Wd) :=
  k201 (v2 + (1 : Int32)) w
noncomputable def bX9_reach_201 (k201 : Int32 → Wd → Option (Int32 × Wd)) (v2 : Int32)  (w : Wd) : Option (Int32 × Wd) :=
  if (w.1 99 1) ≤ v2 then some ((-9 : Int32), w) else (gI w 114 ((5 : Int32) + v2)).bind fun x4 => if x4 = (-9 : Int32) then jX9_reach_235 k201 v2 w else (gI w 113 v2).bind fun x5 => if x5 ≤ 0 then jX9_reach_235 k201 v2 w else some (((5 : Int32) + v2), w)
noncomputable def jX9_reach_190 (k61 : Int32 → Wd → Option (Int32 × Wd)) (k69 : Int32 → Int32 → Wd → Option (Int32 × Wd)) (v1 : Int32) (v2 : Int32)  (w : Wd) : Option (Int32 × Wd) :=
  k69 v1 (v2 + (1 : Int32)) w
noncomputable def jX9_reach_142 (k61 : Int32 → Wd → Option (Int32 × Wd)) (k69 : Int32 → Int32 → Wd → Option (Int32 × Wd)) (v1 : Int32) (v2 : Int32) (v3 : Int32) (v4 : Int32)  (w : Wd) : Option (Int32 × Wd) :=
  (gI w 114 v4).bind fun x15 => if x15 = (-9 : Int32) then jX9_reach_190 k61 k69 v1 v2 w else (gI w 114 v3).bind fun x16 => if x16 = (-9 : Int32) then (gI w 111 v2).bind fun x17 => (gI w 109 v2).bind fun x18 => if x17 ≤ x18 then jX9_reach_190 k61 k69 v1 v2 w else (sI w 114 v3 v4).bind fun w19 => jX9_reach_190 k61 k69 (1 : Int32) v2 w19 else jX9_reach_190 k61 k69 v1 v2 w
noncomputable def bX9_reach_69 (k61 : Int32 → Wd → Option (Int32 × Wd)) (k69 : Int32 → Int32 → Wd → Option (Int32 × Wd)) (v1 : Int32) (v2 : Int32)  (w : Wd) : Option (Int32 × Wd) :=
  bnd (fX9_cells w) fun x6 w7 => if x6 ≤ v2 then k61 v1 w7 else (rmI v2 (w7.1 99 0)).bind fun x8 => (dvI v2 (w7.1 99 0)).bind fun x9 => (gI w7 114 x8).bind fun x10 => if x10 = (-9 : Int32) then jX9_reach_142 k61 k69 v1 v2 x8 ((5 : Int32) + x9) w7 else (gI w7 114 ((5 : Int32) + x9)).bind fun x11 => if x11 = (-9 : Int32) then (gI w7 111 v2).bind fun x12 => (gI w7 110 v2).bind fun x13 => if x13 ≤ x12 then jX9_reach_142 k61 k69 v1 v2 x8 ((5 : Int32) + x9) w7 else (sI w7 114 ((5 : Int32) + x9) x8).bind fun w14 => jX9_reach_142 k61 k69 (1 : Int32) v2 x8 ((5 : Int32) + x9) w14 else jX9_reach_142 k61 k69 v1 v2 x8 ((5 : Int32) + x9) w7
noncomputable def bX9_reach_61 (k61 : Int32 → Wd → Option (Int32 × Wd)) (v1 : Int32)  (w : Wd) : Option (Int32 × Wd) :=
  if v1 = 0 then lp (fun _ _ => none) (bX9_reach_201) G (0 : Int32) w else lp (fun _ _ _ => none) (bX9_reach_69 k61) G (0 : Int32) (0 : Int32) w
noncomputable def bX9_reach_24 (k24 : Int32 → Wd → Option (Int32 × Wd)) (v1 : Int32)  (w : Wd) : Option (Int32 × Wd) :=
  if (w.1 99 0) ≤ v1 then lp (fun _ _ => none) (bX9_reach_61) G (1 : Int32) w else (gI w 112 v1).bind fun x2 => if x2 ≤ 0 then jX9_reach_52 k24 v1 (-9 : Int32) v1 w else jX9_reach_52 k24 v1 v1 v1 w
noncomputable def bX9_reach_2 (k2 : Int32 → Wd → Option (Int32 × Wd)) (v1 : Int32)  (w : Wd) : Option (Int32 × Wd) :=
  if (10 : Int32) ≤ v1 then lp (fun _ _ => none) (bX9_reach_24) G (0 : Int32) w else (sI w 114 v1 (-9 : Int32)).bind fun w1 => k2 (v1 + (1 : Int32)) w1
noncomputable def fX9_reach  (w : Wd) : Option (Int32 × Wd) :=
  lp (fun _ _ => none) (bX9_reach_2) G (0 : Int32) w
abbrev rmX9_reach : Room := { frames := 1, cells := 0, slots := 0, locals := 20 }
set_option maxHeartbeats 4000000 in
set_option maxRecDepth 100000 in
theorem kX9_reach (l : Launch) (E : Ev)  (w : Wd) (q : Int32 × Wd) (h : fX9_reach w = some q) : CtI l yX9_reach wsX9_reach rmX9_reach E full [.ref (E.2.1 99)] w q := by
  refine mkI (cc := cX9_reach) (maxL := 5) (by decide) rfl (Nat.le_of_ble_eq_true rfl) ?_
  intro p e s m args below meth c Q S hW hQ ls hl
  obtain ⟨hx, hb, hml, hown, hts⟩ := id S
  have hW0 := hW
  have hS : va_S (wA E full) s.heap s.heap [] := va_S.rf
  have hl : lv_has ls 5 [(0, .ref (E.2.1 99))] := hl
  have iX9 : ∀ w ∈ wsX90, w ∈ wsX9_reach := by decide +kernel
  have e42 := hts (.fieldLink RX9 42 "CubeHeapsModel" "low" "[I") (by decide +kernel)
  have e45 := hts (.fieldLink RX9 45 "CubeHeapsModel" "high" "[I") (by decide +kernel)
  have e48 := hts (.fieldLink RX9 48 "CubeHeapsModel" "flow" "[I") (by decide +kernel)
  have e51 := hts (.fieldLink RX9 51 "CubeHeapsModel" "leftColumn" "[I") (by decide +kernel)
  have e54 := hts (.fieldLink RX9 54 "CubeHeapsModel" "leftRow" "[I") (by decide +kernel)
  have e57 := hts (.fieldLink RX9 57 "CubeHeapsModel" "came" "[I") (by decide +kernel)
  have e85 := hts (.fieldLink RX9 85 "CubeHeapsModel" "wide" "I") (by decide +kernel)
  have e88 := hts (.fieldLink RX9 88 "CubeHeapsModel" "tall" "I") (by decide +kernel)
  have J201 : ∀ (n : Nat) (v2 : Int32) (w : Wd) (H : Heap) (locs : List Loc) (ls : Array Slot), lp (fun _ _ => none) (bX9_reach_201) n v2 w = some q → World E full w s H → va_S (wA E full) s.heap H locs → lv_has ls 5 [(0, .ref (E.2.1 99)), (2, .int v2)] → W p l e rmX9_reach s m args below meth c H locs 0 0 Q (F0 m 201 ls []) := by
    intro n
    induction n with
    | zero =>
      intro v2 w H locs ls h hW hS hl
      exact absurd (show (none : Option (Int32 × Wd)) = some q from h) (fun z => by cases z)
    | succ n ih201 =>
      intro v2 w H locs ls h hW hS hl
      have h : bX9_reach_201 (lp (fun _ _ => none) (bX9_reach_201) n) v2 w = some q := h
      generalize lp (fun _ _ => none) (bX9_reach_201) n = k201 at h ih201
      have J235 : ∀ (v2 : Int32) (w : Wd) (H : Heap) (locs : List Loc) (ls : Array Slot), jX9_reach_235 k201 v2 w = some q → World E full w s H → va_S (wA E full) s.heap H locs → lv_has ls 5 [(0, .ref (E.2.1 99)), (2, .int v2)] → W p l e rmX9_reach s m args below meth c H locs 0 0 Q (F0 m 235 ls []) := by
        intro v2 w H locs ls h hW hS hl
        unfold jX9_reach_235 at h
        refine lv_iinc (v := (v2 + (1 : Int32))) (lv' := [(2, .int (v2 + (1 : Int32))), (0, .ref (E.2.1 99))]) hx hb dX9_reach_235 hl (k := 1) rfl rfl (by decide) rfl (fun ls hl => ?_)
        refine lv_goto (tgt := 201) hx hb dX9_reach_238 (by decide) ?_
        exact ih201 _ _ _ _ _ h hW hS (lv_sub hl [1, 0] rfl)
      unfold bX9_reach_201 at h
      refine lv_iload_n hx hb dX9_reach_201 rfl (lv_at hl 1 rfl) ?_
      refine lv_aload_n hx hb dX9_reach_202 rfl (lv_at hl 0 rfl) ?_
      refine rw_get hx hb hts iX9 hown hW (fl 99 rfl) rfl rfl 1 (by decide) e88 rfl (v := .int (w.1 99 1)) rfl dX9_reach_203 ?_
      refine rb_icmp_ge (tgt := 241) hx hb h dX9_reach_206 (by decide) (fun h => ?_) (fun h => ?_)
      · refine lv_bipush (v := (-9 : Int32)) hx hb dX9_reach_241 (by decide) ?_
        exact rrI hQ hW hS h dX9_reach_243
      · refine lv_aload_n hx hb dX9_reach_209 rfl (lv_at hl 0 rfl) ?_
        refine rw_get hx hb hts iX9 hown hW (fl 99 rfl) rfl rfl 18 (by decide) e57 rfl (v := .ref (E.2.1 114)) rfl dX9_reach_210 ?_
        refine lv_iconst (v := (5 : Int32)) hx hb dX9_reach_213 (by decide) ?_
        refine lv_iload_n hx hb dX9_reach_214 rfl (lv_at hl 1 rfl) ?_
        refine lv_iadd hx hb dX9_reach_215 ?_
        refine rw_iald hx hb hW (fun _ => (fl 114 rfl)) h dX9_reach_216 (fun x4 h => ?_)
        refine lv_bipush (v := (-9 : Int32)) hx hb dX9_reach_217 (by decide) ?_
        refine rb_icmp_eq (tgt := 235) hx hb h dX9_reach_219 (by decide) (fun h => ?_) (fun h => ?_)
        · exact J235 _ _ _ _ _ h hW hS (hl)
        · refine lv_aload_n hx hb dX9_reach_222 rfl (lv_at hl 0 rfl) ?_
          refine rw_get hx hb hts iX9 hown hW (fl 99 rfl) rfl rfl 17 (by decide) e54 rfl (v := .ref (E.2.1 113)) rfl dX9_reach_223 ?_
          refine lv_iload_n hx hb dX9_reach_226 rfl (lv_at hl 1 rfl) ?_
          refine rw_iald hx hb hW (fun _ => (fl 113 rfl)) h dX9_reach_227 (fun x5 h => ?_)
          refine rb_if_le (tgt := 235) hx hb h dX9_reach_228 (by decide) (fun h => ?_) (fun h => ?_)
          · exact J235 _ _ _ _ _ h hW hS (hl)
          · refine lv_iconst (v := (5 : Int32)) hx hb dX9_reach_231 (by decide) ?_
            refine lv_iload_n hx hb dX9_reach_232 rfl (lv_at hl 1 rfl) ?_
            refine lv_iadd hx hb dX9_reach_233 ?_
            exact rrI hQ hW hS h dX9_reach_234
  have J61 : ∀ (n : Nat) (v1 : Int32) (w : Wd) (H : Heap) (locs : List Loc) (ls : Array Slot), lp (fun _ _ => none) (bX9_reach_61) n v1 w = some q → World E full w s H → va_S (wA E full) s.heap H locs → lv_has ls 5 [(0, .ref (E.2.1 99)), (1, .int v1)] → W p l e rmX9_reach s m args below meth c H locs 0 0 Q (F0 m 61 ls []) := by
    intro n
    induction n with
    | zero =>
      intro v1 w H locs ls h hW hS hl
      exact absurd (show (none : Option (Int32 × Wd)) = some q from h) (fun z => by cases z)
    | succ n ih61 =>
      intro v1 w H locs ls h hW hS hl
      have h : bX9_reach_61 (lp (fun _ _ => none) (bX9_reach_61) n) v1 w = some q := h
      generalize lp (fun _ _ => none) (bX9_reach_61) n = k61 at h ih61
      have J69 : ∀ (n : Nat) (v1 : Int32) (v2 : Int32) (w : Wd) (H : Heap) (locs : List Loc) (ls : Array Slot), lp (fun _ _ _ => none) (bX9_reach_69 k61) n v1 v2 w = some q → World E full w s H → va_S (wA E full) s.heap H locs → lv_has ls 5 [(0, .ref (E.2.1 99)), (1, .int v1), (2, .int v2)] → W p l e rmX9_reach s m args below meth c H locs 0 0 Q (F0 m 69 ls []) := by
        intro n
        induction n with
        | zero =>
          intro v1 v2 w H locs ls h hW hS hl
          exact absurd (show (none : Option (Int32 × Wd)) = some q from h) (fun z => by cases z)
        | succ n ih69 =>
          intro v1 v2 w H locs ls h hW hS hl
          have h : bX9_reach_69 k61 (lp (fun _ _ _ => none) (bX9_reach_69 k61) n) v1 v2 w = some q := h
          generalize lp (fun _ _ _ => none) (bX9_reach_69 k61) n = k69 at h ih69
          have J190 : ∀ (v1 : Int32) (v2 : Int32) (w : Wd) (H : Heap) (locs : List Loc) (ls : Array Slot), jX9_reach_190 k61 k69 v1 v2 w = some q → World E full w s H → va_S (wA E full) s.heap H locs → lv_has ls 5 [(0, .ref (E.2.1 99)), (1, .int v1), (2, .int v2)] → W p l e rmX9_reach s m args below meth c H locs 0 0 Q (F0 m 190 ls []) := by
            intro v1 v2 w H locs ls h hW hS hl
            unfold jX9_reach_190 at h
            refine lv_iinc (v := (v2 + (1 : Int32))) (lv' := [(2, .int (v2 + (1 : Int32))), (0, .ref (E.2.1 99)), (1, .int v1)]) hx hb dX9_reach_190 hl (k := 2) rfl rfl (by decide) rfl (fun ls hl => ?_)
            refine lv_goto (tgt := 69) hx hb dX9_reach_193 (by decide) ?_
            exact ih69 _ _ _ _ _ _ h hW hS (lv_sub hl [1, 2, 0] rfl)
          have J142 : ∀ (v1 : Int32) (v2 : Int32) (v3 : Int32) (v4 : Int32) (w : Wd) (H : Heap) (locs : List Loc) (ls : Array Slot), jX9_reach_142 k61 k69 v1 v2 v3 v4 w = some q → World E full w s H → va_S (wA E full) s.heap H locs → lv_has ls 5 [(0, .ref (E.2.1 99)), (1, .int v1), (2, .int v2), (3, .int v3), (4, .int v4)] → W p l e rmX9_reach s m args below meth c H locs 0 0 Q (F0 m 142 ls []) := by
            intro v1 v2 v3 v4 w H locs ls h hW hS hl
            unfold jX9_reach_142 at h
            refine lv_aload_n hx hb dX9_reach_142 rfl (lv_at hl 0 rfl) ?_
            refine rw_get hx hb hts iX9 hown hW (fl 99 rfl) rfl rfl 18 (by decide) e57 rfl (v := .ref (E.2.1 114)) rfl dX9_reach_143 ?_
            refine lv_iload hx hb dX9_reach_146 (lv_at hl 4 rfl) ?_
            refine rw_iald hx hb hW (fun _ => (fl 114 rfl)) h dX9_reach_148 (fun x15 h => ?_)
            refine lv_bipush (v := (-9 : Int32)) hx hb dX9_reach_149 (by decide) ?_
            refine rb_icmp_eq (tgt := 190) hx hb h dX9_reach_151 (by decide) (fun h => ?_) (fun h => ?_)
            · exact J190 _ _ _ _ _ _ h hW hS (lv_sub hl [0, 1, 2] rfl)
            · refine lv_aload_n hx hb dX9_reach_154 rfl (lv_at hl 0 rfl) ?_
              refine rw_get hx hb hts iX9 hown hW (fl 99 rfl) rfl rfl 18 (by decide) e57 rfl (v := .ref (E.2.1 114)) rfl dX9_reach_155 ?_
              refine lv_iload_n hx hb dX9_reach_158 rfl (lv_at hl 3 rfl) ?_
              refine rw_iald hx hb hW (fun _ => (fl 114 rfl)) h dX9_reach_159 (fun x16 h => ?_)
              refine lv_bipush (v := (-9 : Int32)) hx hb dX9_reach_160 (by decide) ?_
              refine rb_icmp_ne (tgt := 190) hx hb h dX9_reach_162 (by decide) (fun h => ?_) (fun h => ?_)
              · exact J190 _ _ _ _ _ _ h hW hS (lv_sub hl [0, 1, 2] rfl)
              · refine lv_aload_n hx hb dX9_reach_165 rfl (lv_at hl 0 rfl) ?_
                refine rw_get hx hb hts iX9 hown hW (fl 99 rfl) rfl rfl 15 (by decide) e48 rfl (v := .ref (E.2.1 111)) rfl dX9_reach_166 ?_
                refine lv_iload_n hx hb dX9_reach_169 rfl (lv_at hl 2 rfl) ?_
                refine rw_iald hx hb hW (fun _ => (fl 111 rfl)) h dX9_reach_170 (fun x17 h => ?_)
                refine lv_aload_n hx hb dX9_reach_171 rfl (lv_at hl 0 rfl) ?_
                refine rw_get hx hb hts iX9 hown hW (fl 99 rfl) rfl rfl 13 (by decide) e42 rfl (v := .ref (E.2.1 109)) rfl dX9_reach_172 ?_
                refine lv_iload_n hx hb dX9_reach_175 rfl (lv_at hl 2 rfl) ?_
                refine rw_iald hx hb hW (fun _ => (fl 109 rfl)) h dX9_reach_176 (fun x18 h => ?_)
                refine rb_icmp_le (tgt := 190) hx hb h dX9_reach_177 (by decide) (fun h => ?_) (fun h => ?_)
                · exact J190 _ _ _ _ _ _ h hW hS (lv_sub hl [0, 1, 2] rfl)
                · refine lv_aload_n hx hb dX9_reach_180 rfl (lv_at hl 0 rfl) ?_
                  refine rw_get hx hb hts iX9 hown hW (fl 99 rfl) rfl rfl 18 (by decide) e57 rfl (v := .ref (E.2.1 114)) rfl dX9_reach_181 ?_
                  refine lv_iload_n hx hb dX9_reach_184 rfl (lv_at hl 3 rfl) ?_
                  refine lv_iload hx hb dX9_reach_185 (lv_at hl 4 rfl) ?_
                  refine rw_iast hx hb hW hS (fun _ => (fl 114 rfl)) h dX9_reach_187 (fun w19 H locs h hW hS => ?_)
                  refine lv_iconst (v := (1 : Int32)) hx hb dX9_reach_188 (by decide) ?_
                  refine lv_istore_n (lv' := [(1, .int (1 : Int32)), (0, .ref (E.2.1 99)), (2, .int v2), (3, .int v3), (4, .int v4)]) hx hb dX9_reach_189 rfl hl (by decide) rfl (fun ls hl => ?_)
                  exact J190 _ _ _ _ _ _ h hW hS (lv_sub hl [1, 0, 2] rfl)
          unfold bX9_reach_69 at h
          refine lv_iload_n hx hb dX9_reach_69 rfl (lv_at hl 2 rfl) ?_
          refine lv_aload_n hx hb dX9_reach_70 rfl (lv_at hl 0 rfl) ?_
          refine rc_Vi (k := 99) (As := []) (rest := [.int v2]) S hW hS h (kX9_cells l E  w) (cwV 0 hts gX9_reach_X9_cells rfl rfl rfl hdX9_cells ⟨Nat.le_of_ble_eq_true rfl, Nat.le_of_ble_eq_true rfl⟩) (fl 99 rfl) rfl rfl rfl rfl hl.1 rfl (Nat.le_of_ble_eq_true rfl) ⟨Nat.zero_le _, Nat.zero_le _⟩ dX9_reach_71 (fun x6 w7 H locs h hW hS => ?_)
          refine rb_icmp_ge (tgt := 196) hx hb h dX9_reach_74 (by decide) (fun h => ?_) (fun h => ?_)
          · refine lv_goto (tgt := 61) hx hb dX9_reach_196 (by decide) ?_
            exact ih61 _ _ _ _ _ h hW hS (lv_sub hl [0, 1] rfl)
          · refine lv_iload_n hx hb dX9_reach_77 rfl (lv_at hl 2 rfl) ?_
            refine lv_aload_n hx hb dX9_reach_78 rfl (lv_at hl 0 rfl) ?_
            refine rw_get hx hb hts iX9 hown hW (fl 99 rfl) rfl rfl 0 (by decide) e85 rfl (v := .int (w7.1 99 0)) rfl dX9_reach_79 ?_
            refine rb_rem hx hb h dX9_reach_82 (fun x8 h => ?_)
            refine lv_istore_n (lv' := [(3, .int x8), (0, .ref (E.2.1 99)), (1, .int v1), (2, .int v2)]) hx hb dX9_reach_83 rfl hl (by decide) rfl (fun ls hl => ?_)
            refine lv_iconst (v := (5 : Int32)) hx hb dX9_reach_84 (by decide) ?_
            refine lv_iload_n hx hb dX9_reach_85 rfl (lv_at hl 3 rfl) ?_
            refine lv_aload_n hx hb dX9_reach_86 rfl (lv_at hl 1 rfl) ?_
            refine rw_get hx hb hts iX9 hown hW (fl 99 rfl) rfl rfl 0 (by decide) e85 rfl (v := .int (w7.1 99 0)) rfl dX9_reach_87 ?_
            refine rb_div hx hb h dX9_reach_90 (fun x9 h => ?_)
            refine lv_iadd hx hb dX9_reach_91 ?_
            refine lv_istore (lv' := [(4, .int ((5 : Int32) + x9)), (3, .int x8), (0, .ref (E.2.1 99)), (1, .int v1), (2, .int v2)]) hx hb dX9_reach_92 hl (by decide) rfl (fun ls hl => ?_)
            refine lv_aload_n hx hb dX9_reach_94 rfl (lv_at hl 2 rfl) ?_
            refine rw_get hx hb hts iX9 hown hW (fl 99 rfl) rfl rfl 18 (by decide) e57 rfl (v := .ref (E.2.1 114)) rfl dX9_reach_95 ?_
            refine lv_iload_n hx hb dX9_reach_98 rfl (lv_at hl 1 rfl) ?_
            refine rw_iald hx hb hW (fun _ => (fl 114 rfl)) h dX9_reach_99 (fun x10 h => ?_)
            refine lv_bipush (v := (-9 : Int32)) hx hb dX9_reach_100 (by decide) ?_
            refine rb_icmp_eq (tgt := 142) hx hb h dX9_reach_102 (by decide) (fun h => ?_) (fun h => ?_)
            · exact J142 _ _ _ _ _ _ _ _ h hW hS (lv_sub hl [2, 3, 4, 1, 0] rfl)
            · refine lv_aload_n hx hb dX9_reach_105 rfl (lv_at hl 2 rfl) ?_
              refine rw_get hx hb hts iX9 hown hW (fl 99 rfl) rfl rfl 18 (by decide) e57 rfl (v := .ref (E.2.1 114)) rfl dX9_reach_106 ?_
              refine lv_iload hx hb dX9_reach_109 (lv_at hl 0 rfl) ?_
              refine rw_iald hx hb hW (fun _ => (fl 114 rfl)) h dX9_reach_111 (fun x11 h => ?_)
              refine lv_bipush (v := (-9 : Int32)) hx hb dX9_reach_112 (by decide) ?_
              refine rb_icmp_ne (tgt := 142) hx hb h dX9_reach_114 (by decide) (fun h => ?_) (fun h => ?_)
              · exact J142 _ _ _ _ _ _ _ _ h hW hS (lv_sub hl [2, 3, 4, 1, 0] rfl)
              · refine lv_aload_n hx hb dX9_reach_117 rfl (lv_at hl 2 rfl) ?_
                refine rw_get hx hb hts iX9 hown hW (fl 99 rfl) rfl rfl 15 (by decide) e48 rfl (v := .ref (E.2.1 111)) rfl dX9_reach_118 ?_
                refine lv_iload_n hx hb dX9_reach_121 rfl (lv_at hl 4 rfl) ?_
                refine rw_iald hx hb hW (fun _ => (fl 111 rfl)) h dX9_reach_122 (fun x12 h => ?_)
                refine lv_aload_n hx hb dX9_reach_123 rfl (lv_at hl 2 rfl) ?_
                refine rw_get hx hb hts iX9 hown hW (fl 99 rfl) rfl rfl 14 (by decide) e45 rfl (v := .ref (E.2.1 110)) rfl dX9_reach_124 ?_
                refine lv_iload_n hx hb dX9_reach_127 rfl (lv_at hl 4 rfl) ?_
                refine rw_iald hx hb hW (fun _ => (fl 110 rfl)) h dX9_reach_128 (fun x13 h => ?_)
                refine rb_icmp_ge (tgt := 142) hx hb h dX9_reach_129 (by decide) (fun h => ?_) (fun h => ?_)
                · exact J142 _ _ _ _ _ _ _ _ h hW hS (lv_sub hl [2, 3, 4, 1, 0] rfl)
                · refine lv_aload_n hx hb dX9_reach_132 rfl (lv_at hl 2 rfl) ?_
                  refine rw_get hx hb hts iX9 hown hW (fl 99 rfl) rfl rfl 18 (by decide) e57 rfl (v := .ref (E.2.1 114)) rfl dX9_reach_133 ?_
                  refine lv_iload hx hb dX9_reach_136 (lv_at hl 0 rfl) ?_
                  refine lv_iload_n hx hb dX9_reach_138 rfl (lv_at hl 1 rfl) ?_
                  refine rw_iast hx hb hW hS (fun _ => (fl 114 rfl)) h dX9_reach_139 (fun w14 H locs h hW hS => ?_)
                  refine lv_iconst (v := (1 : Int32)) hx hb dX9_reach_140 (by decide) ?_
                  refine lv_istore_n (lv' := [(1, .int (1 : Int32)), (4, .int ((5 : Int32) + x9)), (3, .int x8), (0, .ref (E.2.1 99)), (2, .int v2)]) hx hb dX9_reach_141 rfl hl (by decide) rfl (fun ls hl => ?_)
                  exact J142 _ _ _ _ _ _ _ _ h hW hS (lv_sub hl [3, 0, 4, 2, 1] rfl)
      unfold bX9_reach_61 at h
      refine lv_iload_n hx hb dX9_reach_61 rfl (lv_at hl 1 rfl) ?_
      refine rb_if_eq (tgt := 199) hx hb h dX9_reach_62 (by decide) (fun h => ?_) (fun h => ?_)
      · refine lv_iconst (v := (0 : Int32)) hx hb dX9_reach_199 (by decide) ?_
        refine lv_istore_n (lv' := [(2, .int (0 : Int32)), (0, .ref (E.2.1 99)), (1, .int v1)]) hx hb dX9_reach_200 rfl hl (by decide) rfl (fun ls hl => ?_)
        exact J201 _ _ _ _ _ _ h hW hS (lv_sub hl [1, 0] rfl)
      · refine lv_iconst (v := (0 : Int32)) hx hb dX9_reach_65 (by decide) ?_
        refine lv_istore_n (lv' := [(1, .int (0 : Int32)), (0, .ref (E.2.1 99))]) hx hb dX9_reach_66 rfl hl (by decide) rfl (fun ls hl => ?_)
        refine lv_iconst (v := (0 : Int32)) hx hb dX9_reach_67 (by decide) ?_
        refine lv_istore_n (lv' := [(2, .int (0 : Int32)), (1, .int (0 : Int32)), (0, .ref (E.2.1 99))]) hx hb dX9_reach_68 rfl hl (by decide) rfl (fun ls hl => ?_)
        exact J69 _ _ _ _ _ _ _ h hW hS (lv_sub hl [2, 1, 0] rfl)
  have J24 : ∀ (n : Nat) (v1 : Int32) (w : Wd) (H : Heap) (locs : List Loc) (ls : Array Slot), lp (fun _ _ => none) (bX9_reach_24) n v1 w = some q → World E full w s H → va_S (wA E full) s.heap H locs → lv_has ls 5 [(0, .ref (E.2.1 99)), (1, .int v1)] → W p l e rmX9_reach s m args below meth c H locs 0 0 Q (F0 m 24 ls []) := by
    intro n
    induction n with
    | zero =>
      intro v1 w H locs ls h hW hS hl
      exact absurd (show (none : Option (Int32 × Wd)) = some q from h) (fun z => by cases z)
    | succ n ih24 =>
      intro v1 w H locs ls h hW hS hl
      have h : bX9_reach_24 (lp (fun _ _ => none) (bX9_reach_24) n) v1 w = some q := h
      generalize lp (fun _ _ => none) (bX9_reach_24) n = k24 at h ih24
      have J52 : ∀ (v1 : Int32) (s0 : Int32) (s1 : Int32) (w : Wd) (H : Heap) (locs : List Loc) (ls : Array Slot), jX9_reach_52 k24 v1 s0 s1 w = some q → World E full w s H → va_S (wA E full) s.heap H locs → lv_has ls 5 [(0, .ref (E.2.1 99)), (1, .int v1)] → W p l e rmX9_reach s m args below meth c H locs 0 0 Q (F0 m 52 ls [.int s0, .int s1, .ref (E.2.1 114)]) := by
        intro v1 s0 s1 w H locs ls h hW hS hl
        unfold jX9_reach_52 at h
        refine rw_iast hx hb hW hS (fun _ => (fl 114 rfl)) h dX9_reach_52 (fun w3 H locs h hW hS => ?_)
        refine lv_iinc (v := (v1 + (1 : Int32))) (lv' := [(1, .int (v1 + (1 : Int32))), (0, .ref (E.2.1 99))]) hx hb dX9_reach_53 hl (k := 1) rfl rfl (by decide) rfl (fun ls hl => ?_)
        refine lv_goto (tgt := 24) hx hb dX9_reach_56 (by decide) ?_
        exact ih24 _ _ _ _ _ h hW hS (lv_sub hl [1, 0] rfl)
      unfold bX9_reach_24 at h
      refine lv_iload_n hx hb dX9_reach_24 rfl (lv_at hl 1 rfl) ?_
      refine lv_aload_n hx hb dX9_reach_25 rfl (lv_at hl 0 rfl) ?_
      refine rw_get hx hb hts iX9 hown hW (fl 99 rfl) rfl rfl 0 (by decide) e85 rfl (v := .int (w.1 99 0)) rfl dX9_reach_26 ?_
      refine rb_icmp_ge (tgt := 59) hx hb h dX9_reach_29 (by decide) (fun h => ?_) (fun h => ?_)
      · refine lv_iconst (v := (1 : Int32)) hx hb dX9_reach_59 (by decide) ?_
        refine lv_istore_n (lv' := [(1, .int (1 : Int32)), (0, .ref (E.2.1 99))]) hx hb dX9_reach_60 rfl hl (by decide) rfl (fun ls hl => ?_)
        exact J61 _ _ _ _ _ _ h hW hS (lv_sub hl [1, 0] rfl)
      · refine lv_aload_n hx hb dX9_reach_32 rfl (lv_at hl 0 rfl) ?_
        refine rw_get hx hb hts iX9 hown hW (fl 99 rfl) rfl rfl 18 (by decide) e57 rfl (v := .ref (E.2.1 114)) rfl dX9_reach_33 ?_
        refine lv_iload_n hx hb dX9_reach_36 rfl (lv_at hl 1 rfl) ?_
        refine lv_aload_n hx hb dX9_reach_37 rfl (lv_at hl 0 rfl) ?_
        refine rw_get hx hb hts iX9 hown hW (fl 99 rfl) rfl rfl 16 (by decide) e51 rfl (v := .ref (E.2.1 112)) rfl dX9_reach_38 ?_
        refine lv_iload_n hx hb dX9_reach_41 rfl (lv_at hl 1 rfl) ?_
        refine rw_iald hx hb hW (fun _ => (fl 112 rfl)) h dX9_reach_42 (fun x2 h => ?_)
        refine rb_if_le (tgt := 50) hx hb h dX9_reach_43 (by decide) (fun h => ?_) (fun h => ?_)
        · refine lv_bipush (v := (-9 : Int32)) hx hb dX9_reach_50 (by decide) ?_
          exact J52 _ _ _ _ _ _ _ h hW hS (hl)
        · refine lv_iload_n hx hb dX9_reach_46 rfl (lv_at hl 1 rfl) ?_
          refine lv_goto (tgt := 52) hx hb dX9_reach_47 (by decide) ?_
          exact J52 _ _ _ _ _ _ _ h hW hS (hl)
  have J2 : ∀ (n : Nat) (v1 : Int32) (w : Wd) (H : Heap) (locs : List Loc) (ls : Array Slot), lp (fun _ _ => none) (bX9_reach_2) n v1 w = some q → World E full w s H → va_S (wA E full) s.heap H locs → lv_has ls 5 [(0, .ref (E.2.1 99)), (1, .int v1)] → W p l e rmX9_reach s m args below meth c H locs 0 0 Q (F0 m 2 ls []) := by
    intro n
    induction n with
    | zero =>
      intro v1 w H locs ls h hW hS hl
      exact absurd (show (none : Option (Int32 × Wd)) = some q from h) (fun z => by cases z)
    | succ n ih2 =>
      intro v1 w H locs ls h hW hS hl
      have h : bX9_reach_2 (lp (fun _ _ => none) (bX9_reach_2) n) v1 w = some q := h
      generalize lp (fun _ _ => none) (bX9_reach_2) n = k2 at h ih2
      unfold bX9_reach_2 at h
      refine lv_iload_n hx hb dX9_reach_2 rfl (lv_at hl 1 rfl) ?_
      refine lv_bipush (v := (10 : Int32)) hx hb dX9_reach_3 (by decide) ?_
      refine rb_icmp_ge (tgt := 22) hx hb h dX9_reach_5 (by decide) (fun h => ?_) (fun h => ?_)
      · refine lv_iconst (v := (0 : Int32)) hx hb dX9_reach_22 (by decide) ?_
        refine lv_istore_n (lv' := [(1, .int (0 : Int32)), (0, .ref (E.2.1 99))]) hx hb dX9_reach_23 rfl hl (by decide) rfl (fun ls hl => ?_)
        exact J24 _ _ _ _ _ _ h hW hS (lv_sub hl [1, 0] rfl)
      · refine lv_aload_n hx hb dX9_reach_8 rfl (lv_at hl 0 rfl) ?_
        refine rw_get hx hb hts iX9 hown hW (fl 99 rfl) rfl rfl 18 (by decide) e57 rfl (v := .ref (E.2.1 114)) rfl dX9_reach_9 ?_
        refine lv_iload_n hx hb dX9_reach_12 rfl (lv_at hl 1 rfl) ?_
        refine lv_bipush (v := (-9 : Int32)) hx hb dX9_reach_13 (by decide) ?_
        refine rw_iast hx hb hW hS (fun _ => (fl 114 rfl)) h dX9_reach_15 (fun w1 H locs h hW hS => ?_)
        refine lv_iinc (v := (v1 + (1 : Int32))) (lv' := [(1, .int (v1 + (1 : Int32))), (0, .ref (E.2.1 99))]) hx hb dX9_reach_16 hl (k := 1) rfl rfl (by decide) rfl (fun ls hl => ?_)
        refine lv_goto (tgt := 2) hx hb dX9_reach_19 (by decide) ?_
        exact ih2 _ _ _ _ _ h hW hS (lv_sub hl [1, 0] rfl)
  unfold fX9_reach at h
  refine lv_iconst (v := (0 : Int32)) hx hb dX9_reach_0 (by decide) ?_
  refine lv_istore_n (lv' := [(1, .int (0 : Int32)), (0, .ref (E.2.1 99))]) hx hb dX9_reach_1 rfl hl (by decide) rfl (fun ls hl => ?_)
  exact J2 _ _ _ _ _ _ h hW hS (lv_sub hl [1, 0] rfl)
noncomputable def jX9_take_82 (p1 : Int32) (k14 : Int32 → Wd → Option (Unit × Wd)) (v3 : Int32)  (w : Wd) : Option (Unit × Wd) :=
  k14 v3 w
noncomputable def jX9_take_29 (p1 : Int32) (k14 : Int32 → Wd → Option (Unit × Wd)) (v2 : Int32)  (w : Wd) : Option (Unit × Wd) :=
  (gI w 114 v2).bind fun x6 => if v2 ≤ (4 : Int32) then (gI w 111 (((x6 - (5 : Int32)) * (w.1 99 0)) + v2)).bind fun x7 => (sI w 111 (((x6 - (5 : Int32)) * (w.1 99 0)) + v2) (x7 - (1 : Int32))).bind fun w8 => jX9_take_82 p1 k14 x6 w8 else (gI w 111 (((v2 - (5 : Int32)) * (w.1 99 0)) + x6)).bind fun x9 => (sI w 111 (((v2 - (5 : Int32)) * (w.1 99 0)) + x6) (x9 + (1 : Int32))).bind fun w10 => jX9_take_82 p1 k14 x6 w10
noncomputable def bX9_take_14 (p1 : Int32) (k14 : Int32 → Wd → Option (Unit × Wd)) (v2 : Int32)  (w : Wd) : Option (Unit × Wd) :=
  if (4 : Int32) < v2 then jX9_take_29 p1 k14 v2 w else (gI w 114 v2).bind fun x3 => if x3 = v2 then (gI w 112 v2).bind fun x4 => (sI w 112 v2 (x4 - (1 : Int32))).bind fun w5 => some ((), w5) else jX9_take_29 p1 k14 v2 w
noncomputable def fX9_take (p1 : Int32) (w : Wd) : Option (Unit × Wd) :=
  (gI w 113 (p1 - (5 : Int32))).bind fun x1 => (sI w 113 (p1 - (5 : Int32)) (x1 - (1 : Int32))).bind fun w2 => lp (fun _ _ => none) (bX9_take_14 p1) G p1 w2
abbrev rmX9_take : Room := { frames := 0, cells := 0, slots := 0, locals := 0 }
set_option maxHeartbeats 4000000 in
set_option maxRecDepth 100000 in
theorem kX9_take (l : Launch) (E : Ev) (p1 : Int32) (w : Wd) (q : Unit × Wd) (h : fX9_take p1 w = some q) : CtV l yX9_take wsX9_take rmX9_take E full [.ref (E.2.1 99), .int p1] w q := by
  refine mkV (cc := cX9_take) (maxL := 4) (by decide) rfl (Nat.le_of_ble_eq_true rfl) ?_
  intro p e s m args below meth c Q S hW hQ ls hl
  obtain ⟨hx, hb, hml, hown, hts⟩ := id S
  have hW0 := hW
  have hS : va_S (wA E full) s.heap s.heap [] := va_S.rf
  have hl : lv_has ls 4 [(0, .ref (E.2.1 99)), (1, .int p1)] := hl
  have iX9 : ∀ w ∈ wsX90, w ∈ wsX9_take := by decide +kernel
  have e48 := hts (.fieldLink RX9 48 "CubeHeapsModel" "flow" "[I") (by decide +kernel)
  have e51 := hts (.fieldLink RX9 51 "CubeHeapsModel" "leftColumn" "[I") (by decide +kernel)
  have e54 := hts (.fieldLink RX9 54 "CubeHeapsModel" "leftRow" "[I") (by decide +kernel)
  have e57 := hts (.fieldLink RX9 57 "CubeHeapsModel" "came" "[I") (by decide +kernel)
  have e85 := hts (.fieldLink RX9 85 "CubeHeapsModel" "wide" "I") (by decide +kernel)
  have J14 : ∀ (n : Nat) (v2 : Int32) (w : Wd) (H : Heap) (locs : List Loc) (ls : Array Slot), lp (fun _ _ => none) (bX9_take_14 p1) n v2 w = some q → World E full w s H → va_S (wA E full) s.heap H locs → lv_has ls 4 [(0, .ref (E.2.1 99)), (2, .int v2)] → W p l e rmX9_take s m args below meth c H locs 0 0 Q (F0 m 14 ls []) := by
    intro n
    induction n with
    | zero =>
      intro v2 w H locs ls h hW hS hl
      exact absurd (show (none : Option (Unit × Wd)) = some q from h) (fun z => by cases z)
    | succ n ih14 =>
      intro v2 w H locs ls h hW hS hl
      have h : bX9_take_14 p1 (lp (fun _ _ => none) (bX9_take_14 p1) n) v2 w = some q := h
      generalize lp (fun _ _ => none) (bX9_take_14 p1) n = k14 at h ih14
      have J82 : ∀ (v3 : Int32) (w : Wd) (H : Heap) (locs : List Loc) (ls : Array Slot), jX9_take_82 p1 k14 v3 w = some q → World E full w s H → va_S (wA E full) s.heap H locs → lv_has ls 4 [(0, .ref (E.2.1 99)), (3, .int v3)] → W p l e rmX9_take s m args below meth c H locs 0 0 Q (F0 m 82 ls []) := by
        intro v3 w H locs ls h hW hS hl
        unfold jX9_take_82 at h
        refine lv_iload_n hx hb dX9_take_82 rfl (lv_at hl 1 rfl) ?_
        refine lv_istore_n (lv' := [(2, .int v3), (0, .ref (E.2.1 99)), (3, .int v3)]) hx hb dX9_take_83 rfl hl (by decide) rfl (fun ls hl => ?_)
        refine lv_goto (tgt := 14) hx hb dX9_take_84 (by decide) ?_
        exact ih14 _ _ _ _ _ h hW hS (lv_sub hl [1, 0] rfl)
      have J29 : ∀ (v2 : Int32) (w : Wd) (H : Heap) (locs : List Loc) (ls : Array Slot), jX9_take_29 p1 k14 v2 w = some q → World E full w s H → va_S (wA E full) s.heap H locs → lv_has ls 4 [(0, .ref (E.2.1 99)), (2, .int v2)] → W p l e rmX9_take s m args below meth c H locs 0 0 Q (F0 m 29 ls []) := by
        intro v2 w H locs ls h hW hS hl
        unfold jX9_take_29 at h
        refine lv_aload_n hx hb dX9_take_29 rfl (lv_at hl 0 rfl) ?_
        refine rw_get hx hb hts iX9 hown hW (fl 99 rfl) rfl rfl 18 (by decide) e57 rfl (v := .ref (E.2.1 114)) rfl dX9_take_30 ?_
        refine lv_iload_n hx hb dX9_take_33 rfl (lv_at hl 1 rfl) ?_
        refine rw_iald hx hb hW (fun _ => (fl 114 rfl)) h dX9_take_34 (fun x6 h => ?_)
        refine lv_istore_n (lv' := [(3, .int x6), (0, .ref (E.2.1 99)), (2, .int v2)]) hx hb dX9_take_35 rfl hl (by decide) rfl (fun ls hl => ?_)
        refine lv_iload_n hx hb dX9_take_36 rfl (lv_at hl 2 rfl) ?_
        refine lv_iconst (v := (4 : Int32)) hx hb dX9_take_37 (by decide) ?_
        refine rb_icmp_le (tgt := 63) hx hb h dX9_take_38 (by decide) (fun h => ?_) (fun h => ?_)
        · refine lv_aload_n hx hb dX9_take_63 rfl (lv_at hl 1 rfl) ?_
          refine rw_get hx hb hts iX9 hown hW (fl 99 rfl) rfl rfl 15 (by decide) e48 rfl (v := .ref (E.2.1 111)) rfl dX9_take_64 ?_
          refine lv_iload_n hx hb dX9_take_67 rfl (lv_at hl 0 rfl) ?_
          refine lv_iconst (v := (5 : Int32)) hx hb dX9_take_68 (by decide) ?_
          refine lv_isub hx hb dX9_take_69 ?_
          refine lv_aload_n hx hb dX9_take_70 rfl (lv_at hl 1 rfl) ?_
          refine rw_get hx hb hts iX9 hown hW (fl 99 rfl) rfl rfl 0 (by decide) e85 rfl (v := .int (w.1 99 0)) rfl dX9_take_71 ?_
          refine lv_imul hx hb dX9_take_74 ?_
          refine lv_iload_n hx hb dX9_take_75 rfl (lv_at hl 2 rfl) ?_
          refine lv_iadd hx hb dX9_take_76 ?_
          refine lv_dup2_11 hx hb dX9_take_77 rfl rfl ?_
          refine rw_iald hx hb hW (fun _ => (fl 111 rfl)) h dX9_take_78 (fun x7 h => ?_)
          refine lv_iconst (v := (1 : Int32)) hx hb dX9_take_79 (by decide) ?_
          refine lv_isub hx hb dX9_take_80 ?_
          refine rw_iast hx hb hW hS (fun _ => (fl 111 rfl)) h dX9_take_81 (fun w8 H locs h hW hS => ?_)
          exact J82 _ _ _ _ _ h hW hS (lv_sub hl [1, 0] rfl)
        · refine lv_aload_n hx hb dX9_take_41 rfl (lv_at hl 1 rfl) ?_
          refine rw_get hx hb hts iX9 hown hW (fl 99 rfl) rfl rfl 15 (by decide) e48 rfl (v := .ref (E.2.1 111)) rfl dX9_take_42 ?_
          refine lv_iload_n hx hb dX9_take_45 rfl (lv_at hl 2 rfl) ?_
          refine lv_iconst (v := (5 : Int32)) hx hb dX9_take_46 (by decide) ?_
          refine lv_isub hx hb dX9_take_47 ?_
          refine lv_aload_n hx hb dX9_take_48 rfl (lv_at hl 1 rfl) ?_
          refine rw_get hx hb hts iX9 hown hW (fl 99 rfl) rfl rfl 0 (by decide) e85 rfl (v := .int (w.1 99 0)) rfl dX9_take_49 ?_
          refine lv_imul hx hb dX9_take_52 ?_
          refine lv_iload_n hx hb dX9_take_53 rfl (lv_at hl 0 rfl) ?_
          refine lv_iadd hx hb dX9_take_54 ?_
          refine lv_dup2_11 hx hb dX9_take_55 rfl rfl ?_
          refine rw_iald hx hb hW (fun _ => (fl 111 rfl)) h dX9_take_56 (fun x9 h => ?_)
          refine lv_iconst (v := (1 : Int32)) hx hb dX9_take_57 (by decide) ?_
          refine lv_iadd hx hb dX9_take_58 ?_
          refine rw_iast hx hb hW hS (fun _ => (fl 111 rfl)) h dX9_take_59 (fun w10 H locs h hW hS => ?_)
          refine lv_goto (tgt := 82) hx hb dX9_take_60 (by decide) ?_
          exact J82 _ _ _ _ _ h hW hS (lv_sub hl [1, 0] rfl)
      unfold bX9_take_14 at h
      refine lv_iload_n hx hb dX9_take_14 rfl (lv_at hl 1 rfl) ?_
      refine lv_iconst (v := (4 : Int32)) hx hb dX9_take_15 (by decide) ?_
      refine rb_icmp_gt (tgt := 29) hx hb h dX9_take_16 (by decide) (fun h => ?_) (fun h => ?_)
      · exact J29 _ _ _ _ _ h hW hS (hl)
      · refine lv_aload_n hx hb dX9_take_19 rfl (lv_at hl 0 rfl) ?_
        refine rw_get hx hb hts iX9 hown hW (fl 99 rfl) rfl rfl 18 (by decide) e57 rfl (v := .ref (E.2.1 114)) rfl dX9_take_20 ?_
        refine lv_iload_n hx hb dX9_take_23 rfl (lv_at hl 1 rfl) ?_
        refine rw_iald hx hb hW (fun _ => (fl 114 rfl)) h dX9_take_24 (fun x3 h => ?_)
        refine lv_iload_n hx hb dX9_take_25 rfl (lv_at hl 1 rfl) ?_
        refine rb_icmp_eq (tgt := 87) hx hb h dX9_take_26 (by decide) (fun h => ?_) (fun h => ?_)
        · refine lv_aload_n hx hb dX9_take_87 rfl (lv_at hl 0 rfl) ?_
          refine rw_get hx hb hts iX9 hown hW (fl 99 rfl) rfl rfl 16 (by decide) e51 rfl (v := .ref (E.2.1 112)) rfl dX9_take_88 ?_
          refine lv_iload_n hx hb dX9_take_91 rfl (lv_at hl 1 rfl) ?_
          refine lv_dup2_11 hx hb dX9_take_92 rfl rfl ?_
          refine rw_iald hx hb hW (fun _ => (fl 112 rfl)) h dX9_take_93 (fun x4 h => ?_)
          refine lv_iconst (v := (1 : Int32)) hx hb dX9_take_94 (by decide) ?_
          refine lv_isub hx hb dX9_take_95 ?_
          refine rw_iast hx hb hW hS (fun _ => (fl 112 rfl)) h dX9_take_96 (fun w5 H locs h hW hS => ?_)
          exact rrV hQ hW hS h dX9_take_97
        · exact J29 _ _ _ _ _ h hW hS (hl)
  unfold fX9_take at h
  refine lv_iload_n hx hb dX9_take_0 rfl (lv_at hl 1 rfl) ?_
  refine lv_istore_n (lv' := [(2, .int p1), (0, .ref (E.2.1 99)), (1, .int p1)]) hx hb dX9_take_1 rfl hl (by decide) rfl (fun ls hl => ?_)
  refine lv_aload_n hx hb dX9_take_2 rfl (lv_at hl 1 rfl) ?_
  refine rw_get hx hb hts iX9 hown hW (fl 99 rfl) rfl rfl 17 (by decide) e54 rfl (v := .ref (E.2.1 113)) rfl dX9_take_3 ?_
  refine lv_iload_n hx hb dX9_take_6 rfl (lv_at hl 2 rfl) ?_
  refine lv_iconst (v := (5 : Int32)) hx hb dX9_take_7 (by decide) ?_
  refine lv_isub hx hb dX9_take_8 ?_
  refine lv_dup2_11 hx hb dX9_take_9 rfl rfl ?_
  refine rw_iald hx hb hW (fun _ => (fl 113 rfl)) h dX9_take_10 (fun x1 h => ?_)
  refine lv_iconst (v := (1 : Int32)) hx hb dX9_take_11 (by decide) ?_
  refine lv_isub hx hb dX9_take_12 ?_
  refine rw_iast hx hb hW hS (fun _ => (fl 113 rfl)) h dX9_take_13 (fun w2 H locs h hW hS => ?_)
  exact J14 _ _ _ _ _ _ h hW hS (lv_sub hl [1, 0] rfl)
noncomputable def jX9_canSum_149 (k65 : Int32 → Int32 → Wd → Option (Int32 × Wd)) (v2 : Int32) (s0 : Int32)  (w : Wd) : Option (Int32 × Wd) :=
  k65 s0 (v2 + (1 : Int32)) w
noncomputable def jX9_canSum_148 (k65 : Int32 → Int32 → Wd → Option (Int32 × Wd)) (v2 : Int32)  (w : Wd) : Option (Int32 × Wd) :=
  jX9_canSum_149 k65 v2 (0 : Int32) w
noncomputable def jX9_canSum_54 (k2 : Int32 → Wd → Option (Int32 × Wd)) (v1 : Int32) (s0 : Int32) (s1 : Int32)  (w : Wd) : Option (Int32 × Wd) :=
  (sI w 113 s1 s0).bind fun w22 => k2 (v1 + (1 : Int32)) w22
noncomputable def jX9_canSum_30 (k2 : Int32 → Wd → Option (Int32 × Wd)) (v1 : Int32) (s0 : Int32) (s1 : Int32)  (w : Wd) : Option (Int32 × Wd) :=
  (sI w 112 s1 s0).bind fun w16 => if (w16.1 99 1) ≤ v1 then jX9_canSum_54 k2 v1 (0 : Int32) v1 w16 else (gI w16 105 v1).bind fun x17 => jX9_canSum_54 k2 v1 x17 v1 w16
noncomputable def bX9_canSum_242 (k242 : Int32 → Int32 → Wd → Option (Int32 × Wd)) (v2 : Int32) (v4 : Int32)  (w : Wd) : Option (Int32 × Wd) :=
  if v4 = (-9 : Int32) then if v2 = 0 then zr (1 : Int32) w else zr (0 : Int32) w else bnd (fX9_take v4 w) fun _ w23 => bnd (fX9_reach w23) fun x24 w25 => k242 (v2 + (-1 : Int32)) x24 w25
noncomputable def jX9_canSum_198 (k163 : Int32 → Int32 → Int32 → Int32 → Wd → Option (Int32 × Wd)) (v2 : Int32) (v3 : Int32) (v4 : Int32) (s0 : Int32)  (w : Wd) : Option (Int32 × Wd) :=
  (gI w 112 v4).bind fun x26 => (gI w 113 v4).bind fun x27 => k163 s0 (v2 + x26) (v3 + x27) (v4 + (1 : Int32)) w
noncomputable def jX9_canSum_197 (k163 : Int32 → Int32 → Int32 → Int32 → Wd → Option (Int32 × Wd)) (v2 : Int32) (v3 : Int32) (v4 : Int32)  (w : Wd) : Option (Int32 × Wd) :=
  jX9_canSum_198 k163 v2 v3 v4 (0 : Int32) w
noncomputable def bX9_canSum_163 (k163 : Int32 → Int32 → Int32 → Int32 → Wd → Option (Int32 × Wd)) (v1 : Int32) (v2 : Int32) (v3 : Int32) (v4 : Int32)  (w : Wd) : Option (Int32 × Wd) :=
  if (5 : Int32) ≤ v4 then if v1 = 0 then zr (0 : Int32) w else if v2 = v3 then bnd (fX9_reach w) fun x18 w19 => lp (fun _ _ _ => none) (bX9_canSum_242) G v2 x18 w19 else zr (0 : Int32) w else if v1 = 0 then jX9_canSum_197 k163 v2 v3 v4 w else (gI w 112 v4).bind fun x20 => if x20 < 0 then jX9_canSum_197 k163 v2 v3 v4 w else (gI w 113 v4).bind fun x21 => if x21 < 0 then jX9_canSum_197 k163 v2 v3 v4 w else jX9_canSum_198 k163 v2 v3 v4 (1 : Int32) w
noncomputable def bX9_canSum_65 (k65 : Int32 → Int32 → Wd → Option (Int32 × Wd)) (v1 : Int32) (v2 : Int32)  (w : Wd) : Option (Int32 × Wd) :=
  bnd (fX9_cells w) fun x2 w3 => if x2 ≤ v2 then lp (fun _ _ _ _ _ => none) (bX9_canSum_163) G v1 (0 : Int32) (0 : Int32) (0 : Int32) w3 else (gI w3 109 v2).bind fun x4 => (sI w3 111 v2 x4).bind fun w5 => (rmI v2 (w5.1 99 0)).bind fun x6 => (gI w5 112 x6).bind fun x7 => (gI w5 109 v2).bind fun x8 => (sI w5 112 x6 (x7 - x8)).bind fun w9 => (dvI v2 (w9.1 99 0)).bind fun x10 => (gI w9 113 x10).bind fun x11 => (gI w9 109 v2).bind fun x12 => (sI w9 113 x10 (x11 - x12)).bind fun w13 => if v1 = 0 then jX9_canSum_148 k65 v2 w13 else (gI w13 109 v2).bind fun x14 => (gI w13 110 v2).bind fun x15 => if x15 < x14 then jX9_canSum_148 k65 v2 w13 else jX9_canSum_149 k65 v2 (1 : Int32) w13
noncomputable def bX9_canSum_2 (k2 : Int32 → Wd → Option (Int32 × Wd)) (v1 : Int32)  (w : Wd) : Option (Int32 × Wd) :=
  if (5 : Int32) ≤ v1 then lp (fun _ _ _ => none) (bX9_canSum_65) G (1 : Int32) (0 : Int32) w else if (w.1 99 0) ≤ v1 then jX9_canSum_30 k2 v1 (0 : Int32) v1 w else (gI w 104 v1).bind fun x1 => jX9_canSum_30 k2 v1 x1 v1 w
noncomputable def fX9_canSum  (w : Wd) : Option (Int32 × Wd) :=
  lp (fun _ _ => none) (bX9_canSum_2) G (0 : Int32) w
abbrev rmX9_canSum : Room := { frames := 2, cells := 0, slots := 0, locals := 44 }
set_option maxHeartbeats 4000000 in
set_option maxRecDepth 100000 in
theorem kX9_canSum (l : Launch) (E : Ev)  (w : Wd) (q : Int32 × Wd) (h : fX9_canSum w = some q) : CtI l yX9_canSum wsX9_canSum rmX9_canSum E full [.ref (E.2.1 99)] w q := by
  refine mkZ (cc := cX9_canSum) (maxL := 5) (by decide) rfl (Nat.le_of_ble_eq_true rfl) ?_
  intro p e s m args below meth c Q S hW hQ ls hl
  obtain ⟨hx, hb, hml, hown, hts⟩ := id S
  have hW0 := hW
  have hS : va_S (wA E full) s.heap s.heap [] := va_S.rf
  have hl : lv_has ls 5 [(0, .ref (E.2.1 99))] := hl
  have iX9 : ∀ w ∈ wsX90, w ∈ wsX9_canSum := by decide +kernel
  have e22 := hts (.fieldLink RX9 22 "CubeHeapsModel" "columnSum" "[I") (by decide +kernel)
  have e25 := hts (.fieldLink RX9 25 "CubeHeapsModel" "rowSum" "[I") (by decide +kernel)
  have e42 := hts (.fieldLink RX9 42 "CubeHeapsModel" "low" "[I") (by decide +kernel)
  have e45 := hts (.fieldLink RX9 45 "CubeHeapsModel" "high" "[I") (by decide +kernel)
  have e48 := hts (.fieldLink RX9 48 "CubeHeapsModel" "flow" "[I") (by decide +kernel)
  have e51 := hts (.fieldLink RX9 51 "CubeHeapsModel" "leftColumn" "[I") (by decide +kernel)
  have e54 := hts (.fieldLink RX9 54 "CubeHeapsModel" "leftRow" "[I") (by decide +kernel)
  have e85 := hts (.fieldLink RX9 85 "CubeHeapsModel" "wide" "I") (by decide +kernel)
  have e88 := hts (.fieldLink RX9 88 "CubeHeapsModel" "tall" "I") (by decide +kernel)
  have J242 : ∀ (n : Nat) (v2 : Int32) (v4 : Int32) (w : Wd) (H : Heap) (locs : List Loc) (ls : Array Slot), lp (fun _ _ _ => none) (bX9_canSum_242) n v2 v4 w = some q → World E full w s H → va_S (wA E full) s.heap H locs → lv_has ls 5 [(0, .ref (E.2.1 99)), (2, .int v2), (4, .int v4)] → W p l e rmX9_canSum s m args below meth c H locs 0 0 Q (F0 m 242 ls []) := by
    intro n
    induction n with
    | zero =>
      intro v2 v4 w H locs ls h hW hS hl
      exact absurd (show (none : Option (Int32 × Wd)) = some q from h) (fun z => by cases z)
    | succ n ih242 =>
      intro v2 v4 w H locs ls h hW hS hl
      have h : bX9_canSum_242 (lp (fun _ _ _ => none) (bX9_canSum_242) n) v2 v4 w = some q := h
      generalize lp (fun _ _ _ => none) (bX9_canSum_242) n = k242 at h ih242
      unfold bX9_canSum_242 at h
      refine lv_iload hx hb dX9_canSum_242 (lv_at hl 2 rfl) ?_
      refine lv_bipush (v := (-9 : Int32)) hx hb dX9_canSum_244 (by decide) ?_
      refine rb_icmp_eq (tgt := 267) hx hb h dX9_canSum_246 (by decide) (fun h => ?_) (fun h => ?_)
      · refine lv_iload_n hx hb dX9_canSum_267 rfl (lv_at hl 1 rfl) ?_
        refine rb_if_ne (tgt := 275) hx hb h dX9_canSum_268 (by decide) (fun h => ?_) (fun h => ?_)
        · refine lv_iconst (v := (0 : Int32)) hx hb dX9_canSum_275 (by decide) ?_
          exact rrZ hQ hW hS h dX9_canSum_276
        · refine lv_iconst (v := (1 : Int32)) hx hb dX9_canSum_271 (by decide) ?_
          refine lv_goto (tgt := 276) hx hb dX9_canSum_272 (by decide) ?_
          exact rrZ hQ hW hS h dX9_canSum_276
      · refine lv_aload_n hx hb dX9_canSum_249 rfl (lv_at hl 0 rfl) ?_
        refine lv_iload hx hb dX9_canSum_250 (lv_at hl 2 rfl) ?_
        refine rc_Vv (k := 99) (As := [.int v4]) (rest := []) S hW hS h (kX9_take l E v4 w) (cwV 1 hts gX9_canSum_X9_take rfl rfl rfl hdX9_take ⟨Nat.le_of_ble_eq_true rfl, Nat.le_of_ble_eq_true rfl⟩) (fl 99 rfl) rfl rfl rfl rfl hl.1 rfl (Nat.le_of_ble_eq_true rfl) ⟨Nat.zero_le _, Nat.zero_le _⟩ dX9_canSum_252 (fun _ w23 H locs h hW hS => ?_)
        refine lv_iinc (v := (v2 + (-1 : Int32))) (lv' := [(2, .int (v2 + (-1 : Int32))), (0, .ref (E.2.1 99)), (4, .int v4)]) hx hb dX9_canSum_255 hl (k := 1) rfl rfl (by decide) rfl (fun ls hl => ?_)
        refine lv_aload_n hx hb dX9_canSum_258 rfl (lv_at hl 1 rfl) ?_
        refine rc_Vi (k := 99) (As := []) (rest := []) S hW hS h (kX9_reach l E  w23) (cwV 0 hts gX9_canSum_X9_reach rfl rfl rfl hdX9_reach ⟨Nat.le_of_ble_eq_true rfl, Nat.le_of_ble_eq_true rfl⟩) (fl 99 rfl) rfl rfl rfl rfl hl.1 rfl (Nat.le_of_ble_eq_true rfl) ⟨Nat.zero_le _, Nat.zero_le _⟩ dX9_canSum_259 (fun x24 w25 H locs h hW hS => ?_)
        refine lv_istore (lv' := [(4, .int x24), (2, .int (v2 + (-1 : Int32))), (0, .ref (E.2.1 99))]) hx hb dX9_canSum_262 hl (by decide) rfl (fun ls hl => ?_)
        refine lv_goto (tgt := 242) hx hb dX9_canSum_264 (by decide) ?_
        exact ih242 _ _ _ _ _ _ h hW hS (lv_sub hl [2, 1, 0] rfl)
  have J163 : ∀ (n : Nat) (v1 : Int32) (v2 : Int32) (v3 : Int32) (v4 : Int32) (w : Wd) (H : Heap) (locs : List Loc) (ls : Array Slot), lp (fun _ _ _ _ _ => none) (bX9_canSum_163) n v1 v2 v3 v4 w = some q → World E full w s H → va_S (wA E full) s.heap H locs → lv_has ls 5 [(0, .ref (E.2.1 99)), (1, .int v1), (2, .int v2), (3, .int v3), (4, .int v4)] → W p l e rmX9_canSum s m args below meth c H locs 0 0 Q (F0 m 163 ls []) := by
    intro n
    induction n with
    | zero =>
      intro v1 v2 v3 v4 w H locs ls h hW hS hl
      exact absurd (show (none : Option (Int32 × Wd)) = some q from h) (fun z => by cases z)
    | succ n ih163 =>
      intro v1 v2 v3 v4 w H locs ls h hW hS hl
      have h : bX9_canSum_163 (lp (fun _ _ _ _ _ => none) (bX9_canSum_163) n) v1 v2 v3 v4 w = some q := h
      generalize lp (fun _ _ _ _ _ => none) (bX9_canSum_163) n = k163 at h ih163
      have J198 : ∀ (v2 : Int32) (v3 : Int32) (v4 : Int32) (s0 : Int32) (w : Wd) (H : Heap) (locs : List Loc) (ls : Array Slot), jX9_canSum_198 k163 v2 v3 v4 s0 w = some q → World E full w s H → va_S (wA E full) s.heap H locs → lv_has ls 5 [(0, .ref (E.2.1 99)), (2, .int v2), (3, .int v3), (4, .int v4)] → W p l e rmX9_canSum s m args below meth c H locs 0 0 Q (F0 m 198 ls [.int s0]) := by
        intro v2 v3 v4 s0 w H locs ls h hW hS hl
        unfold jX9_canSum_198 at h
        refine lv_istore_n (lv' := [(1, .int s0), (0, .ref (E.2.1 99)), (2, .int v2), (3, .int v3), (4, .int v4)]) hx hb dX9_canSum_198 rfl hl (by decide) rfl (fun ls hl => ?_)
        refine lv_iload_n hx hb dX9_canSum_199 rfl (lv_at hl 2 rfl) ?_
        refine lv_aload_n hx hb dX9_canSum_200 rfl (lv_at hl 1 rfl) ?_
        refine rw_get hx hb hts iX9 hown hW (fl 99 rfl) rfl rfl 16 (by decide) e51 rfl (v := .ref (E.2.1 112)) rfl dX9_canSum_201 ?_
        refine lv_iload hx hb dX9_canSum_204 (lv_at hl 4 rfl) ?_
        refine rw_iald hx hb hW (fun _ => (fl 112 rfl)) h dX9_canSum_206 (fun x26 h => ?_)
        refine lv_iadd hx hb dX9_canSum_207 ?_
        refine lv_istore_n (lv' := [(2, .int (v2 + x26)), (1, .int s0), (0, .ref (E.2.1 99)), (3, .int v3), (4, .int v4)]) hx hb dX9_canSum_208 rfl hl (by decide) rfl (fun ls hl => ?_)
        refine lv_iload_n hx hb dX9_canSum_209 rfl (lv_at hl 3 rfl) ?_
        refine lv_aload_n hx hb dX9_canSum_210 rfl (lv_at hl 2 rfl) ?_
        refine rw_get hx hb hts iX9 hown hW (fl 99 rfl) rfl rfl 17 (by decide) e54 rfl (v := .ref (E.2.1 113)) rfl dX9_canSum_211 ?_
        refine lv_iload hx hb dX9_canSum_214 (lv_at hl 4 rfl) ?_
        refine rw_iald hx hb hW (fun _ => (fl 113 rfl)) h dX9_canSum_216 (fun x27 h => ?_)
        refine lv_iadd hx hb dX9_canSum_217 ?_
        refine lv_istore_n (lv' := [(3, .int (v3 + x27)), (2, .int (v2 + x26)), (1, .int s0), (0, .ref (E.2.1 99)), (4, .int v4)]) hx hb dX9_canSum_218 rfl hl (by decide) rfl (fun ls hl => ?_)
        refine lv_iinc (v := (v4 + (1 : Int32))) (lv' := [(4, .int (v4 + (1 : Int32))), (3, .int (v3 + x27)), (2, .int (v2 + x26)), (1, .int s0), (0, .ref (E.2.1 99))]) hx hb dX9_canSum_219 hl (k := 4) rfl rfl (by decide) rfl (fun ls hl => ?_)
        refine lv_goto (tgt := 163) hx hb dX9_canSum_222 (by decide) ?_
        exact ih163 _ _ _ _ _ _ _ _ h hW hS (lv_sub hl [4, 3, 2, 1, 0] rfl)
      have J197 : ∀ (v2 : Int32) (v3 : Int32) (v4 : Int32) (w : Wd) (H : Heap) (locs : List Loc) (ls : Array Slot), jX9_canSum_197 k163 v2 v3 v4 w = some q → World E full w s H → va_S (wA E full) s.heap H locs → lv_has ls 5 [(0, .ref (E.2.1 99)), (2, .int v2), (3, .int v3), (4, .int v4)] → W p l e rmX9_canSum s m args below meth c H locs 0 0 Q (F0 m 197 ls []) := by
        intro v2 v3 v4 w H locs ls h hW hS hl
        unfold jX9_canSum_197 at h
        refine lv_iconst (v := (0 : Int32)) hx hb dX9_canSum_197 (by decide) ?_
        exact J198 _ _ _ _ _ _ _ _ h hW hS (hl)
      unfold bX9_canSum_163 at h
      refine lv_iload hx hb dX9_canSum_163 (lv_at hl 4 rfl) ?_
      refine lv_iconst (v := (5 : Int32)) hx hb dX9_canSum_165 (by decide) ?_
      refine rb_icmp_ge (tgt := 225) hx hb h dX9_canSum_166 (by decide) (fun h => ?_) (fun h => ?_)
      · refine lv_iload_n hx hb dX9_canSum_225 rfl (lv_at hl 1 rfl) ?_
        refine rb_if_eq (tgt := 234) hx hb h dX9_canSum_226 (by decide) (fun h => ?_) (fun h => ?_)
        · refine lv_iconst (v := (0 : Int32)) hx hb dX9_canSum_234 (by decide) ?_
          exact rrZ hQ hW hS h dX9_canSum_235
        · refine lv_iload_n hx hb dX9_canSum_229 rfl (lv_at hl 2 rfl) ?_
          refine lv_iload_n hx hb dX9_canSum_230 rfl (lv_at hl 3 rfl) ?_
          refine rb_icmp_eq (tgt := 236) hx hb h dX9_canSum_231 (by decide) (fun h => ?_) (fun h => ?_)
          · refine lv_aload_n hx hb dX9_canSum_236 rfl (lv_at hl 0 rfl) ?_
            refine rc_Vi (k := 99) (As := []) (rest := []) S hW hS h (kX9_reach l E  w) (cwV 0 hts gX9_canSum_X9_reach rfl rfl rfl hdX9_reach ⟨Nat.le_of_ble_eq_true rfl, Nat.le_of_ble_eq_true rfl⟩) (fl 99 rfl) rfl rfl rfl rfl hl.1 rfl (Nat.le_of_ble_eq_true rfl) ⟨Nat.zero_le _, Nat.zero_le _⟩ dX9_canSum_237 (fun x18 w19 H locs h hW hS => ?_)
            refine lv_istore (lv' := [(4, .int x18), (0, .ref (E.2.1 99)), (1, .int v1), (2, .int v2), (3, .int v3)]) hx hb dX9_canSum_240 hl (by decide) rfl (fun ls hl => ?_)
            exact J242 _ _ _ _ _ _ _ h hW hS (lv_sub hl [1, 3, 0] rfl)
          · refine lv_iconst (v := (0 : Int32)) hx hb dX9_canSum_234 (by decide) ?_
            exact rrZ hQ hW hS h dX9_canSum_235
      · refine lv_iload_n hx hb dX9_canSum_169 rfl (lv_at hl 1 rfl) ?_
        refine rb_if_eq (tgt := 197) hx hb h dX9_canSum_170 (by decide) (fun h => ?_) (fun h => ?_)
        · exact J197 _ _ _ _ _ _ _ h hW hS (lv_sub hl [0, 2, 3, 4] rfl)
        · refine lv_aload_n hx hb dX9_canSum_173 rfl (lv_at hl 0 rfl) ?_
          refine rw_get hx hb hts iX9 hown hW (fl 99 rfl) rfl rfl 16 (by decide) e51 rfl (v := .ref (E.2.1 112)) rfl dX9_canSum_174 ?_
          refine lv_iload hx hb dX9_canSum_177 (lv_at hl 4 rfl) ?_
          refine rw_iald hx hb hW (fun _ => (fl 112 rfl)) h dX9_canSum_179 (fun x20 h => ?_)
          refine rb_if_lt (tgt := 197) hx hb h dX9_canSum_180 (by decide) (fun h => ?_) (fun h => ?_)
          · exact J197 _ _ _ _ _ _ _ h hW hS (lv_sub hl [0, 2, 3, 4] rfl)
          · refine lv_aload_n hx hb dX9_canSum_183 rfl (lv_at hl 0 rfl) ?_
            refine rw_get hx hb hts iX9 hown hW (fl 99 rfl) rfl rfl 17 (by decide) e54 rfl (v := .ref (E.2.1 113)) rfl dX9_canSum_184 ?_
            refine lv_iload hx hb dX9_canSum_187 (lv_at hl 4 rfl) ?_
            refine rw_iald hx hb hW (fun _ => (fl 113 rfl)) h dX9_canSum_189 (fun x21 h => ?_)
            refine rb_if_lt (tgt := 197) hx hb h dX9_canSum_190 (by decide) (fun h => ?_) (fun h => ?_)
            · exact J197 _ _ _ _ _ _ _ h hW hS (lv_sub hl [0, 2, 3, 4] rfl)
            · refine lv_iconst (v := (1 : Int32)) hx hb dX9_canSum_193 (by decide) ?_
              refine lv_goto (tgt := 198) hx hb dX9_canSum_194 (by decide) ?_
              exact J198 _ _ _ _ _ _ _ _ h hW hS (lv_sub hl [0, 2, 3, 4] rfl)
  have J65 : ∀ (n : Nat) (v1 : Int32) (v2 : Int32) (w : Wd) (H : Heap) (locs : List Loc) (ls : Array Slot), lp (fun _ _ _ => none) (bX9_canSum_65) n v1 v2 w = some q → World E full w s H → va_S (wA E full) s.heap H locs → lv_has ls 5 [(0, .ref (E.2.1 99)), (1, .int v1), (2, .int v2)] → W p l e rmX9_canSum s m args below meth c H locs 0 0 Q (F0 m 65 ls []) := by
    intro n
    induction n with
    | zero =>
      intro v1 v2 w H locs ls h hW hS hl
      exact absurd (show (none : Option (Int32 × Wd)) = some q from h) (fun z => by cases z)
    | succ n ih65 =>
      intro v1 v2 w H locs ls h hW hS hl
      have h : bX9_canSum_65 (lp (fun _ _ _ => none) (bX9_canSum_65) n) v1 v2 w = some q := h
      generalize lp (fun _ _ _ => none) (bX9_canSum_65) n = k65 at h ih65
      have J149 : ∀ (v2 : Int32) (s0 : Int32) (w : Wd) (H : Heap) (locs : List Loc) (ls : Array Slot), jX9_canSum_149 k65 v2 s0 w = some q → World E full w s H → va_S (wA E full) s.heap H locs → lv_has ls 5 [(0, .ref (E.2.1 99)), (2, .int v2)] → W p l e rmX9_canSum s m args below meth c H locs 0 0 Q (F0 m 149 ls [.int s0]) := by
        intro v2 s0 w H locs ls h hW hS hl
        unfold jX9_canSum_149 at h
        refine lv_istore_n (lv' := [(1, .int s0), (0, .ref (E.2.1 99)), (2, .int v2)]) hx hb dX9_canSum_149 rfl hl (by decide) rfl (fun ls hl => ?_)
        refine lv_iinc (v := (v2 + (1 : Int32))) (lv' := [(2, .int (v2 + (1 : Int32))), (1, .int s0), (0, .ref (E.2.1 99))]) hx hb dX9_canSum_150 hl (k := 2) rfl rfl (by decide) rfl (fun ls hl => ?_)
        refine lv_goto (tgt := 65) hx hb dX9_canSum_153 (by decide) ?_
        exact ih65 _ _ _ _ _ _ h hW hS (lv_sub hl [2, 1, 0] rfl)
      have J148 : ∀ (v2 : Int32) (w : Wd) (H : Heap) (locs : List Loc) (ls : Array Slot), jX9_canSum_148 k65 v2 w = some q → World E full w s H → va_S (wA E full) s.heap H locs → lv_has ls 5 [(0, .ref (E.2.1 99)), (2, .int v2)] → W p l e rmX9_canSum s m args below meth c H locs 0 0 Q (F0 m 148 ls []) := by
        intro v2 w H locs ls h hW hS hl
        unfold jX9_canSum_148 at h
        refine lv_iconst (v := (0 : Int32)) hx hb dX9_canSum_148 (by decide) ?_
        exact J149 _ _ _ _ _ _ h hW hS (hl)
      unfold bX9_canSum_65 at h
      refine lv_iload_n hx hb dX9_canSum_65 rfl (lv_at hl 2 rfl) ?_
      refine lv_aload_n hx hb dX9_canSum_66 rfl (lv_at hl 0 rfl) ?_
      refine rc_Vi (k := 99) (As := []) (rest := [.int v2]) S hW hS h (kX9_cells l E  w) (cwV 0 hts gX9_canSum_X9_cells rfl rfl rfl hdX9_cells ⟨Nat.le_of_ble_eq_true rfl, Nat.le_of_ble_eq_true rfl⟩) (fl 99 rfl) rfl rfl rfl rfl hl.1 rfl (Nat.le_of_ble_eq_true rfl) ⟨Nat.zero_le _, Nat.zero_le _⟩ dX9_canSum_67 (fun x2 w3 H locs h hW hS => ?_)
      refine rb_icmp_ge (tgt := 156) hx hb h dX9_canSum_70 (by decide) (fun h => ?_) (fun h => ?_)
      · refine lv_iconst (v := (0 : Int32)) hx hb dX9_canSum_156 (by decide) ?_
        refine lv_istore_n (lv' := [(2, .int (0 : Int32)), (0, .ref (E.2.1 99)), (1, .int v1)]) hx hb dX9_canSum_157 rfl hl (by decide) rfl (fun ls hl => ?_)
        refine lv_iconst (v := (0 : Int32)) hx hb dX9_canSum_158 (by decide) ?_
        refine lv_istore_n (lv' := [(3, .int (0 : Int32)), (2, .int (0 : Int32)), (0, .ref (E.2.1 99)), (1, .int v1)]) hx hb dX9_canSum_159 rfl hl (by decide) rfl (fun ls hl => ?_)
        refine lv_iconst (v := (0 : Int32)) hx hb dX9_canSum_160 (by decide) ?_
        refine lv_istore (lv' := [(4, .int (0 : Int32)), (3, .int (0 : Int32)), (2, .int (0 : Int32)), (0, .ref (E.2.1 99)), (1, .int v1)]) hx hb dX9_canSum_161 hl (by decide) rfl (fun ls hl => ?_)
        exact J163 _ _ _ _ _ _ _ _ _ h hW hS (lv_sub hl [3, 4, 2, 1, 0] rfl)
      · refine lv_aload_n hx hb dX9_canSum_73 rfl (lv_at hl 0 rfl) ?_
        refine rw_get hx hb hts iX9 hown hW (fl 99 rfl) rfl rfl 15 (by decide) e48 rfl (v := .ref (E.2.1 111)) rfl dX9_canSum_74 ?_
        refine lv_iload_n hx hb dX9_canSum_77 rfl (lv_at hl 2 rfl) ?_
        refine lv_aload_n hx hb dX9_canSum_78 rfl (lv_at hl 0 rfl) ?_
        refine rw_get hx hb hts iX9 hown hW (fl 99 rfl) rfl rfl 13 (by decide) e42 rfl (v := .ref (E.2.1 109)) rfl dX9_canSum_79 ?_
        refine lv_iload_n hx hb dX9_canSum_82 rfl (lv_at hl 2 rfl) ?_
        refine rw_iald hx hb hW (fun _ => (fl 109 rfl)) h dX9_canSum_83 (fun x4 h => ?_)
        refine rw_iast hx hb hW hS (fun _ => (fl 111 rfl)) h dX9_canSum_84 (fun w5 H locs h hW hS => ?_)
        refine lv_aload_n hx hb dX9_canSum_85 rfl (lv_at hl 0 rfl) ?_
        refine rw_get hx hb hts iX9 hown hW (fl 99 rfl) rfl rfl 16 (by decide) e51 rfl (v := .ref (E.2.1 112)) rfl dX9_canSum_86 ?_
        refine lv_iload_n hx hb dX9_canSum_89 rfl (lv_at hl 2 rfl) ?_
        refine lv_aload_n hx hb dX9_canSum_90 rfl (lv_at hl 0 rfl) ?_
        refine rw_get hx hb hts iX9 hown hW (fl 99 rfl) rfl rfl 0 (by decide) e85 rfl (v := .int (w5.1 99 0)) rfl dX9_canSum_91 ?_
        refine rb_rem hx hb h dX9_canSum_94 (fun x6 h => ?_)
        refine lv_dup2_11 hx hb dX9_canSum_95 rfl rfl ?_
        refine rw_iald hx hb hW (fun _ => (fl 112 rfl)) h dX9_canSum_96 (fun x7 h => ?_)
        refine lv_aload_n hx hb dX9_canSum_97 rfl (lv_at hl 0 rfl) ?_
        refine rw_get hx hb hts iX9 hown hW (fl 99 rfl) rfl rfl 13 (by decide) e42 rfl (v := .ref (E.2.1 109)) rfl dX9_canSum_98 ?_
        refine lv_iload_n hx hb dX9_canSum_101 rfl (lv_at hl 2 rfl) ?_
        refine rw_iald hx hb hW (fun _ => (fl 109 rfl)) h dX9_canSum_102 (fun x8 h => ?_)
        refine lv_isub hx hb dX9_canSum_103 ?_
        refine rw_iast hx hb hW hS (fun _ => (fl 112 rfl)) h dX9_canSum_104 (fun w9 H locs h hW hS => ?_)
        refine lv_aload_n hx hb dX9_canSum_105 rfl (lv_at hl 0 rfl) ?_
        refine rw_get hx hb hts iX9 hown hW (fl 99 rfl) rfl rfl 17 (by decide) e54 rfl (v := .ref (E.2.1 113)) rfl dX9_canSum_106 ?_
        refine lv_iload_n hx hb dX9_canSum_109 rfl (lv_at hl 2 rfl) ?_
        refine lv_aload_n hx hb dX9_canSum_110 rfl (lv_at hl 0 rfl) ?_
        refine rw_get hx hb hts iX9 hown hW (fl 99 rfl) rfl rfl 0 (by decide) e85 rfl (v := .int (w9.1 99 0)) rfl dX9_canSum_111 ?_
        refine rb_div hx hb h dX9_canSum_114 (fun x10 h => ?_)
        refine lv_dup2_11 hx hb dX9_canSum_115 rfl rfl ?_
        refine rw_iald hx hb hW (fun _ => (fl 113 rfl)) h dX9_canSum_116 (fun x11 h => ?_)
        refine lv_aload_n hx hb dX9_canSum_117 rfl (lv_at hl 0 rfl) ?_
        refine rw_get hx hb hts iX9 hown hW (fl 99 rfl) rfl rfl 13 (by decide) e42 rfl (v := .ref (E.2.1 109)) rfl dX9_canSum_118 ?_
        refine lv_iload_n hx hb dX9_canSum_121 rfl (lv_at hl 2 rfl) ?_
        refine rw_iald hx hb hW (fun _ => (fl 109 rfl)) h dX9_canSum_122 (fun x12 h => ?_)
        refine lv_isub hx hb dX9_canSum_123 ?_
        refine rw_iast hx hb hW hS (fun _ => (fl 113 rfl)) h dX9_canSum_124 (fun w13 H locs h hW hS => ?_)
        refine lv_iload_n hx hb dX9_canSum_125 rfl (lv_at hl 1 rfl) ?_
        refine rb_if_eq (tgt := 148) hx hb h dX9_canSum_126 (by decide) (fun h => ?_) (fun h => ?_)
        · exact J148 _ _ _ _ _ h hW hS (lv_sub hl [0, 2] rfl)
        · refine lv_aload_n hx hb dX9_canSum_129 rfl (lv_at hl 0 rfl) ?_
          refine rw_get hx hb hts iX9 hown hW (fl 99 rfl) rfl rfl 13 (by decide) e42 rfl (v := .ref (E.2.1 109)) rfl dX9_canSum_130 ?_
          refine lv_iload_n hx hb dX9_canSum_133 rfl (lv_at hl 2 rfl) ?_
          refine rw_iald hx hb hW (fun _ => (fl 109 rfl)) h dX9_canSum_134 (fun x14 h => ?_)
          refine lv_aload_n hx hb dX9_canSum_135 rfl (lv_at hl 0 rfl) ?_
          refine rw_get hx hb hts iX9 hown hW (fl 99 rfl) rfl rfl 14 (by decide) e45 rfl (v := .ref (E.2.1 110)) rfl dX9_canSum_136 ?_
          refine lv_iload_n hx hb dX9_canSum_139 rfl (lv_at hl 2 rfl) ?_
          refine rw_iald hx hb hW (fun _ => (fl 110 rfl)) h dX9_canSum_140 (fun x15 h => ?_)
          refine rb_icmp_gt (tgt := 148) hx hb h dX9_canSum_141 (by decide) (fun h => ?_) (fun h => ?_)
          · exact J148 _ _ _ _ _ h hW hS (lv_sub hl [0, 2] rfl)
          · refine lv_iconst (v := (1 : Int32)) hx hb dX9_canSum_144 (by decide) ?_
            refine lv_goto (tgt := 149) hx hb dX9_canSum_145 (by decide) ?_
            exact J149 _ _ _ _ _ _ h hW hS (lv_sub hl [0, 2] rfl)
  have J2 : ∀ (n : Nat) (v1 : Int32) (w : Wd) (H : Heap) (locs : List Loc) (ls : Array Slot), lp (fun _ _ => none) (bX9_canSum_2) n v1 w = some q → World E full w s H → va_S (wA E full) s.heap H locs → lv_has ls 5 [(0, .ref (E.2.1 99)), (1, .int v1)] → W p l e rmX9_canSum s m args below meth c H locs 0 0 Q (F0 m 2 ls []) := by
    intro n
    induction n with
    | zero =>
      intro v1 w H locs ls h hW hS hl
      exact absurd (show (none : Option (Int32 × Wd)) = some q from h) (fun z => by cases z)
    | succ n ih2 =>
      intro v1 w H locs ls h hW hS hl
      have h : bX9_canSum_2 (lp (fun _ _ => none) (bX9_canSum_2) n) v1 w = some q := h
      generalize lp (fun _ _ => none) (bX9_canSum_2) n = k2 at h ih2
      have J54 : ∀ (v1 : Int32) (s0 : Int32) (s1 : Int32) (w : Wd) (H : Heap) (locs : List Loc) (ls : Array Slot), jX9_canSum_54 k2 v1 s0 s1 w = some q → World E full w s H → va_S (wA E full) s.heap H locs → lv_has ls 5 [(0, .ref (E.2.1 99)), (1, .int v1)] → W p l e rmX9_canSum s m args below meth c H locs 0 0 Q (F0 m 54 ls [.int s0, .int s1, .ref (E.2.1 113)]) := by
        intro v1 s0 s1 w H locs ls h hW hS hl
        unfold jX9_canSum_54 at h
        refine rw_iast hx hb hW hS (fun _ => (fl 113 rfl)) h dX9_canSum_54 (fun w22 H locs h hW hS => ?_)
        refine lv_iinc (v := (v1 + (1 : Int32))) (lv' := [(1, .int (v1 + (1 : Int32))), (0, .ref (E.2.1 99))]) hx hb dX9_canSum_55 hl (k := 1) rfl rfl (by decide) rfl (fun ls hl => ?_)
        refine lv_goto (tgt := 2) hx hb dX9_canSum_58 (by decide) ?_
        exact ih2 _ _ _ _ _ h hW hS (lv_sub hl [1, 0] rfl)
      have J30 : ∀ (v1 : Int32) (s0 : Int32) (s1 : Int32) (w : Wd) (H : Heap) (locs : List Loc) (ls : Array Slot), jX9_canSum_30 k2 v1 s0 s1 w = some q → World E full w s H → va_S (wA E full) s.heap H locs → lv_has ls 5 [(0, .ref (E.2.1 99)), (1, .int v1)] → W p l e rmX9_canSum s m args below meth c H locs 0 0 Q (F0 m 30 ls [.int s0, .int s1, .ref (E.2.1 112)]) := by
        intro v1 s0 s1 w H locs ls h hW hS hl
        unfold jX9_canSum_30 at h
        refine rw_iast hx hb hW hS (fun _ => (fl 112 rfl)) h dX9_canSum_30 (fun w16 H locs h hW hS => ?_)
        refine lv_aload_n hx hb dX9_canSum_31 rfl (lv_at hl 0 rfl) ?_
        refine rw_get hx hb hts iX9 hown hW (fl 99 rfl) rfl rfl 17 (by decide) e54 rfl (v := .ref (E.2.1 113)) rfl dX9_canSum_32 ?_
        refine lv_iload_n hx hb dX9_canSum_35 rfl (lv_at hl 1 rfl) ?_
        refine lv_iload_n hx hb dX9_canSum_36 rfl (lv_at hl 1 rfl) ?_
        refine lv_aload_n hx hb dX9_canSum_37 rfl (lv_at hl 0 rfl) ?_
        refine rw_get hx hb hts iX9 hown hW (fl 99 rfl) rfl rfl 1 (by decide) e88 rfl (v := .int (w16.1 99 1)) rfl dX9_canSum_38 ?_
        refine rb_icmp_ge (tgt := 53) hx hb h dX9_canSum_41 (by decide) (fun h => ?_) (fun h => ?_)
        · refine lv_iconst (v := (0 : Int32)) hx hb dX9_canSum_53 (by decide) ?_
          exact J54 _ _ _ _ _ _ _ h hW hS (hl)
        · refine lv_aload_n hx hb dX9_canSum_44 rfl (lv_at hl 0 rfl) ?_
          refine rw_get hx hb hts iX9 hown hW (fl 99 rfl) rfl rfl 7 (by decide) e25 rfl (v := .ref (E.2.1 105)) rfl dX9_canSum_45 ?_
          refine lv_iload_n hx hb dX9_canSum_48 rfl (lv_at hl 1 rfl) ?_
          refine rw_iald hx hb hW (fun _ => (fl 105 rfl)) h dX9_canSum_49 (fun x17 h => ?_)
          refine lv_goto (tgt := 54) hx hb dX9_canSum_50 (by decide) ?_
          exact J54 _ _ _ _ _ _ _ h hW hS (hl)
      unfold bX9_canSum_2 at h
      refine lv_iload_n hx hb dX9_canSum_2 rfl (lv_at hl 1 rfl) ?_
      refine lv_iconst (v := (5 : Int32)) hx hb dX9_canSum_3 (by decide) ?_
      refine rb_icmp_ge (tgt := 61) hx hb h dX9_canSum_4 (by decide) (fun h => ?_) (fun h => ?_)
      · refine lv_iconst (v := (1 : Int32)) hx hb dX9_canSum_61 (by decide) ?_
        refine lv_istore_n (lv' := [(1, .int (1 : Int32)), (0, .ref (E.2.1 99))]) hx hb dX9_canSum_62 rfl hl (by decide) rfl (fun ls hl => ?_)
        refine lv_iconst (v := (0 : Int32)) hx hb dX9_canSum_63 (by decide) ?_
        refine lv_istore_n (lv' := [(2, .int (0 : Int32)), (1, .int (1 : Int32)), (0, .ref (E.2.1 99))]) hx hb dX9_canSum_64 rfl hl (by decide) rfl (fun ls hl => ?_)
        exact J65 _ _ _ _ _ _ _ h hW hS (lv_sub hl [2, 1, 0] rfl)
      · refine lv_aload_n hx hb dX9_canSum_7 rfl (lv_at hl 0 rfl) ?_
        refine rw_get hx hb hts iX9 hown hW (fl 99 rfl) rfl rfl 16 (by decide) e51 rfl (v := .ref (E.2.1 112)) rfl dX9_canSum_8 ?_
        refine lv_iload_n hx hb dX9_canSum_11 rfl (lv_at hl 1 rfl) ?_
        refine lv_iload_n hx hb dX9_canSum_12 rfl (lv_at hl 1 rfl) ?_
        refine lv_aload_n hx hb dX9_canSum_13 rfl (lv_at hl 0 rfl) ?_
        refine rw_get hx hb hts iX9 hown hW (fl 99 rfl) rfl rfl 0 (by decide) e85 rfl (v := .int (w.1 99 0)) rfl dX9_canSum_14 ?_
        refine rb_icmp_ge (tgt := 29) hx hb h dX9_canSum_17 (by decide) (fun h => ?_) (fun h => ?_)
        · refine lv_iconst (v := (0 : Int32)) hx hb dX9_canSum_29 (by decide) ?_
          exact J30 _ _ _ _ _ _ _ h hW hS (hl)
        · refine lv_aload_n hx hb dX9_canSum_20 rfl (lv_at hl 0 rfl) ?_
          refine rw_get hx hb hts iX9 hown hW (fl 99 rfl) rfl rfl 6 (by decide) e22 rfl (v := .ref (E.2.1 104)) rfl dX9_canSum_21 ?_
          refine lv_iload_n hx hb dX9_canSum_24 rfl (lv_at hl 1 rfl) ?_
          refine rw_iald hx hb hW (fun _ => (fl 104 rfl)) h dX9_canSum_25 (fun x1 h => ?_)
          refine lv_goto (tgt := 30) hx hb dX9_canSum_26 (by decide) ?_
          exact J30 _ _ _ _ _ _ _ h hW hS (hl)
  unfold fX9_canSum at h
  refine lv_iconst (v := (0 : Int32)) hx hb dX9_canSum_0 (by decide) ?_
  refine lv_istore_n (lv' := [(1, .int (0 : Int32)), (0, .ref (E.2.1 99))]) hx hb dX9_canSum_1 rfl hl (by decide) rfl (fun ls hl => ?_)
  exact J2 _ _ _ _ _ _ h hW hS (lv_sub hl [1, 0] rfl)
noncomputable def jX9_endOf_92 (p1 : Int32) (p2 : Int32) (v3 : Int32) (v4 : Int32) (v5 : Int32)  (w : Wd) : Option (Int32 × Wd) :=
  (sI w 109 p1 v3).bind fun w3 => (sI w3 110 p1 v4).bind fun w4 => some (v5, w4)
noncomputable def jX9_endOf_84 (p1 : Int32) (p2 : Int32) (k22 : Int32 → Int32 → Int32 → Int32 → Wd → Option (Int32 × Wd)) (v3 : Int32) (v4 : Int32) (v6 : Int32) (s0 : Int32)  (w : Wd) : Option (Int32 × Wd) :=
  k22 v3 v4 s0 (v6 + (1 : Int32)) w
noncomputable def jX9_endOf_52 (p1 : Int32) (p2 : Int32) (k22 : Int32 → Int32 → Int32 → Int32 → Wd → Option (Int32 × Wd)) (v3 : Int32) (v4 : Int32) (v6 : Int32) (s0 : Int32)  (w : Wd) : Option (Int32 × Wd) :=
  (sI w 109 p1 s0).bind fun w5 => (sI w5 110 p1 s0).bind fun w6 => bnd (fX9_canSum w6) fun x7 w8 => if x7 = 0 then jX9_endOf_84 p1 p2 k22 v3 v4 v6 (-9 : Int32) w8 else jX9_endOf_84 p1 p2 k22 v3 v4 v6 s0 w8
noncomputable def bX9_endOf_22 (p1 : Int32) (p2 : Int32) (k22 : Int32 → Int32 → Int32 → Int32 → Wd → Option (Int32 × Wd)) (v3 : Int32) (v4 : Int32) (v5 : Int32) (v6 : Int32)  (w : Wd) : Option (Int32 × Wd) :=
  if v4 < v6 then jX9_endOf_92 p1 p2 v3 v4 v5 w else if v5 = (-9 : Int32) then if p2 = 0 then jX9_endOf_52 p1 p2 k22 v3 v4 v6 v6 w else jX9_endOf_52 p1 p2 k22 v3 v4 v6 ((v4 + v3) - v6) w else jX9_endOf_92 p1 p2 v3 v4 v5 w
noncomputable def fX9_endOf (p1 : Int32) (p2 : Int32) (w : Wd) : Option (Int32 × Wd) :=
  (gI w 109 p1).bind fun x1 => (gI w 110 p1).bind fun x2 => lp (fun _ _ _ _ _ => none) (bX9_endOf_22 p1 p2) G x1 x2 (-9 : Int32) x1 w
abbrev rmX9_endOf : Room := { frames := 3, cells := 0, slots := 0, locals := 68 }
set_option maxHeartbeats 4000000 in
set_option maxRecDepth 100000 in
theorem kX9_endOf (l : Launch) (E : Ev) (p1 : Int32) (p2 : Int32) (w : Wd) (q : Int32 × Wd) (h : fX9_endOf p1 p2 w = some q) : CtI l yX9_endOf wsX9_endOf rmX9_endOf E full [.ref (E.2.1 99), .int p1, .int p2] w q := by
  refine mkI (cc := cX9_endOf) (maxL := 8) (by decide) rfl (Nat.le_of_ble_eq_true rfl) ?_
  intro p e s m args below meth c Q S hW hQ ls hl
  obtain ⟨hx, hb, hml, hown, hts⟩ := id S
  have hW0 := hW
  have hS : va_S (wA E full) s.heap s.heap [] := va_S.rf
  have hl : lv_has ls 8 [(0, .ref (E.2.1 99)), (1, .int p1), (2, .int p2)] := hl
  have iX9 : ∀ w ∈ wsX90, w ∈ wsX9_endOf := by decide +kernel
  have e42 := hts (.fieldLink RX9 42 "CubeHeapsModel" "low" "[I") (by decide +kernel)
  have e45 := hts (.fieldLink RX9 45 "CubeHeapsModel" "high" "[I") (by decide +kernel)
  have J92 : ∀ (v3 : Int32) (v4 : Int32) (v5 : Int32) (w : Wd) (H : Heap) (locs : List Loc) (ls : Array Slot), jX9_endOf_92 p1 p2 v3 v4 v5 w = some q → World E full w s H → va_S (wA E full) s.heap H locs → lv_has ls 8 [(0, .ref (E.2.1 99)), (1, .int p1), (3, .int v3), (4, .int v4), (5, .int v5)] → W p l e rmX9_endOf s m args below meth c H locs 0 0 Q (F0 m 92 ls []) := by
    intro v3 v4 v5 w H locs ls h hW hS hl
    unfold jX9_endOf_92 at h
    refine lv_aload_n hx hb dX9_endOf_92 rfl (lv_at hl 0 rfl) ?_
    refine rw_get hx hb hts iX9 hown hW (fl 99 rfl) rfl rfl 13 (by decide) e42 rfl (v := .ref (E.2.1 109)) rfl dX9_endOf_93 ?_
    refine lv_iload_n hx hb dX9_endOf_96 rfl (lv_at hl 1 rfl) ?_
    refine lv_iload_n hx hb dX9_endOf_97 rfl (lv_at hl 2 rfl) ?_
    refine rw_iast hx hb hW hS (fun _ => (fl 109 rfl)) h dX9_endOf_98 (fun w3 H locs h hW hS => ?_)
    refine lv_aload_n hx hb dX9_endOf_99 rfl (lv_at hl 0 rfl) ?_
    refine rw_get hx hb hts iX9 hown hW (fl 99 rfl) rfl rfl 14 (by decide) e45 rfl (v := .ref (E.2.1 110)) rfl dX9_endOf_100 ?_
    refine lv_iload_n hx hb dX9_endOf_103 rfl (lv_at hl 1 rfl) ?_
    refine lv_iload hx hb dX9_endOf_104 (lv_at hl 3 rfl) ?_
    refine rw_iast hx hb hW hS (fun _ => (fl 110 rfl)) h dX9_endOf_106 (fun w4 H locs h hW hS => ?_)
    refine lv_iload hx hb dX9_endOf_107 (lv_at hl 4 rfl) ?_
    exact rrI hQ hW hS h dX9_endOf_109
  have J22 : ∀ (n : Nat) (v3 : Int32) (v4 : Int32) (v5 : Int32) (v6 : Int32) (w : Wd) (H : Heap) (locs : List Loc) (ls : Array Slot), lp (fun _ _ _ _ _ => none) (bX9_endOf_22 p1 p2) n v3 v4 v5 v6 w = some q → World E full w s H → va_S (wA E full) s.heap H locs → lv_has ls 8 [(0, .ref (E.2.1 99)), (1, .int p1), (2, .int p2), (3, .int v3), (4, .int v4), (5, .int v5), (6, .int v6)] → W p l e rmX9_endOf s m args below meth c H locs 0 0 Q (F0 m 22 ls []) := by
    intro n
    induction n with
    | zero =>
      intro v3 v4 v5 v6 w H locs ls h hW hS hl
      exact absurd (show (none : Option (Int32 × Wd)) = some q from h) (fun z => by cases z)
    | succ n ih22 =>
      intro v3 v4 v5 v6 w H locs ls h hW hS hl
      have h : bX9_endOf_22 p1 p2 (lp (fun _ _ _ _ _ => none) (bX9_endOf_22 p1 p2) n) v3 v4 v5 v6 w = some q := h
      generalize lp (fun _ _ _ _ _ => none) (bX9_endOf_22 p1 p2) n = k22 at h ih22
      have J84 : ∀ (v3 : Int32) (v4 : Int32) (v6 : Int32) (s0 : Int32) (w : Wd) (H : Heap) (locs : List Loc) (ls : Array Slot), jX9_endOf_84 p1 p2 k22 v3 v4 v6 s0 w = some q → World E full w s H → va_S (wA E full) s.heap H locs → lv_has ls 8 [(0, .ref (E.2.1 99)), (1, .int p1), (2, .int p2), (3, .int v3), (4, .int v4), (6, .int v6)] → W p l e rmX9_endOf s m args below meth c H locs 0 0 Q (F0 m 84 ls [.int s0]) := by
        intro v3 v4 v6 s0 w H locs ls h hW hS hl
        unfold jX9_endOf_84 at h
        refine lv_istore (lv' := [(5, .int s0), (0, .ref (E.2.1 99)), (1, .int p1), (2, .int p2), (3, .int v3), (4, .int v4), (6, .int v6)]) hx hb dX9_endOf_84 hl (by decide) rfl (fun ls hl => ?_)
        refine lv_iinc (v := (v6 + (1 : Int32))) (lv' := [(6, .int (v6 + (1 : Int32))), (5, .int s0), (0, .ref (E.2.1 99)), (1, .int p1), (2, .int p2), (3, .int v3), (4, .int v4)]) hx hb dX9_endOf_86 hl (k := 6) rfl rfl (by decide) rfl (fun ls hl => ?_)
        refine lv_goto (tgt := 22) hx hb dX9_endOf_89 (by decide) ?_
        exact ih22 _ _ _ _ _ _ _ _ h hW hS (lv_sub hl [2, 3, 4, 5, 6, 1, 0] rfl)
      have J52 : ∀ (v3 : Int32) (v4 : Int32) (v6 : Int32) (s0 : Int32) (w : Wd) (H : Heap) (locs : List Loc) (ls : Array Slot), jX9_endOf_52 p1 p2 k22 v3 v4 v6 s0 w = some q → World E full w s H → va_S (wA E full) s.heap H locs → lv_has ls 8 [(0, .ref (E.2.1 99)), (1, .int p1), (2, .int p2), (3, .int v3), (4, .int v4), (6, .int v6)] → W p l e rmX9_endOf s m args below meth c H locs 0 0 Q (F0 m 52 ls [.int s0]) := by
        intro v3 v4 v6 s0 w H locs ls h hW hS hl
        unfold jX9_endOf_52 at h
        refine lv_istore (lv' := [(7, .int s0), (0, .ref (E.2.1 99)), (1, .int p1), (2, .int p2), (3, .int v3), (4, .int v4), (6, .int v6)]) hx hb dX9_endOf_52 hl (by decide) rfl (fun ls hl => ?_)
        refine lv_aload_n hx hb dX9_endOf_54 rfl (lv_at hl 1 rfl) ?_
        refine rw_get hx hb hts iX9 hown hW (fl 99 rfl) rfl rfl 13 (by decide) e42 rfl (v := .ref (E.2.1 109)) rfl dX9_endOf_55 ?_
        refine lv_iload_n hx hb dX9_endOf_58 rfl (lv_at hl 2 rfl) ?_
        refine lv_iload hx hb dX9_endOf_59 (lv_at hl 0 rfl) ?_
        refine rw_iast hx hb hW hS (fun _ => (fl 109 rfl)) h dX9_endOf_61 (fun w5 H locs h hW hS => ?_)
        refine lv_aload_n hx hb dX9_endOf_62 rfl (lv_at hl 1 rfl) ?_
        refine rw_get hx hb hts iX9 hown hW (fl 99 rfl) rfl rfl 14 (by decide) e45 rfl (v := .ref (E.2.1 110)) rfl dX9_endOf_63 ?_
        refine lv_iload_n hx hb dX9_endOf_66 rfl (lv_at hl 2 rfl) ?_
        refine lv_iload hx hb dX9_endOf_67 (lv_at hl 0 rfl) ?_
        refine rw_iast hx hb hW hS (fun _ => (fl 110 rfl)) h dX9_endOf_69 (fun w6 H locs h hW hS => ?_)
        refine lv_aload_n hx hb dX9_endOf_70 rfl (lv_at hl 1 rfl) ?_
        refine rc_Vi (k := 99) (As := []) (rest := []) S hW hS h (kX9_canSum l E  w6) (cwV 0 hts gX9_endOf_X9_canSum rfl rfl rfl hdX9_canSum ⟨Nat.le_of_ble_eq_true rfl, Nat.le_of_ble_eq_true rfl⟩) (fl 99 rfl) rfl rfl rfl rfl hl.1 rfl (Nat.le_of_ble_eq_true rfl) ⟨Nat.zero_le _, Nat.zero_le _⟩ dX9_endOf_71 (fun x7 w8 H locs h hW hS => ?_)
        refine rb_if_eq (tgt := 82) hx hb h dX9_endOf_74 (by decide) (fun h => ?_) (fun h => ?_)
        · refine lv_bipush (v := (-9 : Int32)) hx hb dX9_endOf_82 (by decide) ?_
          exact J84 _ _ _ _ _ _ _ _ h hW hS (lv_sub hl [1, 2, 3, 4, 5, 6] rfl)
        · refine lv_iload hx hb dX9_endOf_77 (lv_at hl 0 rfl) ?_
          refine lv_goto (tgt := 84) hx hb dX9_endOf_79 (by decide) ?_
          exact J84 _ _ _ _ _ _ _ _ h hW hS (lv_sub hl [1, 2, 3, 4, 5, 6] rfl)
      unfold bX9_endOf_22 at h
      refine lv_iload hx hb dX9_endOf_22 (lv_at hl 6 rfl) ?_
      refine lv_iload hx hb dX9_endOf_24 (lv_at hl 4 rfl) ?_
      refine rb_icmp_gt (tgt := 92) hx hb h dX9_endOf_26 (by decide) (fun h => ?_) (fun h => ?_)
      · exact J92 _ _ _ _ _ _ _ h hW hS (lv_sub hl [0, 1, 3, 4, 5] rfl)
      · refine lv_iload hx hb dX9_endOf_29 (lv_at hl 5 rfl) ?_
        refine lv_bipush (v := (-9 : Int32)) hx hb dX9_endOf_31 (by decide) ?_
        refine rb_icmp_ne (tgt := 92) hx hb h dX9_endOf_33 (by decide) (fun h => ?_) (fun h => ?_)
        · exact J92 _ _ _ _ _ _ _ h hW hS (lv_sub hl [0, 1, 3, 4, 5] rfl)
        · refine lv_iload_n hx hb dX9_endOf_36 rfl (lv_at hl 2 rfl) ?_
          refine rb_if_eq (tgt := 50) hx hb h dX9_endOf_37 (by decide) (fun h => ?_) (fun h => ?_)
          · refine lv_iload hx hb dX9_endOf_50 (lv_at hl 6 rfl) ?_
            exact J52 _ _ _ _ _ _ _ _ h hW hS (lv_sub hl [0, 1, 2, 3, 4, 6] rfl)
          · refine lv_iload hx hb dX9_endOf_40 (lv_at hl 4 rfl) ?_
            refine lv_iload_n hx hb dX9_endOf_42 rfl (lv_at hl 3 rfl) ?_
            refine lv_iadd hx hb dX9_endOf_43 ?_
            refine lv_iload hx hb dX9_endOf_44 (lv_at hl 6 rfl) ?_
            refine lv_isub hx hb dX9_endOf_46 ?_
            refine lv_goto (tgt := 52) hx hb dX9_endOf_47 (by decide) ?_
            exact J52 _ _ _ _ _ _ _ _ h hW hS (lv_sub hl [0, 1, 2, 3, 4, 6] rfl)
  unfold fX9_endOf at h
  refine lv_aload_n hx hb dX9_endOf_0 rfl (lv_at hl 0 rfl) ?_
  refine rw_get hx hb hts iX9 hown hW (fl 99 rfl) rfl rfl 13 (by decide) e42 rfl (v := .ref (E.2.1 109)) rfl dX9_endOf_1 ?_
  refine lv_iload_n hx hb dX9_endOf_4 rfl (lv_at hl 1 rfl) ?_
  refine rw_iald hx hb hW (fun _ => (fl 109 rfl)) h dX9_endOf_5 (fun x1 h => ?_)
  refine lv_istore_n (lv' := [(3, .int x1), (0, .ref (E.2.1 99)), (1, .int p1), (2, .int p2)]) hx hb dX9_endOf_6 rfl hl (by decide) rfl (fun ls hl => ?_)
  refine lv_aload_n hx hb dX9_endOf_7 rfl (lv_at hl 1 rfl) ?_
  refine rw_get hx hb hts iX9 hown hW (fl 99 rfl) rfl rfl 14 (by decide) e45 rfl (v := .ref (E.2.1 110)) rfl dX9_endOf_8 ?_
  refine lv_iload_n hx hb dX9_endOf_11 rfl (lv_at hl 2 rfl) ?_
  refine rw_iald hx hb hW (fun _ => (fl 110 rfl)) h dX9_endOf_12 (fun x2 h => ?_)
  refine lv_istore (lv' := [(4, .int x2), (3, .int x1), (0, .ref (E.2.1 99)), (1, .int p1), (2, .int p2)]) hx hb dX9_endOf_13 hl (by decide) rfl (fun ls hl => ?_)
  refine lv_bipush (v := (-9 : Int32)) hx hb dX9_endOf_15 (by decide) ?_
  refine lv_istore (lv' := [(5, .int (-9 : Int32)), (4, .int x2), (3, .int x1), (0, .ref (E.2.1 99)), (1, .int p1), (2, .int p2)]) hx hb dX9_endOf_17 hl (by decide) rfl (fun ls hl => ?_)
  refine lv_iload_n hx hb dX9_endOf_19 rfl (lv_at hl 2 rfl) ?_
  refine lv_istore (lv' := [(6, .int x1), (5, .int (-9 : Int32)), (4, .int x2), (3, .int x1), (0, .ref (E.2.1 99)), (1, .int p1), (2, .int p2)]) hx hb dX9_endOf_20 hl (by decide) rfl (fun ls hl => ?_)
  exact J22 _ _ _ _ _ _ _ _ _ h hW hS (lv_sub hl [4, 5, 6, 3, 2, 1, 0] rfl)
noncomputable def jX9_bySums_56 (v1 : Int32)  (w : Wd) : Option (Int32 × Wd) :=
  if v1 = 0 then some ((2 : Int32), w) else some ((1 : Int32), w)
noncomputable def jX9_bySums_49 (k17 : Int32 → Int32 → Wd → Option (Int32 × Wd)) (v2 : Int32) (s0 : Int32)  (w : Wd) : Option (Int32 × Wd) :=
  k17 s0 (v2 + (1 : Int32)) w
noncomputable def bX9_bySums_17 (k17 : Int32 → Int32 → Wd → Option (Int32 × Wd)) (v1 : Int32) (v2 : Int32)  (w : Wd) : Option (Int32 × Wd) :=
  bnd (fX9_cells w) fun x4 w5 => if x4 ≤ v2 then jX9_bySums_56 v1 w5 else if v1 = 0 then jX9_bySums_56 v1 w5 else bnd (fX9_endOf v2 (0 : Int32) w5) fun x6 w7 => bnd (fX9_endOf v2 (1 : Int32) w7) fun x8 w9 => if x6 = x8 then jX9_bySums_49 k17 v2 (1 : Int32) w9 else jX9_bySums_49 k17 v2 (0 : Int32) w9
noncomputable def fX9_bySums  (w : Wd) : Option (Int32 × Wd) :=
  bnd (fX9_layEnds w) fun _ w1 => bnd (fX9_canSum w1) fun x2 w3 => if x2 = 0 then some ((0 : Int32), w3) else lp (fun _ _ _ => none) (bX9_bySums_17) G (1 : Int32) (0 : Int32) w3
abbrev rmX9_bySums : Room := { frames := 4, cells := 0, slots := 0, locals := 95 }
set_option maxHeartbeats 4000000 in
set_option maxRecDepth 100000 in
theorem kX9_bySums (l : Launch) (E : Ev)  (w : Wd) (q : Int32 × Wd) (h : fX9_bySums w = some q) : CtI l yX9_bySums wsX9_bySums rmX9_bySums E full [.ref (E.2.1 99)] w q := by
  refine mkI (cc := cX9_bySums) (maxL := 3) (by decide) rfl (Nat.le_of_ble_eq_true rfl) ?_
  intro p e s m args below meth c Q S hW hQ ls hl
  obtain ⟨hx, hb, hml, hown, hts⟩ := id S
  have hW0 := hW
  have hS : va_S (wA E full) s.heap s.heap [] := va_S.rf
  have hl : lv_has ls 3 [(0, .ref (E.2.1 99))] := hl
  have J56 : ∀ (v1 : Int32) (w : Wd) (H : Heap) (locs : List Loc) (ls : Array Slot), jX9_bySums_56 v1 w = some q → World E full w s H → va_S (wA E full) s.heap H locs → lv_has ls 3 [(1, .int v1)] → W p l e rmX9_bySums s m args below meth c H locs 0 0 Q (F0 m 56 ls []) := by
    intro v1 w H locs ls h hW hS hl
    unfold jX9_bySums_56 at h
    refine lv_iload_n hx hb dX9_bySums_56 rfl (lv_at hl 0 rfl) ?_
    refine rb_if_eq (tgt := 64) hx hb h dX9_bySums_57 (by decide) (fun h => ?_) (fun h => ?_)
    · refine lv_iconst (v := (2 : Int32)) hx hb dX9_bySums_64 (by decide) ?_
      exact rrI hQ hW hS h dX9_bySums_65
    · refine lv_iconst (v := (1 : Int32)) hx hb dX9_bySums_60 (by decide) ?_
      refine lv_goto (tgt := 65) hx hb dX9_bySums_61 (by decide) ?_
      exact rrI hQ hW hS h dX9_bySums_65
  have J17 : ∀ (n : Nat) (v1 : Int32) (v2 : Int32) (w : Wd) (H : Heap) (locs : List Loc) (ls : Array Slot), lp (fun _ _ _ => none) (bX9_bySums_17) n v1 v2 w = some q → World E full w s H → va_S (wA E full) s.heap H locs → lv_has ls 3 [(0, .ref (E.2.1 99)), (1, .int v1), (2, .int v2)] → W p l e rmX9_bySums s m args below meth c H locs 0 0 Q (F0 m 17 ls []) := by
    intro n
    induction n with
    | zero =>
      intro v1 v2 w H locs ls h hW hS hl
      exact absurd (show (none : Option (Int32 × Wd)) = some q from h) (fun z => by cases z)
    | succ n ih17 =>
      intro v1 v2 w H locs ls h hW hS hl
      have h : bX9_bySums_17 (lp (fun _ _ _ => none) (bX9_bySums_17) n) v1 v2 w = some q := h
      generalize lp (fun _ _ _ => none) (bX9_bySums_17) n = k17 at h ih17
      have J49 : ∀ (v2 : Int32) (s0 : Int32) (w : Wd) (H : Heap) (locs : List Loc) (ls : Array Slot), jX9_bySums_49 k17 v2 s0 w = some q → World E full w s H → va_S (wA E full) s.heap H locs → lv_has ls 3 [(0, .ref (E.2.1 99)), (2, .int v2)] → W p l e rmX9_bySums s m args below meth c H locs 0 0 Q (F0 m 49 ls [.int s0]) := by
        intro v2 s0 w H locs ls h hW hS hl
        unfold jX9_bySums_49 at h
        refine lv_istore_n (lv' := [(1, .int s0), (0, .ref (E.2.1 99)), (2, .int v2)]) hx hb dX9_bySums_49 rfl hl (by decide) rfl (fun ls hl => ?_)
        refine lv_iinc (v := (v2 + (1 : Int32))) (lv' := [(2, .int (v2 + (1 : Int32))), (1, .int s0), (0, .ref (E.2.1 99))]) hx hb dX9_bySums_50 hl (k := 2) rfl rfl (by decide) rfl (fun ls hl => ?_)
        refine lv_goto (tgt := 17) hx hb dX9_bySums_53 (by decide) ?_
        exact ih17 _ _ _ _ _ _ h hW hS (lv_sub hl [2, 1, 0] rfl)
      unfold bX9_bySums_17 at h
      refine lv_iload_n hx hb dX9_bySums_17 rfl (lv_at hl 2 rfl) ?_
      refine lv_aload_n hx hb dX9_bySums_18 rfl (lv_at hl 0 rfl) ?_
      refine rc_Vi (k := 99) (As := []) (rest := [.int v2]) S hW hS h (kX9_cells l E  w) (cwV 0 hts gX9_bySums_X9_cells rfl rfl rfl hdX9_cells ⟨Nat.le_of_ble_eq_true rfl, Nat.le_of_ble_eq_true rfl⟩) (fl 99 rfl) rfl rfl rfl rfl hl.1 rfl (Nat.le_of_ble_eq_true rfl) ⟨Nat.zero_le _, Nat.zero_le _⟩ dX9_bySums_19 (fun x4 w5 H locs h hW hS => ?_)
      refine rb_icmp_ge (tgt := 56) hx hb h dX9_bySums_22 (by decide) (fun h => ?_) (fun h => ?_)
      · exact J56 _ _ _ _ _ h hW hS (lv_sub hl [1] rfl)
      · refine lv_iload_n hx hb dX9_bySums_25 rfl (lv_at hl 1 rfl) ?_
        refine rb_if_eq (tgt := 56) hx hb h dX9_bySums_26 (by decide) (fun h => ?_) (fun h => ?_)
        · exact J56 _ _ _ _ _ h hW hS (lv_sub hl [1] rfl)
        · refine lv_aload_n hx hb dX9_bySums_29 rfl (lv_at hl 0 rfl) ?_
          refine lv_iload_n hx hb dX9_bySums_30 rfl (lv_at hl 2 rfl) ?_
          refine lv_iconst (v := (0 : Int32)) hx hb dX9_bySums_31 (by decide) ?_
          refine rc_Vi (k := 99) (As := [.int v2, .int (0 : Int32)]) (rest := []) S hW hS h (kX9_endOf l E v2 (0 : Int32) w5) (cwV 2 hts gX9_bySums_X9_endOf rfl rfl rfl hdX9_endOf ⟨Nat.le_of_ble_eq_true rfl, Nat.le_of_ble_eq_true rfl⟩) (fl 99 rfl) rfl rfl rfl rfl hl.1 rfl (Nat.le_of_ble_eq_true rfl) ⟨Nat.zero_le _, Nat.zero_le _⟩ dX9_bySums_32 (fun x6 w7 H locs h hW hS => ?_)
          refine lv_aload_n hx hb dX9_bySums_35 rfl (lv_at hl 0 rfl) ?_
          refine lv_iload_n hx hb dX9_bySums_36 rfl (lv_at hl 2 rfl) ?_
          refine lv_iconst (v := (1 : Int32)) hx hb dX9_bySums_37 (by decide) ?_
          refine rc_Vi (k := 99) (As := [.int v2, .int (1 : Int32)]) (rest := [.int x6]) S hW hS h (kX9_endOf l E v2 (1 : Int32) w7) (cwV 2 hts gX9_bySums_X9_endOf rfl rfl rfl hdX9_endOf ⟨Nat.le_of_ble_eq_true rfl, Nat.le_of_ble_eq_true rfl⟩) (fl 99 rfl) rfl rfl rfl rfl hl.1 rfl (Nat.le_of_ble_eq_true rfl) ⟨Nat.zero_le _, Nat.zero_le _⟩ dX9_bySums_38 (fun x8 w9 H locs h hW hS => ?_)
          refine rb_icmp_ne (tgt := 48) hx hb h dX9_bySums_41 (by decide) (fun h => ?_) (fun h => ?_)
          · refine lv_iconst (v := (0 : Int32)) hx hb dX9_bySums_48 (by decide) ?_
            exact J49 _ _ _ _ _ _ h hW hS (lv_sub hl [0, 2] rfl)
          · refine lv_iconst (v := (1 : Int32)) hx hb dX9_bySums_44 (by decide) ?_
            refine lv_goto (tgt := 49) hx hb dX9_bySums_45 (by decide) ?_
            exact J49 _ _ _ _ _ _ h hW hS (lv_sub hl [0, 2] rfl)
  unfold fX9_bySums at h
  refine lv_aload_n hx hb dX9_bySums_0 rfl (lv_at hl 0 rfl) ?_
  refine rc_Vv (k := 99) (As := []) (rest := []) S hW hS h (kX9_layEnds l E  w) (cwV 0 hts gX9_bySums_X9_layEnds rfl rfl rfl hdX9_layEnds ⟨Nat.le_of_ble_eq_true rfl, Nat.le_of_ble_eq_true rfl⟩) (fl 99 rfl) rfl rfl rfl rfl hl.1 rfl (Nat.le_of_ble_eq_true rfl) ⟨Nat.zero_le _, Nat.zero_le _⟩ dX9_bySums_1 (fun _ w1 H locs h hW hS => ?_)
  refine lv_aload_n hx hb dX9_bySums_4 rfl (lv_at hl 0 rfl) ?_
  refine rc_Vi (k := 99) (As := []) (rest := []) S hW hS h (kX9_canSum l E  w1) (cwV 0 hts gX9_bySums_X9_canSum rfl rfl rfl hdX9_canSum ⟨Nat.le_of_ble_eq_true rfl, Nat.le_of_ble_eq_true rfl⟩) (fl 99 rfl) rfl rfl rfl rfl hl.1 rfl (Nat.le_of_ble_eq_true rfl) ⟨Nat.zero_le _, Nat.zero_le _⟩ dX9_bySums_5 (fun x2 w3 H locs h hW hS => ?_)
  refine rb_if_ne (tgt := 13) hx hb h dX9_bySums_8 (by decide) (fun h => ?_) (fun h => ?_)
  · refine lv_iconst (v := (1 : Int32)) hx hb dX9_bySums_13 (by decide) ?_
    refine lv_istore_n (lv' := [(1, .int (1 : Int32)), (0, .ref (E.2.1 99))]) hx hb dX9_bySums_14 rfl hl (by decide) rfl (fun ls hl => ?_)
    refine lv_iconst (v := (0 : Int32)) hx hb dX9_bySums_15 (by decide) ?_
    refine lv_istore_n (lv' := [(2, .int (0 : Int32)), (1, .int (1 : Int32)), (0, .ref (E.2.1 99))]) hx hb dX9_bySums_16 rfl hl (by decide) rfl (fun ls hl => ?_)
    exact J17 _ _ _ _ _ _ _ h hW hS (lv_sub hl [2, 1, 0] rfl)
  · refine lv_iconst (v := (0 : Int32)) hx hb dX9_bySums_11 (by decide) ?_
    exact rrI hQ hW hS h dX9_bySums_12
noncomputable def bX9_laySums_25 (p1 : Int32) (k25 : Int32 → Wd → Option (Int32 × Wd)) (v2 : Int32)  (w : Wd) : Option (Int32 × Wd) :=
  bnd (fX9_cells w) fun x6 w7 => if x6 ≤ v2 then bnd (fX9_cubesOf p1 w7) fun x8 w9 => some (x8, w9) else bnd (fX9_endOf v2 (0 : Int32) w7) fun x10 w11 => (sI w11 109 v2 x10).bind fun w12 => (sI w12 110 v2 x10).bind fun w13 => (sI w13 100 (((25 : Int32) * p1) + v2) x10).bind fun w14 => k25 (v2 + (1 : Int32)) w14
noncomputable def fX9_laySums (p1 : Int32) (w : Wd) : Option (Int32 × Wd) :=
  bnd (fX9_isSlot p1 w) fun x1 w2 => if x1 = 0 then some ((-1 : Int32), w2) else bnd (fX9_layEnds w2) fun _ w3 => bnd (fX9_canSum w3) fun x4 w5 => if x4 = 0 then some ((-3 : Int32), w5) else lp (fun _ _ => none) (bX9_laySums_25 p1) G (0 : Int32) w5
abbrev rmX9_laySums : Room := { frames := 4, cells := 0, slots := 0, locals := 95 }
set_option maxHeartbeats 4000000 in
set_option maxRecDepth 100000 in
theorem kX9_laySums (l : Launch) (E : Ev) (p1 : Int32) (w : Wd) (q : Int32 × Wd) (h : fX9_laySums p1 w = some q) : CtI l yX9_laySums wsX9_laySums rmX9_laySums E full [.ref (E.2.1 99), .int p1] w q := by
  refine mkI (cc := cX9_laySums) (maxL := 4) (by decide) rfl (Nat.le_of_ble_eq_true rfl) ?_
  intro p e s m args below meth c Q S hW hQ ls hl
  obtain ⟨hx, hb, hml, hown, hts⟩ := id S
  have hW0 := hW
  have hS : va_S (wA E full) s.heap s.heap [] := va_S.rf
  have hl : lv_has ls 4 [(0, .ref (E.2.1 99)), (1, .int p1)] := hl
  have iX9 : ∀ w ∈ wsX90, w ∈ wsX9_laySums := by decide +kernel
  have e7 := hts (.fieldLink RX9 7 "CubeHeapsModel" "heap" "[I") (by decide +kernel)
  have e42 := hts (.fieldLink RX9 42 "CubeHeapsModel" "low" "[I") (by decide +kernel)
  have e45 := hts (.fieldLink RX9 45 "CubeHeapsModel" "high" "[I") (by decide +kernel)
  have J25 : ∀ (n : Nat) (v2 : Int32) (w : Wd) (H : Heap) (locs : List Loc) (ls : Array Slot), lp (fun _ _ => none) (bX9_laySums_25 p1) n v2 w = some q → World E full w s H → va_S (wA E full) s.heap H locs → lv_has ls 4 [(0, .ref (E.2.1 99)), (1, .int p1), (2, .int v2)] → W p l e rmX9_laySums s m args below meth c H locs 0 0 Q (F0 m 25 ls []) := by
    intro n
    induction n with
    | zero =>
      intro v2 w H locs ls h hW hS hl
      exact absurd (show (none : Option (Int32 × Wd)) = some q from h) (fun z => by cases z)
    | succ n ih25 =>
      intro v2 w H locs ls h hW hS hl
      have h : bX9_laySums_25 p1 (lp (fun _ _ => none) (bX9_laySums_25 p1) n) v2 w = some q := h
      generalize lp (fun _ _ => none) (bX9_laySums_25 p1) n = k25 at h ih25
      unfold bX9_laySums_25 at h
      refine lv_iload_n hx hb dX9_laySums_25 rfl (lv_at hl 2 rfl) ?_
      refine lv_aload_n hx hb dX9_laySums_26 rfl (lv_at hl 0 rfl) ?_
      refine rc_Vi (k := 99) (As := []) (rest := [.int v2]) S hW hS h (kX9_cells l E  w) (cwV 0 hts gX9_laySums_X9_cells rfl rfl rfl hdX9_cells ⟨Nat.le_of_ble_eq_true rfl, Nat.le_of_ble_eq_true rfl⟩) (fl 99 rfl) rfl rfl rfl rfl hl.1 rfl (Nat.le_of_ble_eq_true rfl) ⟨Nat.zero_le _, Nat.zero_le _⟩ dX9_laySums_27 (fun x6 w7 H locs h hW hS => ?_)
      refine rb_icmp_ge (tgt := 72) hx hb h dX9_laySums_30 (by decide) (fun h => ?_) (fun h => ?_)
      · refine lv_aload_n hx hb dX9_laySums_72 rfl (lv_at hl 0 rfl) ?_
        refine lv_iload_n hx hb dX9_laySums_73 rfl (lv_at hl 1 rfl) ?_
        refine rc_Vi (k := 99) (As := [.int p1]) (rest := []) S hW hS h (kX9_cubesOf l E p1 w7) (cwV 1 hts gX9_laySums_X9_cubesOf rfl rfl rfl hdX9_cubesOf ⟨Nat.le_of_ble_eq_true rfl, Nat.le_of_ble_eq_true rfl⟩) (fl 99 rfl) rfl rfl rfl rfl hl.1 rfl (Nat.le_of_ble_eq_true rfl) ⟨Nat.zero_le _, Nat.zero_le _⟩ dX9_laySums_74 (fun x8 w9 H locs h hW hS => ?_)
        exact rrI hQ hW hS h dX9_laySums_77
      · refine lv_aload_n hx hb dX9_laySums_33 rfl (lv_at hl 0 rfl) ?_
        refine lv_iload_n hx hb dX9_laySums_34 rfl (lv_at hl 2 rfl) ?_
        refine lv_iconst (v := (0 : Int32)) hx hb dX9_laySums_35 (by decide) ?_
        refine rc_Vi (k := 99) (As := [.int v2, .int (0 : Int32)]) (rest := []) S hW hS h (kX9_endOf l E v2 (0 : Int32) w7) (cwV 2 hts gX9_laySums_X9_endOf rfl rfl rfl hdX9_endOf ⟨Nat.le_of_ble_eq_true rfl, Nat.le_of_ble_eq_true rfl⟩) (fl 99 rfl) rfl rfl rfl rfl hl.1 rfl (Nat.le_of_ble_eq_true rfl) ⟨Nat.zero_le _, Nat.zero_le _⟩ dX9_laySums_36 (fun x10 w11 H locs h hW hS => ?_)
        refine lv_istore_n (lv' := [(3, .int x10), (0, .ref (E.2.1 99)), (1, .int p1), (2, .int v2)]) hx hb dX9_laySums_39 rfl hl (by decide) rfl (fun ls hl => ?_)
        refine lv_aload_n hx hb dX9_laySums_40 rfl (lv_at hl 1 rfl) ?_
        refine rw_get hx hb hts iX9 hown hW (fl 99 rfl) rfl rfl 13 (by decide) e42 rfl (v := .ref (E.2.1 109)) rfl dX9_laySums_41 ?_
        refine lv_iload_n hx hb dX9_laySums_44 rfl (lv_at hl 3 rfl) ?_
        refine lv_iload_n hx hb dX9_laySums_45 rfl (lv_at hl 0 rfl) ?_
        refine rw_iast hx hb hW hS (fun _ => (fl 109 rfl)) h dX9_laySums_46 (fun w12 H locs h hW hS => ?_)
        refine lv_aload_n hx hb dX9_laySums_47 rfl (lv_at hl 1 rfl) ?_
        refine rw_get hx hb hts iX9 hown hW (fl 99 rfl) rfl rfl 14 (by decide) e45 rfl (v := .ref (E.2.1 110)) rfl dX9_laySums_48 ?_
        refine lv_iload_n hx hb dX9_laySums_51 rfl (lv_at hl 3 rfl) ?_
        refine lv_iload_n hx hb dX9_laySums_52 rfl (lv_at hl 0 rfl) ?_
        refine rw_iast hx hb hW hS (fun _ => (fl 110 rfl)) h dX9_laySums_53 (fun w13 H locs h hW hS => ?_)
        refine lv_aload_n hx hb dX9_laySums_54 rfl (lv_at hl 1 rfl) ?_
        refine rw_get hx hb hts iX9 hown hW (fl 99 rfl) rfl rfl 2 (by decide) e7 rfl (v := .ref (E.2.1 100)) rfl dX9_laySums_55 ?_
        refine lv_bipush (v := (25 : Int32)) hx hb dX9_laySums_58 (by decide) ?_
        refine lv_iload_n hx hb dX9_laySums_60 rfl (lv_at hl 2 rfl) ?_
        refine lv_imul hx hb dX9_laySums_61 ?_
        refine lv_iload_n hx hb dX9_laySums_62 rfl (lv_at hl 3 rfl) ?_
        refine lv_iadd hx hb dX9_laySums_63 ?_
        refine lv_iload_n hx hb dX9_laySums_64 rfl (lv_at hl 0 rfl) ?_
        refine rw_iast hx hb hW hS (fun _ => (fl 100 rfl)) h dX9_laySums_65 (fun w14 H locs h hW hS => ?_)
        refine lv_iinc (v := (v2 + (1 : Int32))) (lv' := [(2, .int (v2 + (1 : Int32))), (3, .int x10), (0, .ref (E.2.1 99)), (1, .int p1)]) hx hb dX9_laySums_66 hl (k := 3) rfl rfl (by decide) rfl (fun ls hl => ?_)
        refine lv_goto (tgt := 25) hx hb dX9_laySums_69 (by decide) ?_
        exact ih25 _ _ _ _ _ h hW hS (lv_sub hl [2, 3, 0] rfl)
  unfold fX9_laySums at h
  refine lv_iload_n hx hb dX9_laySums_0 rfl (lv_at hl 1 rfl) ?_
  refine rc_Si (As := [.int p1]) (rest := []) S hW hS h (kX9_isSlot l E p1 w) (va_cwS 1 hts gX9_laySums_X9_isSlot rfl rfl rfl hdX9_isSlot ⟨Nat.le_of_ble_eq_true rfl, Nat.le_of_ble_eq_true rfl⟩) rfl hl.1 rfl (Nat.le_of_ble_eq_true rfl) ⟨Nat.zero_le _, Nat.zero_le _⟩ dX9_laySums_1 (fun x1 w2 H locs h hW hS => ?_)
  refine rb_if_ne (tgt := 9) hx hb h dX9_laySums_4 (by decide) (fun h => ?_) (fun h => ?_)
  · refine lv_aload_n hx hb dX9_laySums_9 rfl (lv_at hl 0 rfl) ?_
    refine rc_Vv (k := 99) (As := []) (rest := []) S hW hS h (kX9_layEnds l E  w2) (cwV 0 hts gX9_laySums_X9_layEnds rfl rfl rfl hdX9_layEnds ⟨Nat.le_of_ble_eq_true rfl, Nat.le_of_ble_eq_true rfl⟩) (fl 99 rfl) rfl rfl rfl rfl hl.1 rfl (Nat.le_of_ble_eq_true rfl) ⟨Nat.zero_le _, Nat.zero_le _⟩ dX9_laySums_10 (fun _ w3 H locs h hW hS => ?_)
    refine lv_aload_n hx hb dX9_laySums_13 rfl (lv_at hl 0 rfl) ?_
    refine rc_Vi (k := 99) (As := []) (rest := []) S hW hS h (kX9_canSum l E  w3) (cwV 0 hts gX9_laySums_X9_canSum rfl rfl rfl hdX9_canSum ⟨Nat.le_of_ble_eq_true rfl, Nat.le_of_ble_eq_true rfl⟩) (fl 99 rfl) rfl rfl rfl rfl hl.1 rfl (Nat.le_of_ble_eq_true rfl) ⟨Nat.zero_le _, Nat.zero_le _⟩ dX9_laySums_14 (fun x4 w5 H locs h hW hS => ?_)
    refine rb_if_ne (tgt := 23) hx hb h dX9_laySums_17 (by decide) (fun h => ?_) (fun h => ?_)
    · refine lv_iconst (v := (0 : Int32)) hx hb dX9_laySums_23 (by decide) ?_
      refine lv_istore_n (lv' := [(2, .int (0 : Int32)), (0, .ref (E.2.1 99)), (1, .int p1)]) hx hb dX9_laySums_24 rfl hl (by decide) rfl (fun ls hl => ?_)
      exact J25 _ _ _ _ _ _ h hW hS (lv_sub hl [1, 2, 0] rfl)
    · refine lv_bipush (v := (-3 : Int32)) hx hb dX9_laySums_20 (by decide) ?_
      exact rrI hQ hW hS h dX9_laySums_22
  · refine lv_iconst (v := (-1 : Int32)) hx hb dX9_laySums_7 (by decide) ?_
    exact rrI hQ hW hS h dX9_laySums_8
noncomputable def fX9_spanSums (p1 : Int32) (p2 : Int32) (w : Wd) : Option (Int32 × Wd) :=
  bnd (fX9_isCell p1 w) fun x1 w2 => if x1 = 0 then some ((-1 : Int32), w2) else bnd (fX9_layEnds w2) fun _ w3 => bnd (fX9_endOf p1 p2 w3) fun x4 w5 => some (x4, w5)
abbrev rmX9_spanSums : Room := { frames := 4, cells := 0, slots := 0, locals := 95 }
set_option maxHeartbeats 4000000 in
set_option maxRecDepth 100000 in
theorem kX9_spanSums (l : Launch) (E : Ev) (p1 : Int32) (p2 : Int32) (w : Wd) (q : Int32 × Wd) (h : fX9_spanSums p1 p2 w = some q) : CtI l yX9_spanSums wsX9_spanSums rmX9_spanSums E full [.ref (E.2.1 99), .int p1, .int p2] w q := by
  refine mkI (cc := cX9_spanSums) (maxL := 3) (by decide) rfl (Nat.le_of_ble_eq_true rfl) ?_
  intro p e s m args below meth c Q S hW hQ ls hl
  obtain ⟨hx, hb, hml, hown, hts⟩ := id S
  have hW0 := hW
  have hS : va_S (wA E full) s.heap s.heap [] := va_S.rf
  have hl : lv_has ls 3 [(0, .ref (E.2.1 99)), (1, .int p1), (2, .int p2)] := hl
  unfold fX9_spanSums at h
  refine lv_aload_n hx hb dX9_spanSums_0 rfl (lv_at hl 0 rfl) ?_
  refine lv_iload_n hx hb dX9_spanSums_1 rfl (lv_at hl 1 rfl) ?_
  refine rc_Vi (k := 99) (As := [.int p1]) (rest := []) S hW hS h (kX9_isCell l E p1 w) (cwV 1 hts gX9_spanSums_X9_isCell rfl rfl rfl hdX9_isCell ⟨Nat.le_of_ble_eq_true rfl, Nat.le_of_ble_eq_true rfl⟩) (fl 99 rfl) rfl rfl rfl rfl hl.1 rfl (Nat.le_of_ble_eq_true rfl) ⟨Nat.zero_le _, Nat.zero_le _⟩ dX9_spanSums_2 (fun x1 w2 H locs h hW hS => ?_)
  refine rb_if_ne (tgt := 10) hx hb h dX9_spanSums_5 (by decide) (fun h => ?_) (fun h => ?_)
  · refine lv_aload_n hx hb dX9_spanSums_10 rfl (lv_at hl 0 rfl) ?_
    refine rc_Vv (k := 99) (As := []) (rest := []) S hW hS h (kX9_layEnds l E  w2) (cwV 0 hts gX9_spanSums_X9_layEnds rfl rfl rfl hdX9_layEnds ⟨Nat.le_of_ble_eq_true rfl, Nat.le_of_ble_eq_true rfl⟩) (fl 99 rfl) rfl rfl rfl rfl hl.1 rfl (Nat.le_of_ble_eq_true rfl) ⟨Nat.zero_le _, Nat.zero_le _⟩ dX9_spanSums_11 (fun _ w3 H locs h hW hS => ?_)
    refine lv_aload_n hx hb dX9_spanSums_14 rfl (lv_at hl 0 rfl) ?_
    refine lv_iload_n hx hb dX9_spanSums_15 rfl (lv_at hl 1 rfl) ?_
    refine lv_iload_n hx hb dX9_spanSums_16 rfl (lv_at hl 2 rfl) ?_
    refine rc_Vi (k := 99) (As := [.int p1, .int p2]) (rest := []) S hW hS h (kX9_endOf l E p1 p2 w3) (cwV 2 hts gX9_spanSums_X9_endOf rfl rfl rfl hdX9_endOf ⟨Nat.le_of_ble_eq_true rfl, Nat.le_of_ble_eq_true rfl⟩) (fl 99 rfl) rfl rfl rfl rfl hl.1 rfl (Nat.le_of_ble_eq_true rfl) ⟨Nat.zero_le _, Nat.zero_le _⟩ dX9_spanSums_17 (fun x4 w5 H locs h hW hS => ?_)
    exact rrI hQ hW hS h dX9_spanSums_20
  · refine lv_iconst (v := (-1 : Int32)) hx hb dX9_spanSums_8 (by decide) ?_
    exact rrI hQ hW hS h dX9_spanSums_9
noncomputable def jX9_steps_52 (p1 : Int32) (p2 : Int32) (s0 : Int32) (s1 : Int32)  (w : Wd) : Option (Int32 × Wd) :=
  some ((s1 + s0), w)
noncomputable def jX9_steps_39 (p1 : Int32) (p2 : Int32) (v4 : Int32) (s0 : Int32)  (w : Wd) : Option (Int32 × Wd) :=
  if 0 ≤ v4 then jX9_steps_52 p1 p2 v4 s0 w else jX9_steps_52 p1 p2 (-v4) s0 w
noncomputable def fX9_steps (p1 : Int32) (p2 : Int32) (w : Wd) : Option (Int32 × Wd) :=
  (rmI p1 (w.1 99 0)).bind fun x1 => (rmI p2 (w.1 99 0)).bind fun x2 => (dvI p1 (w.1 99 0)).bind fun x3 => (dvI p2 (w.1 99 0)).bind fun x4 => if 0 ≤ (x1 - x2) then jX9_steps_39 p1 p2 (x3 - x4) (x1 - x2) w else jX9_steps_39 p1 p2 (x3 - x4) (-(x1 - x2)) w
abbrev rmX9_steps : Room := { frames := 0, cells := 0, slots := 0, locals := 0 }
set_option maxHeartbeats 4000000 in
set_option maxRecDepth 100000 in
theorem kX9_steps (l : Launch) (E : Ev) (p1 : Int32) (p2 : Int32) (w : Wd) (q : Int32 × Wd) (h : fX9_steps p1 p2 w = some q) : CtI l yX9_steps wsX9_steps rmX9_steps E full [.ref (E.2.1 99), .int p1, .int p2] w q := by
  refine mkI (cc := cX9_steps) (maxL := 5) (by decide) rfl (Nat.le_of_ble_eq_true rfl) ?_
  intro p e s m args below meth c Q S hW hQ ls hl
  obtain ⟨hx, hb, hml, hown, hts⟩ := id S
  have hW0 := hW
  have hS : va_S (wA E full) s.heap s.heap [] := va_S.rf
  have hl : lv_has ls 5 [(0, .ref (E.2.1 99)), (1, .int p1), (2, .int p2)] := hl
  have iX9 : ∀ w ∈ wsX90, w ∈ wsX9_steps := by decide +kernel
  have e85 := hts (.fieldLink RX9 85 "CubeHeapsModel" "wide" "I") (by decide +kernel)
  have J52 : ∀ (s0 : Int32) (s1 : Int32) (w : Wd) (H : Heap) (locs : List Loc) (ls : Array Slot), jX9_steps_52 p1 p2 s0 s1 w = some q → World E full w s H → va_S (wA E full) s.heap H locs → lv_has ls 5 [] → W p l e rmX9_steps s m args below meth c H locs 0 0 Q (F0 m 52 ls [.int s0, .int s1]) := by
    intro s0 s1 w H locs ls h hW hS hl
    unfold jX9_steps_52 at h
    refine lv_iadd hx hb dX9_steps_52 ?_
    exact rrI hQ hW hS h dX9_steps_53
  have J39 : ∀ (v4 : Int32) (s0 : Int32) (w : Wd) (H : Heap) (locs : List Loc) (ls : Array Slot), jX9_steps_39 p1 p2 v4 s0 w = some q → World E full w s H → va_S (wA E full) s.heap H locs → lv_has ls 5 [(4, .int v4)] → W p l e rmX9_steps s m args below meth c H locs 0 0 Q (F0 m 39 ls [.int s0]) := by
    intro v4 s0 w H locs ls h hW hS hl
    unfold jX9_steps_39 at h
    refine lv_iload hx hb dX9_steps_39 (lv_at hl 0 rfl) ?_
    refine rb_if_ge (tgt := 50) hx hb h dX9_steps_41 (by decide) (fun h => ?_) (fun h => ?_)
    · refine lv_iload hx hb dX9_steps_50 (lv_at hl 0 rfl) ?_
      exact J52 _ _ _ _ _ _ h hW hS (lv_sub hl [] rfl)
    · refine lv_iload hx hb dX9_steps_44 (lv_at hl 0 rfl) ?_
      refine lv_ineg hx hb dX9_steps_46 ?_
      refine lv_goto (tgt := 52) hx hb dX9_steps_47 (by decide) ?_
      exact J52 _ _ _ _ _ _ h hW hS (lv_sub hl [] rfl)
  unfold fX9_steps at h
  refine lv_iload_n hx hb dX9_steps_0 rfl (lv_at hl 1 rfl) ?_
  refine lv_aload_n hx hb dX9_steps_1 rfl (lv_at hl 0 rfl) ?_
  refine rw_get hx hb hts iX9 hown hW (fl 99 rfl) rfl rfl 0 (by decide) e85 rfl (v := .int (w.1 99 0)) rfl dX9_steps_2 ?_
  refine rb_rem hx hb h dX9_steps_5 (fun x1 h => ?_)
  refine lv_iload_n hx hb dX9_steps_6 rfl (lv_at hl 2 rfl) ?_
  refine lv_aload_n hx hb dX9_steps_7 rfl (lv_at hl 0 rfl) ?_
  refine rw_get hx hb hts iX9 hown hW (fl 99 rfl) rfl rfl 0 (by decide) e85 rfl (v := .int (w.1 99 0)) rfl dX9_steps_8 ?_
  refine rb_rem hx hb h dX9_steps_11 (fun x2 h => ?_)
  refine lv_isub hx hb dX9_steps_12 ?_
  refine lv_istore_n (lv' := [(3, .int (x1 - x2)), (0, .ref (E.2.1 99)), (1, .int p1), (2, .int p2)]) hx hb dX9_steps_13 rfl hl (by decide) rfl (fun ls hl => ?_)
  refine lv_iload_n hx hb dX9_steps_14 rfl (lv_at hl 2 rfl) ?_
  refine lv_aload_n hx hb dX9_steps_15 rfl (lv_at hl 1 rfl) ?_
  refine rw_get hx hb hts iX9 hown hW (fl 99 rfl) rfl rfl 0 (by decide) e85 rfl (v := .int (w.1 99 0)) rfl dX9_steps_16 ?_
  refine rb_div hx hb h dX9_steps_19 (fun x3 h => ?_)
  refine lv_iload_n hx hb dX9_steps_20 rfl (lv_at hl 3 rfl) ?_
  refine lv_aload_n hx hb dX9_steps_21 rfl (lv_at hl 1 rfl) ?_
  refine rw_get hx hb hts iX9 hown hW (fl 99 rfl) rfl rfl 0 (by decide) e85 rfl (v := .int (w.1 99 0)) rfl dX9_steps_22 ?_
  refine rb_div hx hb h dX9_steps_25 (fun x4 h => ?_)
  refine lv_isub hx hb dX9_steps_26 ?_
  refine lv_istore (lv' := [(4, .int (x3 - x4)), (3, .int (x1 - x2)), (0, .ref (E.2.1 99)), (1, .int p1), (2, .int p2)]) hx hb dX9_steps_27 hl (by decide) rfl (fun ls hl => ?_)
  refine lv_iload_n hx hb dX9_steps_29 rfl (lv_at hl 1 rfl) ?_
  refine rb_if_ge (tgt := 38) hx hb h dX9_steps_30 (by decide) (fun h => ?_) (fun h => ?_)
  · refine lv_iload_n hx hb dX9_steps_38 rfl (lv_at hl 1 rfl) ?_
    exact J39 _ _ _ _ _ _ h hW hS (lv_sub hl [0] rfl)
  · refine lv_iload_n hx hb dX9_steps_33 rfl (lv_at hl 1 rfl) ?_
    refine lv_ineg hx hb dX9_steps_34 ?_
    refine lv_goto (tgt := 39) hx hb dX9_steps_35 (by decide) ?_
    exact J39 _ _ _ _ _ _ h hW hS (lv_sub hl [0] rfl)
noncomputable def jX9_layFar_59 (k24 : Int32 → Wd → Option (Int32 × Wd)) (v1 : Int32)  (w : Wd) : Option (Int32 × Wd) :=
  k24 (v1 + (1 : Int32)) w
noncomputable def jX9_layFar_335 (k272 : Int32 → Int32 → Wd → Option (Int32 × Wd)) (v3 : Int32) (s0 : Int32)  (w : Wd) : Option (Int32 × Wd) :=
  k272 s0 (v3 + (1 : Int32)) w
noncomputable def jX9_layFar_334 (k272 : Int32 → Int32 → Wd → Option (Int32 × Wd)) (v2 : Int32) (v3 : Int32)  (w : Wd) : Option (Int32 × Wd) :=
  jX9_layFar_335 k272 v3 v2 w
noncomputable def jX9_layFar_330 (k272 : Int32 → Int32 → Wd → Option (Int32 × Wd)) (v3 : Int32)  (w : Wd) : Option (Int32 × Wd) :=
  jX9_layFar_335 k272 v3 v3 w
noncomputable def bX9_layFar_272 (k272 : Int32 → Int32 → Wd → Option (Int32 × Wd)) (v2 : Int32) (v3 : Int32)  (w : Wd) : Option (Int32 × Wd) :=
  bnd (fX9_cells w) fun x7 w8 => if x7 ≤ v3 then some (v2, w8) else (gI w8 116 v3).bind fun x9 => if x9 ≤ 0 then jX9_layFar_334 k272 v2 v3 w8 else (gI w8 118 ((26 : Int32) + v3)).bind fun x10 => if (1000000 : Int32) ≤ x10 then jX9_layFar_334 k272 v2 v3 w8 else if v2 = (-9 : Int32) then jX9_layFar_330 k272 v3 w8 else (gI w8 118 ((26 : Int32) + v3)).bind fun x11 => (gI w8 118 ((26 : Int32) + v2)).bind fun x12 => if x12 ≤ x11 then jX9_layFar_334 k272 v2 v3 w8 else jX9_layFar_330 k272 v3 w8
noncomputable def jX9_layFar_258 (k67 : Int32 → Wd → Option (Int32 × Wd)) (k75 : Int32 → Int32 → Wd → Option (Int32 × Wd)) (v1 : Int32) (v2 : Int32)  (w : Wd) : Option (Int32 × Wd) :=
  k75 v1 (v2 + (1 : Int32)) w
noncomputable def jX9_layFar_173 (k67 : Int32 → Wd → Option (Int32 × Wd)) (k75 : Int32 → Int32 → Wd → Option (Int32 × Wd)) (v1 : Int32) (v2 : Int32) (v3 : Int32) (v4 : Int32)  (w : Wd) : Option (Int32 × Wd) :=
  (gI w 117 (((25 : Int32) * v3) + v4)).bind fun x32 => if x32 ≤ 0 then jX9_layFar_258 k67 k75 v1 v2 w else (gI w 118 ((26 : Int32) + v4)).bind fun x33 => bnd (fX9_steps v3 v4 w) fun x34 w35 => (gI w35 118 ((1 : Int32) + v3)).bind fun x36 => if x36 ≤ (x33 - x34) then jX9_layFar_258 k67 k75 v1 v2 w35 else (gI w35 118 ((26 : Int32) + v4)).bind fun x37 => bnd (fX9_steps v3 v4 w35) fun x38 w39 => (sI w39 118 ((1 : Int32) + v3) (x37 - x38)).bind fun w40 => (sI w40 119 ((1 : Int32) + v3) ((26 : Int32) + v4)).bind fun w41 => jX9_layFar_258 k67 k75 (1 : Int32) v2 w41
noncomputable def bX9_layFar_75 (k67 : Int32 → Wd → Option (Int32 × Wd)) (k75 : Int32 → Int32 → Wd → Option (Int32 × Wd)) (v1 : Int32) (v2 : Int32)  (w : Wd) : Option (Int32 × Wd) :=
  bnd (fX9_cells w) fun x13 w14 => bnd (fX9_cells w14) fun x15 w16 => if (x13 * x15) ≤ v2 then k67 v1 w16 else bnd (fX9_cells w16) fun x17 w18 => (dvI v2 x17).bind fun x19 => bnd (fX9_cells w18) fun x20 w21 => (rmI v2 x20).bind fun x22 => (gI w21 118 ((1 : Int32) + x19)).bind fun x23 => bnd (fX9_steps x19 x22 w21) fun x24 w25 => (gI w25 118 ((26 : Int32) + x22)).bind fun x26 => if x26 ≤ (x23 + x24) then jX9_layFar_173 k67 k75 v1 v2 x19 x22 w25 else (gI w25 118 ((1 : Int32) + x19)).bind fun x27 => bnd (fX9_steps x19 x22 w25) fun x28 w29 => (sI w29 118 ((26 : Int32) + x22) (x27 + x28)).bind fun w30 => (sI w30 119 ((26 : Int32) + x22) ((1 : Int32) + x19)).bind fun w31 => jX9_layFar_173 k67 k75 (1 : Int32) v2 x19 x22 w31
noncomputable def bX9_layFar_67 (k67 : Int32 → Wd → Option (Int32 × Wd)) (v1 : Int32)  (w : Wd) : Option (Int32 × Wd) :=
  if v1 = 0 then lp (fun _ _ _ => none) (bX9_layFar_272) G (-9 : Int32) (0 : Int32) w else lp (fun _ _ _ => none) (bX9_layFar_75 k67) G (0 : Int32) (0 : Int32) w
noncomputable def bX9_layFar_24 (k24 : Int32 → Wd → Option (Int32 × Wd)) (v1 : Int32)  (w : Wd) : Option (Int32 × Wd) :=
  bnd (fX9_cells w) fun x2 w3 => if x2 ≤ v1 then lp (fun _ _ => none) (bX9_layFar_67) G (1 : Int32) w3 else (gI w3 115 v1).bind fun x4 => if x4 ≤ 0 then jX9_layFar_59 k24 v1 w3 else (sI w3 118 ((1 : Int32) + v1) (0 : Int32)).bind fun w5 => (sI w5 119 ((1 : Int32) + v1) (0 : Int32)).bind fun w6 => jX9_layFar_59 k24 v1 w6
noncomputable def bX9_layFar_2 (k2 : Int32 → Wd → Option (Int32 × Wd)) (v1 : Int32)  (w : Wd) : Option (Int32 × Wd) :=
  if (52 : Int32) ≤ v1 then lp (fun _ _ => none) (bX9_layFar_24) G (0 : Int32) w else (sI w 118 v1 (1000000 : Int32)).bind fun w1 => k2 (v1 + (1 : Int32)) w1
noncomputable def fX9_layFar  (w : Wd) : Option (Int32 × Wd) :=
  lp (fun _ _ => none) (bX9_layFar_2) G (0 : Int32) w
abbrev rmX9_layFar : Room := { frames := 1, cells := 0, slots := 0, locals := 24 }
set_option maxHeartbeats 4000000 in
set_option maxRecDepth 100000 in
theorem kX9_layFar (l : Launch) (E : Ev)  (w : Wd) (q : Int32 × Wd) (h : fX9_layFar w = some q) : CtI l yX9_layFar wsX9_layFar rmX9_layFar E full [.ref (E.2.1 99)] w q := by
  refine mkI (cc := cX9_layFar) (maxL := 5) (by decide) rfl (Nat.le_of_ble_eq_true rfl) ?_
  intro p e s m args below meth c Q S hW hQ ls hl
  obtain ⟨hx, hb, hml, hown, hts⟩ := id S
  have hW0 := hW
  have hS : va_S (wA E full) s.heap s.heap [] := va_S.rf
  have hl : lv_has ls 5 [(0, .ref (E.2.1 99))] := hl
  have iX9 : ∀ w ∈ wsX90, w ∈ wsX9_layFar := by decide +kernel
  have e60 := hts (.fieldLink RX9 60 "CubeHeapsModel" "spare" "[I") (by decide +kernel)
  have e63 := hts (.fieldLink RX9 63 "CubeHeapsModel" "lack" "[I") (by decide +kernel)
  have e66 := hts (.fieldLink RX9 66 "CubeHeapsModel" "carried" "[I") (by decide +kernel)
  have e69 := hts (.fieldLink RX9 69 "CubeHeapsModel" "far" "[I") (by decide +kernel)
  have e72 := hts (.fieldLink RX9 72 "CubeHeapsModel" "by" "[I") (by decide +kernel)
  have J272 : ∀ (n : Nat) (v2 : Int32) (v3 : Int32) (w : Wd) (H : Heap) (locs : List Loc) (ls : Array Slot), lp (fun _ _ _ => none) (bX9_layFar_272) n v2 v3 w = some q → World E full w s H → va_S (wA E full) s.heap H locs → lv_has ls 5 [(0, .ref (E.2.1 99)), (2, .int v2), (3, .int v3)] → W p l e rmX9_layFar s m args below meth c H locs 0 0 Q (F0 m 272 ls []) := by
    intro n
    induction n with
    | zero =>
      intro v2 v3 w H locs ls h hW hS hl
      exact absurd (show (none : Option (Int32 × Wd)) = some q from h) (fun z => by cases z)
    | succ n ih272 =>
      intro v2 v3 w H locs ls h hW hS hl
      have h : bX9_layFar_272 (lp (fun _ _ _ => none) (bX9_layFar_272) n) v2 v3 w = some q := h
      generalize lp (fun _ _ _ => none) (bX9_layFar_272) n = k272 at h ih272
      have J335 : ∀ (v3 : Int32) (s0 : Int32) (w : Wd) (H : Heap) (locs : List Loc) (ls : Array Slot), jX9_layFar_335 k272 v3 s0 w = some q → World E full w s H → va_S (wA E full) s.heap H locs → lv_has ls 5 [(0, .ref (E.2.1 99)), (3, .int v3)] → W p l e rmX9_layFar s m args below meth c H locs 0 0 Q (F0 m 335 ls [.int s0]) := by
        intro v3 s0 w H locs ls h hW hS hl
        unfold jX9_layFar_335 at h
        refine lv_istore_n (lv' := [(2, .int s0), (0, .ref (E.2.1 99)), (3, .int v3)]) hx hb dX9_layFar_335 rfl hl (by decide) rfl (fun ls hl => ?_)
        refine lv_iinc (v := (v3 + (1 : Int32))) (lv' := [(3, .int (v3 + (1 : Int32))), (2, .int s0), (0, .ref (E.2.1 99))]) hx hb dX9_layFar_336 hl (k := 2) rfl rfl (by decide) rfl (fun ls hl => ?_)
        refine lv_goto (tgt := 272) hx hb dX9_layFar_339 (by decide) ?_
        exact ih272 _ _ _ _ _ _ h hW hS (lv_sub hl [2, 1, 0] rfl)
      have J334 : ∀ (v2 : Int32) (v3 : Int32) (w : Wd) (H : Heap) (locs : List Loc) (ls : Array Slot), jX9_layFar_334 k272 v2 v3 w = some q → World E full w s H → va_S (wA E full) s.heap H locs → lv_has ls 5 [(0, .ref (E.2.1 99)), (2, .int v2), (3, .int v3)] → W p l e rmX9_layFar s m args below meth c H locs 0 0 Q (F0 m 334 ls []) := by
        intro v2 v3 w H locs ls h hW hS hl
        unfold jX9_layFar_334 at h
        refine lv_iload_n hx hb dX9_layFar_334 rfl (lv_at hl 1 rfl) ?_
        exact J335 _ _ _ _ _ _ h hW hS (lv_sub hl [0, 2] rfl)
      have J330 : ∀ (v3 : Int32) (w : Wd) (H : Heap) (locs : List Loc) (ls : Array Slot), jX9_layFar_330 k272 v3 w = some q → World E full w s H → va_S (wA E full) s.heap H locs → lv_has ls 5 [(0, .ref (E.2.1 99)), (3, .int v3)] → W p l e rmX9_layFar s m args below meth c H locs 0 0 Q (F0 m 330 ls []) := by
        intro v3 w H locs ls h hW hS hl
        unfold jX9_layFar_330 at h
        refine lv_iload_n hx hb dX9_layFar_330 rfl (lv_at hl 1 rfl) ?_
        refine lv_goto (tgt := 335) hx hb dX9_layFar_331 (by decide) ?_
        exact J335 _ _ _ _ _ _ h hW hS (hl)
      unfold bX9_layFar_272 at h
      refine lv_iload_n hx hb dX9_layFar_272 rfl (lv_at hl 2 rfl) ?_
      refine lv_aload_n hx hb dX9_layFar_273 rfl (lv_at hl 0 rfl) ?_
      refine rc_Vi (k := 99) (As := []) (rest := [.int v3]) S hW hS h (kX9_cells l E  w) (cwV 0 hts gX9_layFar_X9_cells rfl rfl rfl hdX9_cells ⟨Nat.le_of_ble_eq_true rfl, Nat.le_of_ble_eq_true rfl⟩) (fl 99 rfl) rfl rfl rfl rfl hl.1 rfl (Nat.le_of_ble_eq_true rfl) ⟨Nat.zero_le _, Nat.zero_le _⟩ dX9_layFar_274 (fun x7 w8 H locs h hW hS => ?_)
      refine rb_icmp_ge (tgt := 342) hx hb h dX9_layFar_277 (by decide) (fun h => ?_) (fun h => ?_)
      · refine lv_iload_n hx hb dX9_layFar_342 rfl (lv_at hl 1 rfl) ?_
        exact rrI hQ hW hS h dX9_layFar_343
      · refine lv_aload_n hx hb dX9_layFar_280 rfl (lv_at hl 0 rfl) ?_
        refine rw_get hx hb hts iX9 hown hW (fl 99 rfl) rfl rfl 20 (by decide) e63 rfl (v := .ref (E.2.1 116)) rfl dX9_layFar_281 ?_
        refine lv_iload_n hx hb dX9_layFar_284 rfl (lv_at hl 2 rfl) ?_
        refine rw_iald hx hb hW (fun _ => (fl 116 rfl)) h dX9_layFar_285 (fun x9 h => ?_)
        refine rb_if_le (tgt := 334) hx hb h dX9_layFar_286 (by decide) (fun h => ?_) (fun h => ?_)
        · exact J334 _ _ _ _ _ _ h hW hS (hl)
        · refine lv_aload_n hx hb dX9_layFar_289 rfl (lv_at hl 0 rfl) ?_
          refine rw_get hx hb hts iX9 hown hW (fl 99 rfl) rfl rfl 22 (by decide) e69 rfl (v := .ref (E.2.1 118)) rfl dX9_layFar_290 ?_
          refine lv_bipush (v := (26 : Int32)) hx hb dX9_layFar_293 (by decide) ?_
          refine lv_iload_n hx hb dX9_layFar_295 rfl (lv_at hl 2 rfl) ?_
          refine lv_iadd hx hb dX9_layFar_296 ?_
          refine rw_iald hx hb hW (fun _ => (fl 118 rfl)) h dX9_layFar_297 (fun x10 h => ?_)
          refine lv_ldc (own := RX9) (v := (1000000 : Int32)) hx hb hown (hts _ (by decide +kernel)) dX9_layFar_298 ?_
          refine rb_icmp_ge (tgt := 334) hx hb h dX9_layFar_300 (by decide) (fun h => ?_) (fun h => ?_)
          · exact J334 _ _ _ _ _ _ h hW hS (hl)
          · refine lv_iload_n hx hb dX9_layFar_303 rfl (lv_at hl 1 rfl) ?_
            refine lv_bipush (v := (-9 : Int32)) hx hb dX9_layFar_304 (by decide) ?_
            refine rb_icmp_eq (tgt := 330) hx hb h dX9_layFar_306 (by decide) (fun h => ?_) (fun h => ?_)
            · exact J330 _ _ _ _ _ h hW hS (lv_sub hl [0, 2] rfl)
            · refine lv_aload_n hx hb dX9_layFar_309 rfl (lv_at hl 0 rfl) ?_
              refine rw_get hx hb hts iX9 hown hW (fl 99 rfl) rfl rfl 22 (by decide) e69 rfl (v := .ref (E.2.1 118)) rfl dX9_layFar_310 ?_
              refine lv_bipush (v := (26 : Int32)) hx hb dX9_layFar_313 (by decide) ?_
              refine lv_iload_n hx hb dX9_layFar_315 rfl (lv_at hl 2 rfl) ?_
              refine lv_iadd hx hb dX9_layFar_316 ?_
              refine rw_iald hx hb hW (fun _ => (fl 118 rfl)) h dX9_layFar_317 (fun x11 h => ?_)
              refine lv_aload_n hx hb dX9_layFar_318 rfl (lv_at hl 0 rfl) ?_
              refine rw_get hx hb hts iX9 hown hW (fl 99 rfl) rfl rfl 22 (by decide) e69 rfl (v := .ref (E.2.1 118)) rfl dX9_layFar_319 ?_
              refine lv_bipush (v := (26 : Int32)) hx hb dX9_layFar_322 (by decide) ?_
              refine lv_iload_n hx hb dX9_layFar_324 rfl (lv_at hl 1 rfl) ?_
              refine lv_iadd hx hb dX9_layFar_325 ?_
              refine rw_iald hx hb hW (fun _ => (fl 118 rfl)) h dX9_layFar_326 (fun x12 h => ?_)
              refine rb_icmp_ge (tgt := 334) hx hb h dX9_layFar_327 (by decide) (fun h => ?_) (fun h => ?_)
              · exact J334 _ _ _ _ _ _ h hW hS (hl)
              · exact J330 _ _ _ _ _ h hW hS (lv_sub hl [0, 2] rfl)
  have J67 : ∀ (n : Nat) (v1 : Int32) (w : Wd) (H : Heap) (locs : List Loc) (ls : Array Slot), lp (fun _ _ => none) (bX9_layFar_67) n v1 w = some q → World E full w s H → va_S (wA E full) s.heap H locs → lv_has ls 5 [(0, .ref (E.2.1 99)), (1, .int v1)] → W p l e rmX9_layFar s m args below meth c H locs 0 0 Q (F0 m 67 ls []) := by
    intro n
    induction n with
    | zero =>
      intro v1 w H locs ls h hW hS hl
      exact absurd (show (none : Option (Int32 × Wd)) = some q from h) (fun z => by cases z)
    | succ n ih67 =>
      intro v1 w H locs ls h hW hS hl
      have h : bX9_layFar_67 (lp (fun _ _ => none) (bX9_layFar_67) n) v1 w = some q := h
      generalize lp (fun _ _ => none) (bX9_layFar_67) n = k67 at h ih67
      have J75 : ∀ (n : Nat) (v1 : Int32) (v2 : Int32) (w : Wd) (H : Heap) (locs : List Loc) (ls : Array Slot), lp (fun _ _ _ => none) (bX9_layFar_75 k67) n v1 v2 w = some q → World E full w s H → va_S (wA E full) s.heap H locs → lv_has ls 5 [(0, .ref (E.2.1 99)), (1, .int v1), (2, .int v2)] → W p l e rmX9_layFar s m args below meth c H locs 0 0 Q (F0 m 75 ls []) := by
        intro n
        induction n with
        | zero =>
          intro v1 v2 w H locs ls h hW hS hl
          exact absurd (show (none : Option (Int32 × Wd)) = some q from h) (fun z => by cases z)
        | succ n ih75 =>
          intro v1 v2 w H locs ls h hW hS hl
          have h : bX9_layFar_75 k67 (lp (fun _ _ _ => none) (bX9_layFar_75 k67) n) v1 v2 w = some q := h
          generalize lp (fun _ _ _ => none) (bX9_layFar_75 k67) n = k75 at h ih75
          have J258 : ∀ (v1 : Int32) (v2 : Int32) (w : Wd) (H : Heap) (locs : List Loc) (ls : Array Slot), jX9_layFar_258 k67 k75 v1 v2 w = some q → World E full w s H → va_S (wA E full) s.heap H locs → lv_has ls 5 [(0, .ref (E.2.1 99)), (1, .int v1), (2, .int v2)] → W p l e rmX9_layFar s m args below meth c H locs 0 0 Q (F0 m 258 ls []) := by
            intro v1 v2 w H locs ls h hW hS hl
            unfold jX9_layFar_258 at h
            refine lv_iinc (v := (v2 + (1 : Int32))) (lv' := [(2, .int (v2 + (1 : Int32))), (0, .ref (E.2.1 99)), (1, .int v1)]) hx hb dX9_layFar_258 hl (k := 2) rfl rfl (by decide) rfl (fun ls hl => ?_)
            refine lv_goto (tgt := 75) hx hb dX9_layFar_261 (by decide) ?_
            exact ih75 _ _ _ _ _ _ h hW hS (lv_sub hl [1, 2, 0] rfl)
          have J173 : ∀ (v1 : Int32) (v2 : Int32) (v3 : Int32) (v4 : Int32) (w : Wd) (H : Heap) (locs : List Loc) (ls : Array Slot), jX9_layFar_173 k67 k75 v1 v2 v3 v4 w = some q → World E full w s H → va_S (wA E full) s.heap H locs → lv_has ls 5 [(0, .ref (E.2.1 99)), (1, .int v1), (2, .int v2), (3, .int v3), (4, .int v4)] → W p l e rmX9_layFar s m args below meth c H locs 0 0 Q (F0 m 173 ls []) := by
            intro v1 v2 v3 v4 w H locs ls h hW hS hl
            unfold jX9_layFar_173 at h
            refine lv_aload_n hx hb dX9_layFar_173 rfl (lv_at hl 0 rfl) ?_
            refine rw_get hx hb hts iX9 hown hW (fl 99 rfl) rfl rfl 21 (by decide) e66 rfl (v := .ref (E.2.1 117)) rfl dX9_layFar_174 ?_
            refine lv_bipush (v := (25 : Int32)) hx hb dX9_layFar_177 (by decide) ?_
            refine lv_iload_n hx hb dX9_layFar_179 rfl (lv_at hl 3 rfl) ?_
            refine lv_imul hx hb dX9_layFar_180 ?_
            refine lv_iload hx hb dX9_layFar_181 (lv_at hl 4 rfl) ?_
            refine lv_iadd hx hb dX9_layFar_183 ?_
            refine rw_iald hx hb hW (fun _ => (fl 117 rfl)) h dX9_layFar_184 (fun x32 h => ?_)
            refine rb_if_le (tgt := 258) hx hb h dX9_layFar_185 (by decide) (fun h => ?_) (fun h => ?_)
            · exact J258 _ _ _ _ _ _ h hW hS (lv_sub hl [0, 1, 2] rfl)
            · refine lv_aload_n hx hb dX9_layFar_188 rfl (lv_at hl 0 rfl) ?_
              refine rw_get hx hb hts iX9 hown hW (fl 99 rfl) rfl rfl 22 (by decide) e69 rfl (v := .ref (E.2.1 118)) rfl dX9_layFar_189 ?_
              refine lv_bipush (v := (26 : Int32)) hx hb dX9_layFar_192 (by decide) ?_
              refine lv_iload hx hb dX9_layFar_194 (lv_at hl 4 rfl) ?_
              refine lv_iadd hx hb dX9_layFar_196 ?_
              refine rw_iald hx hb hW (fun _ => (fl 118 rfl)) h dX9_layFar_197 (fun x33 h => ?_)
              refine lv_aload_n hx hb dX9_layFar_198 rfl (lv_at hl 0 rfl) ?_
              refine lv_iload_n hx hb dX9_layFar_199 rfl (lv_at hl 3 rfl) ?_
              refine lv_iload hx hb dX9_layFar_200 (lv_at hl 4 rfl) ?_
              refine rc_Vi (k := 99) (As := [.int v3, .int v4]) (rest := [.int x33]) S hW hS h (kX9_steps l E v3 v4 w) (cwV 2 hts gX9_layFar_X9_steps rfl rfl rfl hdX9_steps ⟨Nat.le_of_ble_eq_true rfl, Nat.le_of_ble_eq_true rfl⟩) (fl 99 rfl) rfl rfl rfl rfl hl.1 rfl (Nat.le_of_ble_eq_true rfl) ⟨Nat.zero_le _, Nat.zero_le _⟩ dX9_layFar_202 (fun x34 w35 H locs h hW hS => ?_)
              refine lv_isub hx hb dX9_layFar_205 ?_
              refine lv_aload_n hx hb dX9_layFar_206 rfl (lv_at hl 0 rfl) ?_
              refine rw_get hx hb hts iX9 hown hW (fl 99 rfl) rfl rfl 22 (by decide) e69 rfl (v := .ref (E.2.1 118)) rfl dX9_layFar_207 ?_
              refine lv_iconst (v := (1 : Int32)) hx hb dX9_layFar_210 (by decide) ?_
              refine lv_iload_n hx hb dX9_layFar_211 rfl (lv_at hl 3 rfl) ?_
              refine lv_iadd hx hb dX9_layFar_212 ?_
              refine rw_iald hx hb hW (fun _ => (fl 118 rfl)) h dX9_layFar_213 (fun x36 h => ?_)
              refine rb_icmp_ge (tgt := 258) hx hb h dX9_layFar_214 (by decide) (fun h => ?_) (fun h => ?_)
              · exact J258 _ _ _ _ _ _ h hW hS (lv_sub hl [0, 1, 2] rfl)
              · refine lv_aload_n hx hb dX9_layFar_217 rfl (lv_at hl 0 rfl) ?_
                refine rw_get hx hb hts iX9 hown hW (fl 99 rfl) rfl rfl 22 (by decide) e69 rfl (v := .ref (E.2.1 118)) rfl dX9_layFar_218 ?_
                refine lv_iconst (v := (1 : Int32)) hx hb dX9_layFar_221 (by decide) ?_
                refine lv_iload_n hx hb dX9_layFar_222 rfl (lv_at hl 3 rfl) ?_
                refine lv_iadd hx hb dX9_layFar_223 ?_
                refine lv_aload_n hx hb dX9_layFar_224 rfl (lv_at hl 0 rfl) ?_
                refine rw_get hx hb hts iX9 hown hW (fl 99 rfl) rfl rfl 22 (by decide) e69 rfl (v := .ref (E.2.1 118)) rfl dX9_layFar_225 ?_
                refine lv_bipush (v := (26 : Int32)) hx hb dX9_layFar_228 (by decide) ?_
                refine lv_iload hx hb dX9_layFar_230 (lv_at hl 4 rfl) ?_
                refine lv_iadd hx hb dX9_layFar_232 ?_
                refine rw_iald hx hb hW (fun _ => (fl 118 rfl)) h dX9_layFar_233 (fun x37 h => ?_)
                refine lv_aload_n hx hb dX9_layFar_234 rfl (lv_at hl 0 rfl) ?_
                refine lv_iload_n hx hb dX9_layFar_235 rfl (lv_at hl 3 rfl) ?_
                refine lv_iload hx hb dX9_layFar_236 (lv_at hl 4 rfl) ?_
                refine rc_Vi (k := 99) (As := [.int v3, .int v4]) (rest := [.int x37, .int ((1 : Int32) + v3), .ref (E.2.1 118)]) S hW hS h (kX9_steps l E v3 v4 w35) (cwV 2 hts gX9_layFar_X9_steps rfl rfl rfl hdX9_steps ⟨Nat.le_of_ble_eq_true rfl, Nat.le_of_ble_eq_true rfl⟩) (fl 99 rfl) rfl rfl rfl rfl hl.1 rfl (Nat.le_of_ble_eq_true rfl) ⟨Nat.zero_le _, Nat.zero_le _⟩ dX9_layFar_238 (fun x38 w39 H locs h hW hS => ?_)
                refine lv_isub hx hb dX9_layFar_241 ?_
                refine rw_iast hx hb hW hS (fun _ => (fl 118 rfl)) h dX9_layFar_242 (fun w40 H locs h hW hS => ?_)
                refine lv_aload_n hx hb dX9_layFar_243 rfl (lv_at hl 0 rfl) ?_
                refine rw_get hx hb hts iX9 hown hW (fl 99 rfl) rfl rfl 23 (by decide) e72 rfl (v := .ref (E.2.1 119)) rfl dX9_layFar_244 ?_
                refine lv_iconst (v := (1 : Int32)) hx hb dX9_layFar_247 (by decide) ?_
                refine lv_iload_n hx hb dX9_layFar_248 rfl (lv_at hl 3 rfl) ?_
                refine lv_iadd hx hb dX9_layFar_249 ?_
                refine lv_bipush (v := (26 : Int32)) hx hb dX9_layFar_250 (by decide) ?_
                refine lv_iload hx hb dX9_layFar_252 (lv_at hl 4 rfl) ?_
                refine lv_iadd hx hb dX9_layFar_254 ?_
                refine rw_iast hx hb hW hS (fun _ => (fl 119 rfl)) h dX9_layFar_255 (fun w41 H locs h hW hS => ?_)
                refine lv_iconst (v := (1 : Int32)) hx hb dX9_layFar_256 (by decide) ?_
                refine lv_istore_n (lv' := [(1, .int (1 : Int32)), (0, .ref (E.2.1 99)), (2, .int v2), (3, .int v3), (4, .int v4)]) hx hb dX9_layFar_257 rfl hl (by decide) rfl (fun ls hl => ?_)
                exact J258 _ _ _ _ _ _ h hW hS (lv_sub hl [1, 0, 2] rfl)
          unfold bX9_layFar_75 at h
          refine lv_iload_n hx hb dX9_layFar_75 rfl (lv_at hl 2 rfl) ?_
          refine lv_aload_n hx hb dX9_layFar_76 rfl (lv_at hl 0 rfl) ?_
          refine rc_Vi (k := 99) (As := []) (rest := [.int v2]) S hW hS h (kX9_cells l E  w) (cwV 0 hts gX9_layFar_X9_cells rfl rfl rfl hdX9_cells ⟨Nat.le_of_ble_eq_true rfl, Nat.le_of_ble_eq_true rfl⟩) (fl 99 rfl) rfl rfl rfl rfl hl.1 rfl (Nat.le_of_ble_eq_true rfl) ⟨Nat.zero_le _, Nat.zero_le _⟩ dX9_layFar_77 (fun x13 w14 H locs h hW hS => ?_)
          refine lv_aload_n hx hb dX9_layFar_80 rfl (lv_at hl 0 rfl) ?_
          refine rc_Vi (k := 99) (As := []) (rest := [.int x13, .int v2]) S hW hS h (kX9_cells l E  w14) (cwV 0 hts gX9_layFar_X9_cells rfl rfl rfl hdX9_cells ⟨Nat.le_of_ble_eq_true rfl, Nat.le_of_ble_eq_true rfl⟩) (fl 99 rfl) rfl rfl rfl rfl hl.1 rfl (Nat.le_of_ble_eq_true rfl) ⟨Nat.zero_le _, Nat.zero_le _⟩ dX9_layFar_81 (fun x15 w16 H locs h hW hS => ?_)
          refine lv_imul hx hb dX9_layFar_84 ?_
          refine rb_icmp_ge (tgt := 264) hx hb h dX9_layFar_85 (by decide) (fun h => ?_) (fun h => ?_)
          · refine lv_goto (tgt := 67) hx hb dX9_layFar_264 (by decide) ?_
            exact ih67 _ _ _ _ _ h hW hS (lv_sub hl [0, 1] rfl)
          · refine lv_iload_n hx hb dX9_layFar_88 rfl (lv_at hl 2 rfl) ?_
            refine lv_aload_n hx hb dX9_layFar_89 rfl (lv_at hl 0 rfl) ?_
            refine rc_Vi (k := 99) (As := []) (rest := [.int v2]) S hW hS h (kX9_cells l E  w16) (cwV 0 hts gX9_layFar_X9_cells rfl rfl rfl hdX9_cells ⟨Nat.le_of_ble_eq_true rfl, Nat.le_of_ble_eq_true rfl⟩) (fl 99 rfl) rfl rfl rfl rfl hl.1 rfl (Nat.le_of_ble_eq_true rfl) ⟨Nat.zero_le _, Nat.zero_le _⟩ dX9_layFar_90 (fun x17 w18 H locs h hW hS => ?_)
            refine rb_div hx hb h dX9_layFar_93 (fun x19 h => ?_)
            refine lv_istore_n (lv' := [(3, .int x19), (0, .ref (E.2.1 99)), (1, .int v1), (2, .int v2)]) hx hb dX9_layFar_94 rfl hl (by decide) rfl (fun ls hl => ?_)
            refine lv_iload_n hx hb dX9_layFar_95 rfl (lv_at hl 3 rfl) ?_
            refine lv_aload_n hx hb dX9_layFar_96 rfl (lv_at hl 1 rfl) ?_
            refine rc_Vi (k := 99) (As := []) (rest := [.int v2]) S hW hS h (kX9_cells l E  w18) (cwV 0 hts gX9_layFar_X9_cells rfl rfl rfl hdX9_cells ⟨Nat.le_of_ble_eq_true rfl, Nat.le_of_ble_eq_true rfl⟩) (fl 99 rfl) rfl rfl rfl rfl hl.1 rfl (Nat.le_of_ble_eq_true rfl) ⟨Nat.zero_le _, Nat.zero_le _⟩ dX9_layFar_97 (fun x20 w21 H locs h hW hS => ?_)
            refine rb_rem hx hb h dX9_layFar_100 (fun x22 h => ?_)
            refine lv_istore (lv' := [(4, .int x22), (3, .int x19), (0, .ref (E.2.1 99)), (1, .int v1), (2, .int v2)]) hx hb dX9_layFar_101 hl (by decide) rfl (fun ls hl => ?_)
            refine lv_aload_n hx hb dX9_layFar_103 rfl (lv_at hl 2 rfl) ?_
            refine rw_get hx hb hts iX9 hown hW (fl 99 rfl) rfl rfl 22 (by decide) e69 rfl (v := .ref (E.2.1 118)) rfl dX9_layFar_104 ?_
            refine lv_iconst (v := (1 : Int32)) hx hb dX9_layFar_107 (by decide) ?_
            refine lv_iload_n hx hb dX9_layFar_108 rfl (lv_at hl 1 rfl) ?_
            refine lv_iadd hx hb dX9_layFar_109 ?_
            refine rw_iald hx hb hW (fun _ => (fl 118 rfl)) h dX9_layFar_110 (fun x23 h => ?_)
            refine lv_aload_n hx hb dX9_layFar_111 rfl (lv_at hl 2 rfl) ?_
            refine lv_iload_n hx hb dX9_layFar_112 rfl (lv_at hl 1 rfl) ?_
            refine lv_iload hx hb dX9_layFar_113 (lv_at hl 0 rfl) ?_
            refine rc_Vi (k := 99) (As := [.int x19, .int x22]) (rest := [.int x23]) S hW hS h (kX9_steps l E x19 x22 w21) (cwV 2 hts gX9_layFar_X9_steps rfl rfl rfl hdX9_steps ⟨Nat.le_of_ble_eq_true rfl, Nat.le_of_ble_eq_true rfl⟩) (fl 99 rfl) rfl rfl rfl rfl hl.1 rfl (Nat.le_of_ble_eq_true rfl) ⟨Nat.zero_le _, Nat.zero_le _⟩ dX9_layFar_115 (fun x24 w25 H locs h hW hS => ?_)
            refine lv_iadd hx hb dX9_layFar_118 ?_
            refine lv_aload_n hx hb dX9_layFar_119 rfl (lv_at hl 2 rfl) ?_
            refine rw_get hx hb hts iX9 hown hW (fl 99 rfl) rfl rfl 22 (by decide) e69 rfl (v := .ref (E.2.1 118)) rfl dX9_layFar_120 ?_
            refine lv_bipush (v := (26 : Int32)) hx hb dX9_layFar_123 (by decide) ?_
            refine lv_iload hx hb dX9_layFar_125 (lv_at hl 0 rfl) ?_
            refine lv_iadd hx hb dX9_layFar_127 ?_
            refine rw_iald hx hb hW (fun _ => (fl 118 rfl)) h dX9_layFar_128 (fun x26 h => ?_)
            refine rb_icmp_ge (tgt := 173) hx hb h dX9_layFar_129 (by decide) (fun h => ?_) (fun h => ?_)
            · exact J173 _ _ _ _ _ _ _ _ h hW hS (lv_sub hl [2, 3, 4, 1, 0] rfl)
            · refine lv_aload_n hx hb dX9_layFar_132 rfl (lv_at hl 2 rfl) ?_
              refine rw_get hx hb hts iX9 hown hW (fl 99 rfl) rfl rfl 22 (by decide) e69 rfl (v := .ref (E.2.1 118)) rfl dX9_layFar_133 ?_
              refine lv_bipush (v := (26 : Int32)) hx hb dX9_layFar_136 (by decide) ?_
              refine lv_iload hx hb dX9_layFar_138 (lv_at hl 0 rfl) ?_
              refine lv_iadd hx hb dX9_layFar_140 ?_
              refine lv_aload_n hx hb dX9_layFar_141 rfl (lv_at hl 2 rfl) ?_
              refine rw_get hx hb hts iX9 hown hW (fl 99 rfl) rfl rfl 22 (by decide) e69 rfl (v := .ref (E.2.1 118)) rfl dX9_layFar_142 ?_
              refine lv_iconst (v := (1 : Int32)) hx hb dX9_layFar_145 (by decide) ?_
              refine lv_iload_n hx hb dX9_layFar_146 rfl (lv_at hl 1 rfl) ?_
              refine lv_iadd hx hb dX9_layFar_147 ?_
              refine rw_iald hx hb hW (fun _ => (fl 118 rfl)) h dX9_layFar_148 (fun x27 h => ?_)
              refine lv_aload_n hx hb dX9_layFar_149 rfl (lv_at hl 2 rfl) ?_
              refine lv_iload_n hx hb dX9_layFar_150 rfl (lv_at hl 1 rfl) ?_
              refine lv_iload hx hb dX9_layFar_151 (lv_at hl 0 rfl) ?_
              refine rc_Vi (k := 99) (As := [.int x19, .int x22]) (rest := [.int x27, .int ((26 : Int32) + x22), .ref (E.2.1 118)]) S hW hS h (kX9_steps l E x19 x22 w25) (cwV 2 hts gX9_layFar_X9_steps rfl rfl rfl hdX9_steps ⟨Nat.le_of_ble_eq_true rfl, Nat.le_of_ble_eq_true rfl⟩) (fl 99 rfl) rfl rfl rfl rfl hl.1 rfl (Nat.le_of_ble_eq_true rfl) ⟨Nat.zero_le _, Nat.zero_le _⟩ dX9_layFar_153 (fun x28 w29 H locs h hW hS => ?_)
              refine lv_iadd hx hb dX9_layFar_156 ?_
              refine rw_iast hx hb hW hS (fun _ => (fl 118 rfl)) h dX9_layFar_157 (fun w30 H locs h hW hS => ?_)
              refine lv_aload_n hx hb dX9_layFar_158 rfl (lv_at hl 2 rfl) ?_
              refine rw_get hx hb hts iX9 hown hW (fl 99 rfl) rfl rfl 23 (by decide) e72 rfl (v := .ref (E.2.1 119)) rfl dX9_layFar_159 ?_
              refine lv_bipush (v := (26 : Int32)) hx hb dX9_layFar_162 (by decide) ?_
              refine lv_iload hx hb dX9_layFar_164 (lv_at hl 0 rfl) ?_
              refine lv_iadd hx hb dX9_layFar_166 ?_
              refine lv_iconst (v := (1 : Int32)) hx hb dX9_layFar_167 (by decide) ?_
              refine lv_iload_n hx hb dX9_layFar_168 rfl (lv_at hl 1 rfl) ?_
              refine lv_iadd hx hb dX9_layFar_169 ?_
              refine rw_iast hx hb hW hS (fun _ => (fl 119 rfl)) h dX9_layFar_170 (fun w31 H locs h hW hS => ?_)
              refine lv_iconst (v := (1 : Int32)) hx hb dX9_layFar_171 (by decide) ?_
              refine lv_istore_n (lv' := [(1, .int (1 : Int32)), (4, .int x22), (3, .int x19), (0, .ref (E.2.1 99)), (2, .int v2)]) hx hb dX9_layFar_172 rfl hl (by decide) rfl (fun ls hl => ?_)
              exact J173 _ _ _ _ _ _ _ _ h hW hS (lv_sub hl [3, 0, 4, 2, 1] rfl)
      unfold bX9_layFar_67 at h
      refine lv_iload_n hx hb dX9_layFar_67 rfl (lv_at hl 1 rfl) ?_
      refine rb_if_eq (tgt := 267) hx hb h dX9_layFar_68 (by decide) (fun h => ?_) (fun h => ?_)
      · refine lv_bipush (v := (-9 : Int32)) hx hb dX9_layFar_267 (by decide) ?_
        refine lv_istore_n (lv' := [(2, .int (-9 : Int32)), (0, .ref (E.2.1 99)), (1, .int v1)]) hx hb dX9_layFar_269 rfl hl (by decide) rfl (fun ls hl => ?_)
        refine lv_iconst (v := (0 : Int32)) hx hb dX9_layFar_270 (by decide) ?_
        refine lv_istore_n (lv' := [(3, .int (0 : Int32)), (2, .int (-9 : Int32)), (0, .ref (E.2.1 99)), (1, .int v1)]) hx hb dX9_layFar_271 rfl hl (by decide) rfl (fun ls hl => ?_)
        exact J272 _ _ _ _ _ _ _ h hW hS (lv_sub hl [2, 1, 0] rfl)
      · refine lv_iconst (v := (0 : Int32)) hx hb dX9_layFar_71 (by decide) ?_
        refine lv_istore_n (lv' := [(1, .int (0 : Int32)), (0, .ref (E.2.1 99))]) hx hb dX9_layFar_72 rfl hl (by decide) rfl (fun ls hl => ?_)
        refine lv_iconst (v := (0 : Int32)) hx hb dX9_layFar_73 (by decide) ?_
        refine lv_istore_n (lv' := [(2, .int (0 : Int32)), (1, .int (0 : Int32)), (0, .ref (E.2.1 99))]) hx hb dX9_layFar_74 rfl hl (by decide) rfl (fun ls hl => ?_)
        exact J75 _ _ _ _ _ _ _ h hW hS (lv_sub hl [2, 1, 0] rfl)
  have J24 : ∀ (n : Nat) (v1 : Int32) (w : Wd) (H : Heap) (locs : List Loc) (ls : Array Slot), lp (fun _ _ => none) (bX9_layFar_24) n v1 w = some q → World E full w s H → va_S (wA E full) s.heap H locs → lv_has ls 5 [(0, .ref (E.2.1 99)), (1, .int v1)] → W p l e rmX9_layFar s m args below meth c H locs 0 0 Q (F0 m 24 ls []) := by
    intro n
    induction n with
    | zero =>
      intro v1 w H locs ls h hW hS hl
      exact absurd (show (none : Option (Int32 × Wd)) = some q from h) (fun z => by cases z)
    | succ n ih24 =>
      intro v1 w H locs ls h hW hS hl
      have h : bX9_layFar_24 (lp (fun _ _ => none) (bX9_layFar_24) n) v1 w = some q := h
      generalize lp (fun _ _ => none) (bX9_layFar_24) n = k24 at h ih24
      have J59 : ∀ (v1 : Int32) (w : Wd) (H : Heap) (locs : List Loc) (ls : Array Slot), jX9_layFar_59 k24 v1 w = some q → World E full w s H → va_S (wA E full) s.heap H locs → lv_has ls 5 [(0, .ref (E.2.1 99)), (1, .int v1)] → W p l e rmX9_layFar s m args below meth c H locs 0 0 Q (F0 m 59 ls []) := by
        intro v1 w H locs ls h hW hS hl
        unfold jX9_layFar_59 at h
        refine lv_iinc (v := (v1 + (1 : Int32))) (lv' := [(1, .int (v1 + (1 : Int32))), (0, .ref (E.2.1 99))]) hx hb dX9_layFar_59 hl (k := 1) rfl rfl (by decide) rfl (fun ls hl => ?_)
        refine lv_goto (tgt := 24) hx hb dX9_layFar_62 (by decide) ?_
        exact ih24 _ _ _ _ _ h hW hS (lv_sub hl [1, 0] rfl)
      unfold bX9_layFar_24 at h
      refine lv_iload_n hx hb dX9_layFar_24 rfl (lv_at hl 1 rfl) ?_
      refine lv_aload_n hx hb dX9_layFar_25 rfl (lv_at hl 0 rfl) ?_
      refine rc_Vi (k := 99) (As := []) (rest := [.int v1]) S hW hS h (kX9_cells l E  w) (cwV 0 hts gX9_layFar_X9_cells rfl rfl rfl hdX9_cells ⟨Nat.le_of_ble_eq_true rfl, Nat.le_of_ble_eq_true rfl⟩) (fl 99 rfl) rfl rfl rfl rfl hl.1 rfl (Nat.le_of_ble_eq_true rfl) ⟨Nat.zero_le _, Nat.zero_le _⟩ dX9_layFar_26 (fun x2 w3 H locs h hW hS => ?_)
      refine rb_icmp_ge (tgt := 65) hx hb h dX9_layFar_29 (by decide) (fun h => ?_) (fun h => ?_)
      · refine lv_iconst (v := (1 : Int32)) hx hb dX9_layFar_65 (by decide) ?_
        refine lv_istore_n (lv' := [(1, .int (1 : Int32)), (0, .ref (E.2.1 99))]) hx hb dX9_layFar_66 rfl hl (by decide) rfl (fun ls hl => ?_)
        exact J67 _ _ _ _ _ _ h hW hS (lv_sub hl [1, 0] rfl)
      · refine lv_aload_n hx hb dX9_layFar_32 rfl (lv_at hl 0 rfl) ?_
        refine rw_get hx hb hts iX9 hown hW (fl 99 rfl) rfl rfl 19 (by decide) e60 rfl (v := .ref (E.2.1 115)) rfl dX9_layFar_33 ?_
        refine lv_iload_n hx hb dX9_layFar_36 rfl (lv_at hl 1 rfl) ?_
        refine rw_iald hx hb hW (fun _ => (fl 115 rfl)) h dX9_layFar_37 (fun x4 h => ?_)
        refine rb_if_le (tgt := 59) hx hb h dX9_layFar_38 (by decide) (fun h => ?_) (fun h => ?_)
        · exact J59 _ _ _ _ _ h hW hS (hl)
        · refine lv_aload_n hx hb dX9_layFar_41 rfl (lv_at hl 0 rfl) ?_
          refine rw_get hx hb hts iX9 hown hW (fl 99 rfl) rfl rfl 22 (by decide) e69 rfl (v := .ref (E.2.1 118)) rfl dX9_layFar_42 ?_
          refine lv_iconst (v := (1 : Int32)) hx hb dX9_layFar_45 (by decide) ?_
          refine lv_iload_n hx hb dX9_layFar_46 rfl (lv_at hl 1 rfl) ?_
          refine lv_iadd hx hb dX9_layFar_47 ?_
          refine lv_iconst (v := (0 : Int32)) hx hb dX9_layFar_48 (by decide) ?_
          refine rw_iast hx hb hW hS (fun _ => (fl 118 rfl)) h dX9_layFar_49 (fun w5 H locs h hW hS => ?_)
          refine lv_aload_n hx hb dX9_layFar_50 rfl (lv_at hl 0 rfl) ?_
          refine rw_get hx hb hts iX9 hown hW (fl 99 rfl) rfl rfl 23 (by decide) e72 rfl (v := .ref (E.2.1 119)) rfl dX9_layFar_51 ?_
          refine lv_iconst (v := (1 : Int32)) hx hb dX9_layFar_54 (by decide) ?_
          refine lv_iload_n hx hb dX9_layFar_55 rfl (lv_at hl 1 rfl) ?_
          refine lv_iadd hx hb dX9_layFar_56 ?_
          refine lv_iconst (v := (0 : Int32)) hx hb dX9_layFar_57 (by decide) ?_
          refine rw_iast hx hb hW hS (fun _ => (fl 119 rfl)) h dX9_layFar_58 (fun w6 H locs h hW hS => ?_)
          exact J59 _ _ _ _ _ h hW hS (hl)
  have J2 : ∀ (n : Nat) (v1 : Int32) (w : Wd) (H : Heap) (locs : List Loc) (ls : Array Slot), lp (fun _ _ => none) (bX9_layFar_2) n v1 w = some q → World E full w s H → va_S (wA E full) s.heap H locs → lv_has ls 5 [(0, .ref (E.2.1 99)), (1, .int v1)] → W p l e rmX9_layFar s m args below meth c H locs 0 0 Q (F0 m 2 ls []) := by
    intro n
    induction n with
    | zero =>
      intro v1 w H locs ls h hW hS hl
      exact absurd (show (none : Option (Int32 × Wd)) = some q from h) (fun z => by cases z)
    | succ n ih2 =>
      intro v1 w H locs ls h hW hS hl
      have h : bX9_layFar_2 (lp (fun _ _ => none) (bX9_layFar_2) n) v1 w = some q := h
      generalize lp (fun _ _ => none) (bX9_layFar_2) n = k2 at h ih2
      unfold bX9_layFar_2 at h
      refine lv_iload_n hx hb dX9_layFar_2 rfl (lv_at hl 1 rfl) ?_
      refine lv_bipush (v := (52 : Int32)) hx hb dX9_layFar_3 (by decide) ?_
      refine rb_icmp_ge (tgt := 22) hx hb h dX9_layFar_5 (by decide) (fun h => ?_) (fun h => ?_)
      · refine lv_iconst (v := (0 : Int32)) hx hb dX9_layFar_22 (by decide) ?_
        refine lv_istore_n (lv' := [(1, .int (0 : Int32)), (0, .ref (E.2.1 99))]) hx hb dX9_layFar_23 rfl hl (by decide) rfl (fun ls hl => ?_)
        exact J24 _ _ _ _ _ _ h hW hS (lv_sub hl [1, 0] rfl)
      · refine lv_aload_n hx hb dX9_layFar_8 rfl (lv_at hl 0 rfl) ?_
        refine rw_get hx hb hts iX9 hown hW (fl 99 rfl) rfl rfl 22 (by decide) e69 rfl (v := .ref (E.2.1 118)) rfl dX9_layFar_9 ?_
        refine lv_iload_n hx hb dX9_layFar_12 rfl (lv_at hl 1 rfl) ?_
        refine lv_ldc (own := RX9) (v := (1000000 : Int32)) hx hb hown (hts _ (by decide +kernel)) dX9_layFar_13 ?_
        refine rw_iast hx hb hW hS (fun _ => (fl 118 rfl)) h dX9_layFar_15 (fun w1 H locs h hW hS => ?_)
        refine lv_iinc (v := (v1 + (1 : Int32))) (lv' := [(1, .int (v1 + (1 : Int32))), (0, .ref (E.2.1 99))]) hx hb dX9_layFar_16 hl (k := 1) rfl rfl (by decide) rfl (fun ls hl => ?_)
        refine lv_goto (tgt := 2) hx hb dX9_layFar_19 (by decide) ?_
        exact ih2 _ _ _ _ _ h hW hS (lv_sub hl [1, 0] rfl)
  unfold fX9_layFar at h
  refine lv_iconst (v := (0 : Int32)) hx hb dX9_layFar_0 (by decide) ?_
  refine lv_istore_n (lv' := [(1, .int (0 : Int32)), (0, .ref (E.2.1 99))]) hx hb dX9_layFar_1 rfl hl (by decide) rfl (fun ls hl => ?_)
  exact J2 _ _ _ _ _ _ h hW hS (lv_sub hl [1, 0] rfl)
