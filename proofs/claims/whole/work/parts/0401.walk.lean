noncomputable def fX2_cells  (w : Wd) : Option (Int32 × Wd) :=
  some (((w.1 1 3) * (w.1 1 4)), w)
abbrev rmX2_cells : Room := { frames := 0, cells := 0, slots := 0, locals := 0 }
set_option maxHeartbeats 4000000 in
set_option maxRecDepth 100000 in
theorem kX2_cells (l : Launch) (E : Ev)  (w : Wd) (q : Int32 × Wd) (h : fX2_cells w = some q) : CtI l yX2_cells wsX2_cells rmX2_cells E full [.ref (E.2.1 1)] w q := by
  refine mkI (cc := cX2_cells) (maxL := 1) (by decide) rfl (Nat.le_of_ble_eq_true rfl) ?_
  intro p e s m args below meth c Q S hW hQ ls hl
  obtain ⟨hx, hb, hml, hown, hts⟩ := id S
  have hW0 := hW
  have hS : va_S (wA E full) s.heap s.heap [] := va_S.rf
  have hl : lv_has ls 1 [(0, .ref (E.2.1 1))] := hl
  have iX2 : ∀ w ∈ wsX20, w ∈ wsX2_cells := by decide +kernel
  have e25 := hts (.fieldLink RX2 25 "CubeHeaps$Ground" "wide" "I") (by decide +kernel)
  have e29 := hts (.fieldLink RX2 29 "CubeHeaps$Ground" "deep" "I") (by decide +kernel)
  unfold fX2_cells at h
  refine lv_aload_n hx hb dX2_cells_0 rfl (lv_at hl 0 rfl) ?_
  refine rw_get hx hb hts iX2 hown hW (fl 1 rfl) rfl rfl 3 (by decide) e25 rfl (v := .int (w.1 1 3)) rfl dX2_cells_1 ?_
  refine lv_aload_n hx hb dX2_cells_4 rfl (lv_at hl 0 rfl) ?_
  refine rw_get hx hb hts iX2 hown hW (fl 1 rfl) rfl rfl 4 (by decide) e29 rfl (v := .int (w.1 1 4)) rfl dX2_cells_5 ?_
  refine lv_imul hx hb dX2_cells_8 ?_
  exact rrI hQ hW hS h dX2_cells_9
noncomputable def bX2_total_4 (p1 : Nat) (k4 : Int32 → Int32 → Wd → Option (Int32 × Wd)) (v2 : Int32) (v3 : Int32)  (w : Wd) : Option (Int32 × Wd) :=
  bnd (fX2_cells w) fun x1 w2 => if x1 ≤ v3 then some (v2, w2) else (gI w2 p1 v3).bind fun x3 => k4 (v2 + x3) (v3 + (1 : Int32)) w2
noncomputable def fX2_total (p1 : Nat) (w : Wd) : Option (Int32 × Wd) :=
  lp (fun _ _ _ => none) (bX2_total_4 p1) G (0 : Int32) (0 : Int32) w
abbrev rmX2_total : Room := { frames := 1, cells := 0, slots := 0, locals := 20 }
set_option maxHeartbeats 4000000 in
set_option maxRecDepth 100000 in
theorem kX2_total (l : Launch) (E : Ev) (p1 : Nat) (w : Wd) (q : Int32 × Wd) (h : fX2_total p1 w = some q) : CtI l yX2_total wsX2_total rmX2_total E full [.ref (E.2.1 1), .ref (E.2.1 p1)] w q := by
  refine mkI (cc := cX2_total) (maxL := 4) (by decide) rfl (Nat.le_of_ble_eq_true rfl) ?_
  intro p e s m args below meth c Q S hW hQ ls hl
  obtain ⟨hx, hb, hml, hown, hts⟩ := id S
  have hW0 := hW
  have hS : va_S (wA E full) s.heap s.heap [] := va_S.rf
  have hl : lv_has ls 4 [(0, .ref (E.2.1 1)), (1, .ref (E.2.1 p1))] := hl
  have J4 : ∀ (n : Nat) (v2 : Int32) (v3 : Int32) (w : Wd) (H : Heap) (locs : List Loc) (ls : Array Slot), lp (fun _ _ _ => none) (bX2_total_4 p1) n v2 v3 w = some q → World E full w s H → va_S (wA E full) s.heap H locs → lv_has ls 4 [(0, .ref (E.2.1 1)), (1, .ref (E.2.1 p1)), (2, .int v2), (3, .int v3)] → W p l e rmX2_total s m args below meth c H locs 0 0 Q (F0 m 4 ls []) := by
    intro n
    induction n with
    | zero =>
      intro v2 v3 w H locs ls h hW hS hl
      exact absurd (show (none : Option (Int32 × Wd)) = some q from h) (fun z => by cases z)
    | succ n ih4 =>
      intro v2 v3 w H locs ls h hW hS hl
      have h : bX2_total_4 p1 (lp (fun _ _ _ => none) (bX2_total_4 p1) n) v2 v3 w = some q := h
      generalize lp (fun _ _ _ => none) (bX2_total_4 p1) n = k4 at h ih4
      unfold bX2_total_4 at h
      refine lv_iload_n hx hb dX2_total_4 rfl (lv_at hl 3 rfl) ?_
      refine lv_aload_n hx hb dX2_total_5 rfl (lv_at hl 0 rfl) ?_
      refine rc_Vi (k := 1) (As := []) (rest := [.int v3]) S hW hS h (kX2_cells l E  w) (cwV 0 hts gX2_total_X2_cells rfl rfl rfl hdX2_cells ⟨Nat.le_of_ble_eq_true rfl, Nat.le_of_ble_eq_true rfl⟩) (fl 1 rfl) rfl rfl rfl rfl hl.1 rfl (Nat.le_of_ble_eq_true rfl) ⟨Nat.zero_le _, Nat.zero_le _⟩ dX2_total_6 (fun x1 w2 H locs h hW hS => ?_)
      refine rb_icmp_ge (tgt := 24) hx hb h dX2_total_9 (by decide) (fun h => ?_) (fun h => ?_)
      · refine lv_iload_n hx hb dX2_total_24 rfl (lv_at hl 2 rfl) ?_
        exact rrI hQ hW hS h dX2_total_25
      · refine lv_iload_n hx hb dX2_total_12 rfl (lv_at hl 2 rfl) ?_
        refine lv_aload_n hx hb dX2_total_13 rfl (lv_at hl 1 rfl) ?_
        refine lv_iload_n hx hb dX2_total_14 rfl (lv_at hl 3 rfl) ?_
        refine rw_iald hx hb hW LI_full h dX2_total_15 (fun x3 h => ?_)
        refine lv_iadd hx hb dX2_total_16 ?_
        refine lv_istore_n (lv' := [(2, .int (v2 + x3)), (0, .ref (E.2.1 1)), (1, .ref (E.2.1 p1)), (3, .int v3)]) hx hb dX2_total_17 rfl hl (by decide) rfl (fun ls hl => ?_)
        refine lv_iinc (v := (v3 + (1 : Int32))) (lv' := [(3, .int (v3 + (1 : Int32))), (2, .int (v2 + x3)), (0, .ref (E.2.1 1)), (1, .ref (E.2.1 p1))]) hx hb dX2_total_18 hl (k := 3) rfl rfl (by decide) rfl (fun ls hl => ?_)
        refine lv_goto (tgt := 4) hx hb dX2_total_21 (by decide) ?_
        exact ih4 _ _ _ _ _ _ h hW hS (lv_sub hl [2, 3, 1, 0] rfl)
  unfold fX2_total at h
  refine lv_iconst (v := (0 : Int32)) hx hb dX2_total_0 (by decide) ?_
  refine lv_istore_n (lv' := [(2, .int (0 : Int32)), (0, .ref (E.2.1 1)), (1, .ref (E.2.1 p1))]) hx hb dX2_total_1 rfl hl (by decide) rfl (fun ls hl => ?_)
  refine lv_iconst (v := (0 : Int32)) hx hb dX2_total_2 (by decide) ?_
  refine lv_istore_n (lv' := [(3, .int (0 : Int32)), (2, .int (0 : Int32)), (0, .ref (E.2.1 1)), (1, .ref (E.2.1 p1))]) hx hb dX2_total_3 rfl hl (by decide) rfl (fun ls hl => ?_)
  exact J4 _ _ _ _ _ _ _ h hW hS (lv_sub hl [2, 3, 1, 0] rfl)
noncomputable def bJ7_fill_53178_5 (p0 : Nat) (p1 : Int32) (k5 : Int32 → Int32 → Wd → Option (Unit × Wd)) (v2 : Int32) (v3 : Int32)  (w : Wd) : Option (Unit × Wd) :=
  if v3 ≤ v2 then some ((), w) else (sI w p0 v2 p1).bind fun w1 => k5 (v2 + (1 : Int32)) v3 w1
noncomputable def fJ7_fill_53178 (p0 : Nat) (p1 : Int32) (w : Wd) : Option (Unit × Wd) :=
  if 0 < LI p0 then lp (fun _ _ _ => none) (bJ7_fill_53178_5 p0 p1) G (0 : Int32) (nI (LI p0)) w else none
abbrev rmJ7_fill_53178 : Room := { frames := 0, cells := 0, slots := 0, locals := 0 }
set_option maxHeartbeats 4000000 in
set_option maxRecDepth 100000 in
theorem kJ7_fill_53178 (l : Launch) (E : Ev) (rs : Nat → Prop) (p0 : Nat) (p1 : Int32) (hp : 0 < LI p0 → rs p0) (w : Wd) (q : Unit × Wd) (h : fJ7_fill_53178 p0 p1 w = some q) : CtV l yJ7_fill_53178 wsJ7_fill_53178 rmJ7_fill_53178 E rs [.ref (E.2.1 p0), .int p1] w q := by
  refine mkV (cc := cJ7_fill_53178) (maxL := 4) (by decide) rfl (Nat.le_of_ble_eq_true rfl) ?_
  intro p e s m args below meth c Q S hW hQ ls hl
  obtain ⟨hx, hb, hml, hown, hts⟩ := id S
  have hW0 := hW
  have hS : va_S (wA E rs) s.heap s.heap [] := va_S.rf
  have hl : lv_has ls 4 [(0, .ref (E.2.1 p0)), (1, .int p1)] := hl
  have J5 : ∀ (n : Nat) (v2 : Int32) (v3 : Int32) (w : Wd) (H : Heap) (locs : List Loc) (ls : Array Slot), lp (fun _ _ _ => none) (bJ7_fill_53178_5 p0 p1) n v2 v3 w = some q → World E rs w s H → va_S (wA E rs) s.heap H locs → lv_has ls 4 [(0, .ref (E.2.1 p0)), (1, .int p1), (2, .int v2), (3, .int v3)] → W p l e rmJ7_fill_53178 s m args below meth c H locs 0 0 Q (F0 m 5 ls []) := by
    intro n
    induction n with
    | zero =>
      intro v2 v3 w H locs ls h hW hS hl
      exact absurd (show (none : Option (Unit × Wd)) = some q from h) (fun z => by cases z)
    | succ n ih5 =>
      intro v2 v3 w H locs ls h hW hS hl
      have h : bJ7_fill_53178_5 p0 p1 (lp (fun _ _ _ => none) (bJ7_fill_53178_5 p0 p1) n) v2 v3 w = some q := h
      generalize lp (fun _ _ _ => none) (bJ7_fill_53178_5 p0 p1) n = k5 at h ih5
      unfold bJ7_fill_53178_5 at h
      refine lv_iload_n hx hb dJ7_fill_53178_5 rfl (lv_at hl 2 rfl) ?_
      refine lv_iload_n hx hb dJ7_fill_53178_6 rfl (lv_at hl 3 rfl) ?_
      refine rb_icmp_ge (tgt := 20) hx hb h dJ7_fill_53178_7 (by decide) (fun h => ?_) (fun h => ?_)
      · exact rrV hQ hW hS h dJ7_fill_53178_20
      · refine lv_aload_n hx hb dJ7_fill_53178_10 rfl (lv_at hl 0 rfl) ?_
        refine lv_iload_n hx hb dJ7_fill_53178_11 rfl (lv_at hl 2 rfl) ?_
        refine lv_iload_n hx hb dJ7_fill_53178_12 rfl (lv_at hl 1 rfl) ?_
        refine rw_iast hx hb hW hS hp h dJ7_fill_53178_13 (fun w1 H locs h hW hS => ?_)
        refine lv_iinc (v := (v2 + (1 : Int32))) (lv' := [(2, .int (v2 + (1 : Int32))), (0, .ref (E.2.1 p0)), (1, .int p1), (3, .int v3)]) hx hb dJ7_fill_53178_14 hl (k := 2) rfl rfl (by decide) rfl (fun ls hl => ?_)
        refine lv_goto (tgt := 5) hx hb dJ7_fill_53178_17 (by decide) ?_
        exact ih5 _ _ _ _ _ _ h hW hS (lv_sub hl [1, 2, 0, 3] rfl)
  unfold fJ7_fill_53178 at h
  refine lv_iconst (v := (0 : Int32)) hx hb dJ7_fill_53178_0 (by decide) ?_
  refine lv_istore_n (lv' := [(2, .int (0 : Int32)), (0, .ref (E.2.1 p0)), (1, .int p1)]) hx hb dJ7_fill_53178_1 rfl hl (by decide) rfl (fun ls hl => ?_)
  refine lv_aload_n hx hb dJ7_fill_53178_2 rfl (lv_at hl 1 rfl) ?_
  refine rw_alenI hx hb hW hp h dJ7_fill_53178_3 (fun h => ?_)
  refine lv_istore_n (lv' := [(3, .int (nI (LI p0))), (2, .int (0 : Int32)), (0, .ref (E.2.1 p0)), (1, .int p1)]) hx hb dJ7_fill_53178_4 rfl hl (by decide) rfl (fun ls hl => ?_)
  exact J5 _ _ _ _ _ _ _ h hW hS (lv_sub hl [2, 3, 1, 0] rfl)
noncomputable def fX2_beside (p1 : Int32) (p2 : Int32) (w : Wd) : Option (Int32 × Wd) :=
  (gI w 4 ((p1 * (4 : Int32)) + p2)).bind fun x1 => some (x1, w)
abbrev rmX2_beside : Room := { frames := 0, cells := 0, slots := 0, locals := 0 }
set_option maxHeartbeats 4000000 in
set_option maxRecDepth 100000 in
theorem kX2_beside (l : Launch) (E : Ev) (p1 : Int32) (p2 : Int32) (w : Wd) (q : Int32 × Wd) (h : fX2_beside p1 p2 w = some q) : CtI l yX2_beside wsX2_beside rmX2_beside E full [.ref (E.2.1 1), .int p1, .int p2] w q := by
  refine mkI (cc := cX2_beside) (maxL := 3) (by decide) rfl (Nat.le_of_ble_eq_true rfl) ?_
  intro p e s m args below meth c Q S hW hQ ls hl
  obtain ⟨hx, hb, hml, hown, hts⟩ := id S
  have hW0 := hW
  have hS : va_S (wA E full) s.heap s.heap [] := va_S.rf
  have hl : lv_has ls 3 [(0, .ref (E.2.1 1)), (1, .int p1), (2, .int p2)] := hl
  have iX2 : ∀ w ∈ wsX20, w ∈ wsX2_beside := by decide +kernel
  have e18 := hts (.fieldLink RX2 18 "CubeHeaps$Ground" "neighbours" "[I") (by decide +kernel)
  unfold fX2_beside at h
  refine lv_aload_n hx hb dX2_beside_0 rfl (lv_at hl 0 rfl) ?_
  refine rw_get hx hb hts iX2 hown hW (fl 1 rfl) rfl rfl 2 (by decide) e18 rfl (v := .ref (E.2.1 4)) rfl dX2_beside_1 ?_
  refine lv_iload_n hx hb dX2_beside_4 rfl (lv_at hl 1 rfl) ?_
  refine lv_iconst (v := (4 : Int32)) hx hb dX2_beside_5 (by decide) ?_
  refine lv_imul hx hb dX2_beside_6 ?_
  refine lv_iload_n hx hb dX2_beside_7 rfl (lv_at hl 2 rfl) ?_
  refine lv_iadd hx hb dX2_beside_8 ?_
  refine rw_iald hx hb hW (fun _ => (fl 4 rfl)) h dX2_beside_9 (fun x1 h => ?_)
  exact rrI hQ hW hS h dX2_beside_10
noncomputable def fX0_carriedBack (p1 : Int32) (p2 : Int32) (w : Wd) : Option (Int32 × Wd) :=
  (gI w 92 ((p1 * (4 : Int32)) + (p2 ^^^ (2 : Int32)))).bind fun x1 => some (x1, w)
abbrev rmX0_carriedBack : Room := { frames := 0, cells := 0, slots := 0, locals := 0 }
set_option maxHeartbeats 4000000 in
set_option maxRecDepth 100000 in
theorem kX0_carriedBack (l : Launch) (E : Ev) (p1 : Int32) (p2 : Int32) (w : Wd) (q : Int32 × Wd) (h : fX0_carriedBack p1 p2 w = some q) : CtI l yX0_carriedBack wsX0_carriedBack rmX0_carriedBack E full [.ref (E.2.1 90), .int p1, .int p2] w q := by
  refine mkI (cc := cX0_carriedBack) (maxL := 3) (by decide) rfl (Nat.le_of_ble_eq_true rfl) ?_
  intro p e s m args below meth c Q S hW hQ ls hl
  obtain ⟨hx, hb, hml, hown, hts⟩ := id S
  have hW0 := hW
  have hS : va_S (wA E full) s.heap s.heap [] := va_S.rf
  have hl : lv_has ls 3 [(0, .ref (E.2.1 90)), (1, .int p1), (2, .int p2)] := hl
  have iX0 : ∀ w ∈ wsX00, w ∈ wsX0_carriedBack := by decide +kernel
  have e15 := hts (.fieldLink RX0 15 "CubeHeaps$Carrying" "carried" "[I") (by decide +kernel)
  unfold fX0_carriedBack at h
  refine lv_aload_n hx hb dX0_carriedBack_0 rfl (lv_at hl 0 rfl) ?_
  refine rw_get hx hb hts iX0 hown hW (fl 90 rfl) rfl rfl 2 (by decide) e15 rfl (v := .ref (E.2.1 92)) rfl dX0_carriedBack_1 ?_
  refine lv_iload_n hx hb dX0_carriedBack_4 rfl (lv_at hl 1 rfl) ?_
  refine lv_iconst (v := (4 : Int32)) hx hb dX0_carriedBack_5 (by decide) ?_
  refine lv_imul hx hb dX0_carriedBack_6 ?_
  refine lv_iload_n hx hb dX0_carriedBack_7 rfl (lv_at hl 2 rfl) ?_
  refine lv_iconst (v := (2 : Int32)) hx hb dX0_carriedBack_8 (by decide) ?_
  refine lv_ixor hx hb dX0_carriedBack_9 ?_
  refine lv_iadd hx hb dX0_carriedBack_10 ?_
  refine rw_iald hx hb hW (fun _ => (fl 92 rfl)) h dX0_carriedBack_11 (fun x1 h => ?_)
  exact rrI hQ hW hS h dX0_carriedBack_12
noncomputable def jX0_stepOn_92 (p1 : Int32) (k4 : Int32 → Int32 → Wd → Option (Int32 × Wd)) (v2 : Int32) (v3 : Int32)  (w : Wd) : Option (Int32 × Wd) :=
  k4 v2 (v3 + (1 : Int32)) w
noncomputable def jX0_stepOn_50 (p1 : Int32) (k4 : Int32 → Int32 → Wd → Option (Int32 × Wd)) (v2 : Int32) (v3 : Int32) (v4 : Int32) (s0 : Int32) (s1 : Int32)  (w : Wd) : Option (Int32 × Wd) :=
  (gI w 93 v4).bind fun x6 => if x6 ≤ (s1 + s0) then jX0_stepOn_92 p1 k4 v2 v3 w else (sI w 93 v4 (s1 + s0)).bind fun w7 => (sI w7 94 v4 p1).bind fun w8 => (sI w8 95 v4 v3).bind fun w9 => jX0_stepOn_92 p1 k4 (1 : Int32) v3 w9
noncomputable def bX0_stepOn_4 (p1 : Int32) (k4 : Int32 → Int32 → Wd → Option (Int32 × Wd)) (v2 : Int32) (v3 : Int32)  (w : Wd) : Option (Int32 × Wd) :=
  if (4 : Int32) ≤ v3 then zr v2 w else bnd (fX2_beside p1 v3 w) fun x1 w2 => if x1 = (-1 : Int32) then jX0_stepOn_92 p1 k4 v2 v3 w2 else (gI w2 93 p1).bind fun x3 => bnd (fX0_carriedBack x1 v3 w2) fun x4 w5 => if x4 ≤ 0 then jX0_stepOn_50 p1 k4 v2 v3 x1 (1 : Int32) x3 w5 else jX0_stepOn_50 p1 k4 v2 v3 x1 (-1 : Int32) x3 w5
noncomputable def fX0_stepOn (p1 : Int32) (w : Wd) : Option (Int32 × Wd) :=
  lp (fun _ _ _ => none) (bX0_stepOn_4 p1) G (0 : Int32) (0 : Int32) w
abbrev rmX0_stepOn : Room := { frames := 1, cells := 0, slots := 0, locals := 22 }
set_option maxHeartbeats 4000000 in
set_option maxRecDepth 100000 in
theorem kX0_stepOn (l : Launch) (E : Ev) (p1 : Int32) (w : Wd) (q : Int32 × Wd) (h : fX0_stepOn p1 w = some q) : CtI l yX0_stepOn wsX0_stepOn rmX0_stepOn E full [.ref (E.2.1 90), .int p1] w q := by
  refine mkZ (cc := cX0_stepOn) (maxL := 6) (by decide) rfl (Nat.le_of_ble_eq_true rfl) ?_
  intro p e s m args below meth c Q S hW hQ ls hl
  obtain ⟨hx, hb, hml, hown, hts⟩ := id S
  have hW0 := hW
  have hS : va_S (wA E full) s.heap s.heap [] := va_S.rf
  have hl : lv_has ls 6 [(0, .ref (E.2.1 90)), (1, .int p1)] := hl
  have iX0 : ∀ w ∈ wsX00, w ∈ wsX0_stepOn := by decide +kernel
  have e18 := hts (.fieldLink RX0 18 "CubeHeaps$Carrying" "steps" "[I") (by decide +kernel)
  have e21 := hts (.fieldLink RX0 21 "CubeHeaps$Carrying" "cameFrom" "[I") (by decide +kernel)
  have e24 := hts (.fieldLink RX0 24 "CubeHeaps$Carrying" "cameBy" "[I") (by decide +kernel)
  have e27 := hts (.fieldLink RX0 27 "CubeHeaps$Carrying" "ground" "LCubeHeaps$Ground;") (by decide +kernel)
  have J4 : ∀ (n : Nat) (v2 : Int32) (v3 : Int32) (w : Wd) (H : Heap) (locs : List Loc) (ls : Array Slot), lp (fun _ _ _ => none) (bX0_stepOn_4 p1) n v2 v3 w = some q → World E full w s H → va_S (wA E full) s.heap H locs → lv_has ls 6 [(0, .ref (E.2.1 90)), (1, .int p1), (2, .int v2), (3, .int v3)] → W p l e rmX0_stepOn s m args below meth c H locs 0 0 Q (F0 m 4 ls []) := by
    intro n
    induction n with
    | zero =>
      intro v2 v3 w H locs ls h hW hS hl
      exact absurd (show (none : Option (Int32 × Wd)) = some q from h) (fun z => by cases z)
    | succ n ih4 =>
      intro v2 v3 w H locs ls h hW hS hl
      have h : bX0_stepOn_4 p1 (lp (fun _ _ _ => none) (bX0_stepOn_4 p1) n) v2 v3 w = some q := h
      generalize lp (fun _ _ _ => none) (bX0_stepOn_4 p1) n = k4 at h ih4
      have J92 : ∀ (v2 : Int32) (v3 : Int32) (w : Wd) (H : Heap) (locs : List Loc) (ls : Array Slot), jX0_stepOn_92 p1 k4 v2 v3 w = some q → World E full w s H → va_S (wA E full) s.heap H locs → lv_has ls 6 [(0, .ref (E.2.1 90)), (1, .int p1), (2, .int v2), (3, .int v3)] → W p l e rmX0_stepOn s m args below meth c H locs 0 0 Q (F0 m 92 ls []) := by
        intro v2 v3 w H locs ls h hW hS hl
        unfold jX0_stepOn_92 at h
        refine lv_iinc (v := (v3 + (1 : Int32))) (lv' := [(3, .int (v3 + (1 : Int32))), (0, .ref (E.2.1 90)), (1, .int p1), (2, .int v2)]) hx hb dX0_stepOn_92 hl (k := 3) rfl rfl (by decide) rfl (fun ls hl => ?_)
        refine lv_goto (tgt := 4) hx hb dX0_stepOn_95 (by decide) ?_
        exact ih4 _ _ _ _ _ _ h hW hS (lv_sub hl [1, 2, 3, 0] rfl)
      have J50 : ∀ (v2 : Int32) (v3 : Int32) (v4 : Int32) (s0 : Int32) (s1 : Int32) (w : Wd) (H : Heap) (locs : List Loc) (ls : Array Slot), jX0_stepOn_50 p1 k4 v2 v3 v4 s0 s1 w = some q → World E full w s H → va_S (wA E full) s.heap H locs → lv_has ls 6 [(0, .ref (E.2.1 90)), (1, .int p1), (2, .int v2), (3, .int v3), (4, .int v4)] → W p l e rmX0_stepOn s m args below meth c H locs 0 0 Q (F0 m 50 ls [.int s0, .int s1]) := by
        intro v2 v3 v4 s0 s1 w H locs ls h hW hS hl
        unfold jX0_stepOn_50 at h
        refine lv_iadd hx hb dX0_stepOn_50 ?_
        refine lv_istore (lv' := [(5, .int (s1 + s0)), (0, .ref (E.2.1 90)), (1, .int p1), (2, .int v2), (3, .int v3), (4, .int v4)]) hx hb dX0_stepOn_51 hl (by decide) rfl (fun ls hl => ?_)
        refine lv_iload hx hb dX0_stepOn_53 (lv_at hl 0 rfl) ?_
        refine lv_aload_n hx hb dX0_stepOn_55 rfl (lv_at hl 1 rfl) ?_
        refine rw_get hx hb hts iX0 hown hW (fl 90 rfl) rfl rfl 3 (by decide) e18 rfl (v := .ref (E.2.1 93)) rfl dX0_stepOn_56 ?_
        refine lv_iload hx hb dX0_stepOn_59 (lv_at hl 5 rfl) ?_
        refine rw_iald hx hb hW (fun _ => (fl 93 rfl)) h dX0_stepOn_61 (fun x6 h => ?_)
        refine rb_icmp_ge (tgt := 92) hx hb h dX0_stepOn_62 (by decide) (fun h => ?_) (fun h => ?_)
        · exact J92 _ _ _ _ _ _ h hW hS (lv_sub hl [1, 2, 3, 4] rfl)
        · refine lv_aload_n hx hb dX0_stepOn_65 rfl (lv_at hl 1 rfl) ?_
          refine rw_get hx hb hts iX0 hown hW (fl 90 rfl) rfl rfl 3 (by decide) e18 rfl (v := .ref (E.2.1 93)) rfl dX0_stepOn_66 ?_
          refine lv_iload hx hb dX0_stepOn_69 (lv_at hl 5 rfl) ?_
          refine lv_iload hx hb dX0_stepOn_71 (lv_at hl 0 rfl) ?_
          refine rw_iast hx hb hW hS (fun _ => (fl 93 rfl)) h dX0_stepOn_73 (fun w7 H locs h hW hS => ?_)
          refine lv_aload_n hx hb dX0_stepOn_74 rfl (lv_at hl 1 rfl) ?_
          refine rw_get hx hb hts iX0 hown hW (fl 90 rfl) rfl rfl 4 (by decide) e21 rfl (v := .ref (E.2.1 94)) rfl dX0_stepOn_75 ?_
          refine lv_iload hx hb dX0_stepOn_78 (lv_at hl 5 rfl) ?_
          refine lv_iload_n hx hb dX0_stepOn_80 rfl (lv_at hl 2 rfl) ?_
          refine rw_iast hx hb hW hS (fun _ => (fl 94 rfl)) h dX0_stepOn_81 (fun w8 H locs h hW hS => ?_)
          refine lv_aload_n hx hb dX0_stepOn_82 rfl (lv_at hl 1 rfl) ?_
          refine rw_get hx hb hts iX0 hown hW (fl 90 rfl) rfl rfl 5 (by decide) e24 rfl (v := .ref (E.2.1 95)) rfl dX0_stepOn_83 ?_
          refine lv_iload hx hb dX0_stepOn_86 (lv_at hl 5 rfl) ?_
          refine lv_iload_n hx hb dX0_stepOn_88 rfl (lv_at hl 4 rfl) ?_
          refine rw_iast hx hb hW hS (fun _ => (fl 95 rfl)) h dX0_stepOn_89 (fun w9 H locs h hW hS => ?_)
          refine lv_iconst (v := (1 : Int32)) hx hb dX0_stepOn_90 (by decide) ?_
          refine lv_istore_n (lv' := [(2, .int (1 : Int32)), (5, .int (s1 + s0)), (0, .ref (E.2.1 90)), (1, .int p1), (3, .int v3), (4, .int v4)]) hx hb dX0_stepOn_91 rfl hl (by decide) rfl (fun ls hl => ?_)
          exact J92 _ _ _ _ _ _ h hW hS (lv_sub hl [2, 3, 0, 4] rfl)
      unfold bX0_stepOn_4 at h
      refine lv_iload_n hx hb dX0_stepOn_4 rfl (lv_at hl 3 rfl) ?_
      refine lv_iconst (v := (4 : Int32)) hx hb dX0_stepOn_5 (by decide) ?_
      refine rb_icmp_ge (tgt := 98) hx hb h dX0_stepOn_6 (by decide) (fun h => ?_) (fun h => ?_)
      · refine lv_iload_n hx hb dX0_stepOn_98 rfl (lv_at hl 2 rfl) ?_
        exact rrZ hQ hW hS h dX0_stepOn_99
      · refine lv_aload_n hx hb dX0_stepOn_9 rfl (lv_at hl 0 rfl) ?_
        refine rw_get hx hb hts iX0 hown hW (fl 90 rfl) rfl rfl 0 (by decide) e27 rfl (v := .ref (E.2.1 1)) rfl dX0_stepOn_10 ?_
        refine lv_iload_n hx hb dX0_stepOn_13 rfl (lv_at hl 1 rfl) ?_
        refine lv_iload_n hx hb dX0_stepOn_14 rfl (lv_at hl 3 rfl) ?_
        refine rc_Vi (k := 1) (As := [.int p1, .int v3]) (rest := []) S hW hS h (kX2_beside l E p1 v3 w) (cwV 2 hts gX0_stepOn_X2_beside rfl rfl rfl hdX2_beside ⟨Nat.le_of_ble_eq_true rfl, Nat.le_of_ble_eq_true rfl⟩) (fl 1 rfl) rfl rfl rfl rfl hl.1 rfl (Nat.le_of_ble_eq_true rfl) ⟨Nat.zero_le _, Nat.zero_le _⟩ dX0_stepOn_15 (fun x1 w2 H locs h hW hS => ?_)
        refine lv_istore (lv' := [(4, .int x1), (0, .ref (E.2.1 90)), (1, .int p1), (2, .int v2), (3, .int v3)]) hx hb dX0_stepOn_18 hl (by decide) rfl (fun ls hl => ?_)
        refine lv_iload hx hb dX0_stepOn_20 (lv_at hl 0 rfl) ?_
        refine lv_iconst (v := (-1 : Int32)) hx hb dX0_stepOn_22 (by decide) ?_
        refine rb_icmp_ne (tgt := 29) hx hb h dX0_stepOn_23 (by decide) (fun h => ?_) (fun h => ?_)
        · refine lv_aload_n hx hb dX0_stepOn_29 rfl (lv_at hl 1 rfl) ?_
          refine rw_get hx hb hts iX0 hown hW (fl 90 rfl) rfl rfl 3 (by decide) e18 rfl (v := .ref (E.2.1 93)) rfl dX0_stepOn_30 ?_
          refine lv_iload_n hx hb dX0_stepOn_33 rfl (lv_at hl 2 rfl) ?_
          refine rw_iald hx hb hW (fun _ => (fl 93 rfl)) h dX0_stepOn_34 (fun x3 h => ?_)
          refine lv_aload_n hx hb dX0_stepOn_35 rfl (lv_at hl 1 rfl) ?_
          refine lv_iload hx hb dX0_stepOn_36 (lv_at hl 0 rfl) ?_
          refine lv_iload_n hx hb dX0_stepOn_38 rfl (lv_at hl 4 rfl) ?_
          refine rc_Vi (k := 90) (As := [.int x1, .int v3]) (rest := [.int x3]) S hW hS h (kX0_carriedBack l E x1 v3 w2) (cwV 2 hts gX0_stepOn_X0_carriedBack rfl rfl rfl hdX0_carriedBack ⟨Nat.le_of_ble_eq_true rfl, Nat.le_of_ble_eq_true rfl⟩) (fl 90 rfl) rfl rfl rfl rfl hl.1 rfl (Nat.le_of_ble_eq_true rfl) ⟨Nat.zero_le _, Nat.zero_le _⟩ dX0_stepOn_39 (fun x4 w5 H locs h hW hS => ?_)
          refine rb_if_le (tgt := 49) hx hb h dX0_stepOn_42 (by decide) (fun h => ?_) (fun h => ?_)
          · refine lv_iconst (v := (1 : Int32)) hx hb dX0_stepOn_49 (by decide) ?_
            exact J50 _ _ _ _ _ _ _ _ _ h hW hS (lv_sub hl [1, 2, 3, 4, 0] rfl)
          · refine lv_iconst (v := (-1 : Int32)) hx hb dX0_stepOn_45 (by decide) ?_
            refine lv_goto (tgt := 50) hx hb dX0_stepOn_46 (by decide) ?_
            exact J50 _ _ _ _ _ _ _ _ _ h hW hS (lv_sub hl [1, 2, 3, 4, 0] rfl)
        · refine lv_goto (tgt := 92) hx hb dX0_stepOn_26 (by decide) ?_
          exact J92 _ _ _ _ _ _ h hW hS (lv_sub hl [1, 2, 3, 4] rfl)
  unfold fX0_stepOn at h
  refine lv_iconst (v := (0 : Int32)) hx hb dX0_stepOn_0 (by decide) ?_
  refine lv_istore_n (lv' := [(2, .int (0 : Int32)), (0, .ref (E.2.1 90)), (1, .int p1)]) hx hb dX0_stepOn_1 rfl hl (by decide) rfl (fun ls hl => ?_)
  refine lv_iconst (v := (0 : Int32)) hx hb dX0_stepOn_2 (by decide) ?_
  refine lv_istore_n (lv' := [(3, .int (0 : Int32)), (2, .int (0 : Int32)), (0, .ref (E.2.1 90)), (1, .int p1)]) hx hb dX0_stepOn_3 rfl hl (by decide) rfl (fun ls hl => ?_)
  exact J4 _ _ _ _ _ _ _ h hW hS (lv_sub hl [2, 3, 1, 0] rfl)
noncomputable def jX0_findWays_34 (k2 : Int32 → Wd → Option (Unit × Wd)) (v1 : Int32) (s0 : Int32) (s1 : Int32)  (w : Wd) : Option (Unit × Wd) :=
  (sI w 93 s1 s0).bind fun w4 => (sI w4 94 v1 v1).bind fun w5 => k2 (v1 + (1 : Int32)) w5
noncomputable def jX0_findWays_99 (k52 : Int32 → Int32 → Wd → Option (Unit × Wd)) (k66 : Int32 → Int32 → Int32 → Wd → Option (Unit × Wd)) (v1 : Int32) (v2 : Int32) (v3 : Int32)  (w : Wd) : Option (Unit × Wd) :=
  k66 v1 v2 (v3 + (1 : Int32)) w
noncomputable def bX0_findWays_66 (k52 : Int32 → Int32 → Wd → Option (Unit × Wd)) (k66 : Int32 → Int32 → Int32 → Wd → Option (Unit × Wd)) (v1 : Int32) (v2 : Int32) (v3 : Int32)  (w : Wd) : Option (Unit × Wd) :=
  bnd (fX2_cells w) fun x6 w7 => if x6 ≤ v3 then k52 v1 (v2 + (1 : Int32)) w7 else (gI w7 93 v3).bind fun x8 => if (1000 : Int32) ≤ x8 then jX0_findWays_99 k52 k66 v1 v2 v3 w7 else bnd (fX0_stepOn v3 w7) fun x9 w10 => if x9 = 0 then jX0_findWays_99 k52 k66 v1 v2 v3 w10 else jX0_findWays_99 k52 k66 (1 : Int32) v2 v3 w10
noncomputable def bX0_findWays_52 (k52 : Int32 → Int32 → Wd → Option (Unit × Wd)) (v1 : Int32) (v2 : Int32)  (w : Wd) : Option (Unit × Wd) :=
  if (25 : Int32) ≤ v2 then some ((), w) else if v1 = 0 then some ((), w) else lp (fun _ _ _ _ => none) (bX0_findWays_66 k52) G (0 : Int32) v2 (0 : Int32) w
noncomputable def bX0_findWays_2 (k2 : Int32 → Wd → Option (Unit × Wd)) (v1 : Int32)  (w : Wd) : Option (Unit × Wd) :=
  bnd (fX2_cells w) fun x1 w2 => if x1 ≤ v1 then lp (fun _ _ _ => none) (bX0_findWays_52) G (1 : Int32) (0 : Int32) w2 else (gI w2 91 v1).bind fun x3 => if x3 ≤ 0 then jX0_findWays_34 k2 v1 (1000 : Int32) v1 w2 else jX0_findWays_34 k2 v1 (0 : Int32) v1 w2
noncomputable def fX0_findWays  (w : Wd) : Option (Unit × Wd) :=
  lp (fun _ _ => none) (bX0_findWays_2) G (0 : Int32) w
abbrev rmX0_findWays : Room := { frames := 2, cells := 0, slots := 0, locals := 47 }
set_option maxHeartbeats 4000000 in
set_option maxRecDepth 100000 in
theorem kX0_findWays (l : Launch) (E : Ev)  (w : Wd) (q : Unit × Wd) (h : fX0_findWays w = some q) : CtV l yX0_findWays wsX0_findWays rmX0_findWays E full [.ref (E.2.1 90)] w q := by
  refine mkV (cc := cX0_findWays) (maxL := 4) (by decide) rfl (Nat.le_of_ble_eq_true rfl) ?_
  intro p e s m args below meth c Q S hW hQ ls hl
  obtain ⟨hx, hb, hml, hown, hts⟩ := id S
  have hW0 := hW
  have hS : va_S (wA E full) s.heap s.heap [] := va_S.rf
  have hl : lv_has ls 4 [(0, .ref (E.2.1 90))] := hl
  have iX0 : ∀ w ∈ wsX00, w ∈ wsX0_findWays := by decide +kernel
  have e9 := hts (.fieldLink RX0 9 "CubeHeaps$Carrying" "surplus" "[I") (by decide +kernel)
  have e18 := hts (.fieldLink RX0 18 "CubeHeaps$Carrying" "steps" "[I") (by decide +kernel)
  have e21 := hts (.fieldLink RX0 21 "CubeHeaps$Carrying" "cameFrom" "[I") (by decide +kernel)
  have e27 := hts (.fieldLink RX0 27 "CubeHeaps$Carrying" "ground" "LCubeHeaps$Ground;") (by decide +kernel)
  have J52 : ∀ (n : Nat) (v1 : Int32) (v2 : Int32) (w : Wd) (H : Heap) (locs : List Loc) (ls : Array Slot), lp (fun _ _ _ => none) (bX0_findWays_52) n v1 v2 w = some q → World E full w s H → va_S (wA E full) s.heap H locs → lv_has ls 4 [(0, .ref (E.2.1 90)), (1, .int v1), (2, .int v2)] → W p l e rmX0_findWays s m args below meth c H locs 0 0 Q (F0 m 52 ls []) := by
    intro n
    induction n with
    | zero =>
      intro v1 v2 w H locs ls h hW hS hl
      exact absurd (show (none : Option (Unit × Wd)) = some q from h) (fun z => by cases z)
    | succ n ih52 =>
      intro v1 v2 w H locs ls h hW hS hl
      have h : bX0_findWays_52 (lp (fun _ _ _ => none) (bX0_findWays_52) n) v1 v2 w = some q := h
      generalize lp (fun _ _ _ => none) (bX0_findWays_52) n = k52 at h ih52
      have J66 : ∀ (n : Nat) (v1 : Int32) (v2 : Int32) (v3 : Int32) (w : Wd) (H : Heap) (locs : List Loc) (ls : Array Slot), lp (fun _ _ _ _ => none) (bX0_findWays_66 k52) n v1 v2 v3 w = some q → World E full w s H → va_S (wA E full) s.heap H locs → lv_has ls 4 [(0, .ref (E.2.1 90)), (1, .int v1), (2, .int v2), (3, .int v3)] → W p l e rmX0_findWays s m args below meth c H locs 0 0 Q (F0 m 66 ls []) := by
        intro n
        induction n with
        | zero =>
          intro v1 v2 v3 w H locs ls h hW hS hl
          exact absurd (show (none : Option (Unit × Wd)) = some q from h) (fun z => by cases z)
        | succ n ih66 =>
          intro v1 v2 v3 w H locs ls h hW hS hl
          have h : bX0_findWays_66 k52 (lp (fun _ _ _ _ => none) (bX0_findWays_66 k52) n) v1 v2 v3 w = some q := h
          generalize lp (fun _ _ _ _ => none) (bX0_findWays_66 k52) n = k66 at h ih66
          have J99 : ∀ (v1 : Int32) (v2 : Int32) (v3 : Int32) (w : Wd) (H : Heap) (locs : List Loc) (ls : Array Slot), jX0_findWays_99 k52 k66 v1 v2 v3 w = some q → World E full w s H → va_S (wA E full) s.heap H locs → lv_has ls 4 [(0, .ref (E.2.1 90)), (1, .int v1), (2, .int v2), (3, .int v3)] → W p l e rmX0_findWays s m args below meth c H locs 0 0 Q (F0 m 99 ls []) := by
            intro v1 v2 v3 w H locs ls h hW hS hl
            unfold jX0_findWays_99 at h
            refine lv_iinc (v := (v3 + (1 : Int32))) (lv' := [(3, .int (v3 + (1 : Int32))), (0, .ref (E.2.1 90)), (1, .int v1), (2, .int v2)]) hx hb dX0_findWays_99 hl (k := 3) rfl rfl (by decide) rfl (fun ls hl => ?_)
            refine lv_goto (tgt := 66) hx hb dX0_findWays_102 (by decide) ?_
            exact ih66 _ _ _ _ _ _ _ h hW hS (lv_sub hl [1, 2, 3, 0] rfl)
          unfold bX0_findWays_66 at h
          refine lv_iload_n hx hb dX0_findWays_66 rfl (lv_at hl 3 rfl) ?_
          refine lv_aload_n hx hb dX0_findWays_67 rfl (lv_at hl 0 rfl) ?_
          refine rw_get hx hb hts iX0 hown hW (fl 90 rfl) rfl rfl 0 (by decide) e27 rfl (v := .ref (E.2.1 1)) rfl dX0_findWays_68 ?_
          refine rc_Vi (k := 1) (As := []) (rest := [.int v3]) S hW hS h (kX2_cells l E  w) (cwV 0 hts gX0_findWays_X2_cells rfl rfl rfl hdX2_cells ⟨Nat.le_of_ble_eq_true rfl, Nat.le_of_ble_eq_true rfl⟩) (fl 1 rfl) rfl rfl rfl rfl hl.1 rfl (Nat.le_of_ble_eq_true rfl) ⟨Nat.zero_le _, Nat.zero_le _⟩ dX0_findWays_71 (fun x6 w7 H locs h hW hS => ?_)
          refine rb_icmp_ge (tgt := 105) hx hb h dX0_findWays_74 (by decide) (fun h => ?_) (fun h => ?_)
          · refine lv_iinc (v := (v2 + (1 : Int32))) (lv' := [(2, .int (v2 + (1 : Int32))), (0, .ref (E.2.1 90)), (1, .int v1), (3, .int v3)]) hx hb dX0_findWays_105 hl (k := 2) rfl rfl (by decide) rfl (fun ls hl => ?_)
            refine lv_goto (tgt := 52) hx hb dX0_findWays_108 (by decide) ?_
            exact ih52 _ _ _ _ _ _ h hW hS (lv_sub hl [1, 2, 0] rfl)
          · refine lv_aload_n hx hb dX0_findWays_77 rfl (lv_at hl 0 rfl) ?_
            refine rw_get hx hb hts iX0 hown hW (fl 90 rfl) rfl rfl 3 (by decide) e18 rfl (v := .ref (E.2.1 93)) rfl dX0_findWays_78 ?_
            refine lv_iload_n hx hb dX0_findWays_81 rfl (lv_at hl 3 rfl) ?_
            refine rw_iald hx hb hW (fun _ => (fl 93 rfl)) h dX0_findWays_82 (fun x8 h => ?_)
            refine lv_sipush (v := (1000 : Int32)) hx hb dX0_findWays_83 (by decide) ?_
            refine rb_icmp_ge (tgt := 99) hx hb h dX0_findWays_86 (by decide) (fun h => ?_) (fun h => ?_)
            · exact J99 _ _ _ _ _ _ _ h hW hS (hl)
            · refine lv_aload_n hx hb dX0_findWays_89 rfl (lv_at hl 0 rfl) ?_
              refine lv_iload_n hx hb dX0_findWays_90 rfl (lv_at hl 3 rfl) ?_
              refine rc_Vi (k := 90) (As := [.int v3]) (rest := []) S hW hS h (kX0_stepOn l E v3 w7) (cwV 1 hts gX0_findWays_X0_stepOn rfl rfl rfl hdX0_stepOn ⟨Nat.le_of_ble_eq_true rfl, Nat.le_of_ble_eq_true rfl⟩) (fl 90 rfl) rfl rfl rfl rfl hl.1 rfl (Nat.le_of_ble_eq_true rfl) ⟨Nat.zero_le _, Nat.zero_le _⟩ dX0_findWays_91 (fun x9 w10 H locs h hW hS => ?_)
              refine rb_if_eq (tgt := 99) hx hb h dX0_findWays_94 (by decide) (fun h => ?_) (fun h => ?_)
              · exact J99 _ _ _ _ _ _ _ h hW hS (hl)
              · refine lv_iconst (v := (1 : Int32)) hx hb dX0_findWays_97 (by decide) ?_
                refine lv_istore_n (lv' := [(1, .int (1 : Int32)), (0, .ref (E.2.1 90)), (2, .int v2), (3, .int v3)]) hx hb dX0_findWays_98 rfl hl (by decide) rfl (fun ls hl => ?_)
                exact J99 _ _ _ _ _ _ _ h hW hS (lv_sub hl [1, 0, 2, 3] rfl)
      unfold bX0_findWays_52 at h
      refine lv_iload_n hx hb dX0_findWays_52 rfl (lv_at hl 2 rfl) ?_
      refine lv_bipush (v := (25 : Int32)) hx hb dX0_findWays_53 (by decide) ?_
      refine rb_icmp_ge (tgt := 111) hx hb h dX0_findWays_55 (by decide) (fun h => ?_) (fun h => ?_)
      · exact rrV hQ hW hS h dX0_findWays_111
      · refine lv_iload_n hx hb dX0_findWays_58 rfl (lv_at hl 1 rfl) ?_
        refine rb_if_eq (tgt := 111) hx hb h dX0_findWays_59 (by decide) (fun h => ?_) (fun h => ?_)
        · exact rrV hQ hW hS h dX0_findWays_111
        · refine lv_iconst (v := (0 : Int32)) hx hb dX0_findWays_62 (by decide) ?_
          refine lv_istore_n (lv' := [(1, .int (0 : Int32)), (0, .ref (E.2.1 90)), (2, .int v2)]) hx hb dX0_findWays_63 rfl hl (by decide) rfl (fun ls hl => ?_)
          refine lv_iconst (v := (0 : Int32)) hx hb dX0_findWays_64 (by decide) ?_
          refine lv_istore_n (lv' := [(3, .int (0 : Int32)), (1, .int (0 : Int32)), (0, .ref (E.2.1 90)), (2, .int v2)]) hx hb dX0_findWays_65 rfl hl (by decide) rfl (fun ls hl => ?_)
          exact J66 _ _ _ _ _ _ _ _ h hW hS (lv_sub hl [2, 1, 3, 0] rfl)
  have J2 : ∀ (n : Nat) (v1 : Int32) (w : Wd) (H : Heap) (locs : List Loc) (ls : Array Slot), lp (fun _ _ => none) (bX0_findWays_2) n v1 w = some q → World E full w s H → va_S (wA E full) s.heap H locs → lv_has ls 4 [(0, .ref (E.2.1 90)), (1, .int v1)] → W p l e rmX0_findWays s m args below meth c H locs 0 0 Q (F0 m 2 ls []) := by
    intro n
    induction n with
    | zero =>
      intro v1 w H locs ls h hW hS hl
      exact absurd (show (none : Option (Unit × Wd)) = some q from h) (fun z => by cases z)
    | succ n ih2 =>
      intro v1 w H locs ls h hW hS hl
      have h : bX0_findWays_2 (lp (fun _ _ => none) (bX0_findWays_2) n) v1 w = some q := h
      generalize lp (fun _ _ => none) (bX0_findWays_2) n = k2 at h ih2
      have J34 : ∀ (v1 : Int32) (s0 : Int32) (s1 : Int32) (w : Wd) (H : Heap) (locs : List Loc) (ls : Array Slot), jX0_findWays_34 k2 v1 s0 s1 w = some q → World E full w s H → va_S (wA E full) s.heap H locs → lv_has ls 4 [(0, .ref (E.2.1 90)), (1, .int v1)] → W p l e rmX0_findWays s m args below meth c H locs 0 0 Q (F0 m 34 ls [.int s0, .int s1, .ref (E.2.1 93)]) := by
        intro v1 s0 s1 w H locs ls h hW hS hl
        unfold jX0_findWays_34 at h
        refine rw_iast hx hb hW hS (fun _ => (fl 93 rfl)) h dX0_findWays_34 (fun w4 H locs h hW hS => ?_)
        refine lv_aload_n hx hb dX0_findWays_35 rfl (lv_at hl 0 rfl) ?_
        refine rw_get hx hb hts iX0 hown hW (fl 90 rfl) rfl rfl 4 (by decide) e21 rfl (v := .ref (E.2.1 94)) rfl dX0_findWays_36 ?_
        refine lv_iload_n hx hb dX0_findWays_39 rfl (lv_at hl 1 rfl) ?_
        refine lv_iload_n hx hb dX0_findWays_40 rfl (lv_at hl 1 rfl) ?_
        refine rw_iast hx hb hW hS (fun _ => (fl 94 rfl)) h dX0_findWays_41 (fun w5 H locs h hW hS => ?_)
        refine lv_iinc (v := (v1 + (1 : Int32))) (lv' := [(1, .int (v1 + (1 : Int32))), (0, .ref (E.2.1 90))]) hx hb dX0_findWays_42 hl (k := 1) rfl rfl (by decide) rfl (fun ls hl => ?_)
        refine lv_goto (tgt := 2) hx hb dX0_findWays_45 (by decide) ?_
        exact ih2 _ _ _ _ _ h hW hS (lv_sub hl [1, 0] rfl)
      unfold bX0_findWays_2 at h
      refine lv_iload_n hx hb dX0_findWays_2 rfl (lv_at hl 1 rfl) ?_
      refine lv_aload_n hx hb dX0_findWays_3 rfl (lv_at hl 0 rfl) ?_
      refine rw_get hx hb hts iX0 hown hW (fl 90 rfl) rfl rfl 0 (by decide) e27 rfl (v := .ref (E.2.1 1)) rfl dX0_findWays_4 ?_
      refine rc_Vi (k := 1) (As := []) (rest := [.int v1]) S hW hS h (kX2_cells l E  w) (cwV 0 hts gX0_findWays_X2_cells rfl rfl rfl hdX2_cells ⟨Nat.le_of_ble_eq_true rfl, Nat.le_of_ble_eq_true rfl⟩) (fl 1 rfl) rfl rfl rfl rfl hl.1 rfl (Nat.le_of_ble_eq_true rfl) ⟨Nat.zero_le _, Nat.zero_le _⟩ dX0_findWays_7 (fun x1 w2 H locs h hW hS => ?_)
      refine rb_icmp_ge (tgt := 48) hx hb h dX0_findWays_10 (by decide) (fun h => ?_) (fun h => ?_)
      · refine lv_iconst (v := (1 : Int32)) hx hb dX0_findWays_48 (by decide) ?_
        refine lv_istore_n (lv' := [(1, .int (1 : Int32)), (0, .ref (E.2.1 90))]) hx hb dX0_findWays_49 rfl hl (by decide) rfl (fun ls hl => ?_)
        refine lv_iconst (v := (0 : Int32)) hx hb dX0_findWays_50 (by decide) ?_
        refine lv_istore_n (lv' := [(2, .int (0 : Int32)), (1, .int (1 : Int32)), (0, .ref (E.2.1 90))]) hx hb dX0_findWays_51 rfl hl (by decide) rfl (fun ls hl => ?_)
        exact J52 _ _ _ _ _ _ _ h hW hS (lv_sub hl [2, 1, 0] rfl)
      · refine lv_aload_n hx hb dX0_findWays_13 rfl (lv_at hl 0 rfl) ?_
        refine rw_get hx hb hts iX0 hown hW (fl 90 rfl) rfl rfl 3 (by decide) e18 rfl (v := .ref (E.2.1 93)) rfl dX0_findWays_14 ?_
        refine lv_iload_n hx hb dX0_findWays_17 rfl (lv_at hl 1 rfl) ?_
        refine lv_aload_n hx hb dX0_findWays_18 rfl (lv_at hl 0 rfl) ?_
        refine rw_get hx hb hts iX0 hown hW (fl 90 rfl) rfl rfl 1 (by decide) e9 rfl (v := .ref (E.2.1 91)) rfl dX0_findWays_19 ?_
        refine lv_iload_n hx hb dX0_findWays_22 rfl (lv_at hl 1 rfl) ?_
        refine rw_iald hx hb hW (fun _ => (fl 91 rfl)) h dX0_findWays_23 (fun x3 h => ?_)
        refine rb_if_le (tgt := 31) hx hb h dX0_findWays_24 (by decide) (fun h => ?_) (fun h => ?_)
        · refine lv_sipush (v := (1000 : Int32)) hx hb dX0_findWays_31 (by decide) ?_
          exact J34 _ _ _ _ _ _ _ h hW hS (hl)
        · refine lv_iconst (v := (0 : Int32)) hx hb dX0_findWays_27 (by decide) ?_
          refine lv_goto (tgt := 34) hx hb dX0_findWays_28 (by decide) ?_
          exact J34 _ _ _ _ _ _ _ h hW hS (hl)
  unfold fX0_findWays at h
  refine lv_iconst (v := (0 : Int32)) hx hb dX0_findWays_0 (by decide) ?_
  refine lv_istore_n (lv' := [(1, .int (0 : Int32)), (0, .ref (E.2.1 90))]) hx hb dX0_findWays_1 rfl hl (by decide) rfl (fun ls hl => ?_)
  exact J2 _ _ _ _ _ _ h hW hS (lv_sub hl [1, 0] rfl)
noncomputable def jX0_nearestWanting_61 (k4 : Int32 → Int32 → Wd → Option (Int32 × Wd)) (v1 : Int32) (v2 : Int32)  (w : Wd) : Option (Int32 × Wd) :=
  k4 v1 (v2 + (1 : Int32)) w
noncomputable def jX0_nearestWanting_59 (k4 : Int32 → Int32 → Wd → Option (Int32 × Wd)) (v2 : Int32)  (w : Wd) : Option (Int32 × Wd) :=
  jX0_nearestWanting_61 k4 v2 v2 w
noncomputable def bX0_nearestWanting_4 (k4 : Int32 → Int32 → Wd → Option (Int32 × Wd)) (v1 : Int32) (v2 : Int32)  (w : Wd) : Option (Int32 × Wd) :=
  bnd (fX2_cells w) fun x1 w2 => if x1 ≤ v2 then some (v1, w2) else (gI w2 91 v2).bind fun x3 => if 0 ≤ x3 then jX0_nearestWanting_61 k4 v1 v2 w2 else (gI w2 93 v2).bind fun x4 => if x4 < (1000 : Int32) then if v1 = (-1 : Int32) then jX0_nearestWanting_59 k4 v2 w2 else (gI w2 93 v2).bind fun x5 => (gI w2 93 v1).bind fun x6 => if x6 ≤ x5 then jX0_nearestWanting_61 k4 v1 v2 w2 else jX0_nearestWanting_59 k4 v2 w2 else jX0_nearestWanting_61 k4 v1 v2 w2
noncomputable def fX0_nearestWanting  (w : Wd) : Option (Int32 × Wd) :=
  lp (fun _ _ _ => none) (bX0_nearestWanting_4) G (-1 : Int32) (0 : Int32) w
abbrev rmX0_nearestWanting : Room := { frames := 1, cells := 0, slots := 0, locals := 20 }
set_option maxHeartbeats 4000000 in
set_option maxRecDepth 100000 in
theorem kX0_nearestWanting (l : Launch) (E : Ev)  (w : Wd) (q : Int32 × Wd) (h : fX0_nearestWanting w = some q) : CtI l yX0_nearestWanting wsX0_nearestWanting rmX0_nearestWanting E full [.ref (E.2.1 90)] w q := by
  refine mkI (cc := cX0_nearestWanting) (maxL := 3) (by decide) rfl (Nat.le_of_ble_eq_true rfl) ?_
  intro p e s m args below meth c Q S hW hQ ls hl
  obtain ⟨hx, hb, hml, hown, hts⟩ := id S
  have hW0 := hW
  have hS : va_S (wA E full) s.heap s.heap [] := va_S.rf
  have hl : lv_has ls 3 [(0, .ref (E.2.1 90))] := hl
  have iX0 : ∀ w ∈ wsX00, w ∈ wsX0_nearestWanting := by decide +kernel
  have e9 := hts (.fieldLink RX0 9 "CubeHeaps$Carrying" "surplus" "[I") (by decide +kernel)
  have e18 := hts (.fieldLink RX0 18 "CubeHeaps$Carrying" "steps" "[I") (by decide +kernel)
  have e27 := hts (.fieldLink RX0 27 "CubeHeaps$Carrying" "ground" "LCubeHeaps$Ground;") (by decide +kernel)
  have J4 : ∀ (n : Nat) (v1 : Int32) (v2 : Int32) (w : Wd) (H : Heap) (locs : List Loc) (ls : Array Slot), lp (fun _ _ _ => none) (bX0_nearestWanting_4) n v1 v2 w = some q → World E full w s H → va_S (wA E full) s.heap H locs → lv_has ls 3 [(0, .ref (E.2.1 90)), (1, .int v1), (2, .int v2)] → W p l e rmX0_nearestWanting s m args below meth c H locs 0 0 Q (F0 m 4 ls []) := by
    intro n
    induction n with
    | zero =>
      intro v1 v2 w H locs ls h hW hS hl
      exact absurd (show (none : Option (Int32 × Wd)) = some q from h) (fun z => by cases z)
    | succ n ih4 =>
      intro v1 v2 w H locs ls h hW hS hl
      have h : bX0_nearestWanting_4 (lp (fun _ _ _ => none) (bX0_nearestWanting_4) n) v1 v2 w = some q := h
      generalize lp (fun _ _ _ => none) (bX0_nearestWanting_4) n = k4 at h ih4
      have J61 : ∀ (v1 : Int32) (v2 : Int32) (w : Wd) (H : Heap) (locs : List Loc) (ls : Array Slot), jX0_nearestWanting_61 k4 v1 v2 w = some q → World E full w s H → va_S (wA E full) s.heap H locs → lv_has ls 3 [(0, .ref (E.2.1 90)), (1, .int v1), (2, .int v2)] → W p l e rmX0_nearestWanting s m args below meth c H locs 0 0 Q (F0 m 61 ls []) := by
        intro v1 v2 w H locs ls h hW hS hl
        unfold jX0_nearestWanting_61 at h
        refine lv_iinc (v := (v2 + (1 : Int32))) (lv' := [(2, .int (v2 + (1 : Int32))), (0, .ref (E.2.1 90)), (1, .int v1)]) hx hb dX0_nearestWanting_61 hl (k := 2) rfl rfl (by decide) rfl (fun ls hl => ?_)
        refine lv_goto (tgt := 4) hx hb dX0_nearestWanting_64 (by decide) ?_
        exact ih4 _ _ _ _ _ _ h hW hS (lv_sub hl [1, 2, 0] rfl)
      have J59 : ∀ (v2 : Int32) (w : Wd) (H : Heap) (locs : List Loc) (ls : Array Slot), jX0_nearestWanting_59 k4 v2 w = some q → World E full w s H → va_S (wA E full) s.heap H locs → lv_has ls 3 [(0, .ref (E.2.1 90)), (2, .int v2)] → W p l e rmX0_nearestWanting s m args below meth c H locs 0 0 Q (F0 m 59 ls []) := by
        intro v2 w H locs ls h hW hS hl
        unfold jX0_nearestWanting_59 at h
        refine lv_iload_n hx hb dX0_nearestWanting_59 rfl (lv_at hl 1 rfl) ?_
        refine lv_istore_n (lv' := [(1, .int v2), (0, .ref (E.2.1 90)), (2, .int v2)]) hx hb dX0_nearestWanting_60 rfl hl (by decide) rfl (fun ls hl => ?_)
        exact J61 _ _ _ _ _ _ h hW hS (lv_sub hl [1, 0, 2] rfl)
      unfold bX0_nearestWanting_4 at h
      refine lv_iload_n hx hb dX0_nearestWanting_4 rfl (lv_at hl 2 rfl) ?_
      refine lv_aload_n hx hb dX0_nearestWanting_5 rfl (lv_at hl 0 rfl) ?_
      refine rw_get hx hb hts iX0 hown hW (fl 90 rfl) rfl rfl 0 (by decide) e27 rfl (v := .ref (E.2.1 1)) rfl dX0_nearestWanting_6 ?_
      refine rc_Vi (k := 1) (As := []) (rest := [.int v2]) S hW hS h (kX2_cells l E  w) (cwV 0 hts gX0_nearestWanting_X2_cells rfl rfl rfl hdX2_cells ⟨Nat.le_of_ble_eq_true rfl, Nat.le_of_ble_eq_true rfl⟩) (fl 1 rfl) rfl rfl rfl rfl hl.1 rfl (Nat.le_of_ble_eq_true rfl) ⟨Nat.zero_le _, Nat.zero_le _⟩ dX0_nearestWanting_9 (fun x1 w2 H locs h hW hS => ?_)
      refine rb_icmp_ge (tgt := 67) hx hb h dX0_nearestWanting_12 (by decide) (fun h => ?_) (fun h => ?_)
      · refine lv_iload_n hx hb dX0_nearestWanting_67 rfl (lv_at hl 1 rfl) ?_
        exact rrI hQ hW hS h dX0_nearestWanting_68
      · refine lv_aload_n hx hb dX0_nearestWanting_15 rfl (lv_at hl 0 rfl) ?_
        refine rw_get hx hb hts iX0 hown hW (fl 90 rfl) rfl rfl 1 (by decide) e9 rfl (v := .ref (E.2.1 91)) rfl dX0_nearestWanting_16 ?_
        refine lv_iload_n hx hb dX0_nearestWanting_19 rfl (lv_at hl 2 rfl) ?_
        refine rw_iald hx hb hW (fun _ => (fl 91 rfl)) h dX0_nearestWanting_20 (fun x3 h => ?_)
        refine rb_if_ge (tgt := 61) hx hb h dX0_nearestWanting_21 (by decide) (fun h => ?_) (fun h => ?_)
        · exact J61 _ _ _ _ _ _ h hW hS (hl)
        · refine lv_aload_n hx hb dX0_nearestWanting_24 rfl (lv_at hl 0 rfl) ?_
          refine rw_get hx hb hts iX0 hown hW (fl 90 rfl) rfl rfl 3 (by decide) e18 rfl (v := .ref (E.2.1 93)) rfl dX0_nearestWanting_25 ?_
          refine lv_iload_n hx hb dX0_nearestWanting_28 rfl (lv_at hl 2 rfl) ?_
          refine rw_iald hx hb hW (fun _ => (fl 93 rfl)) h dX0_nearestWanting_29 (fun x4 h => ?_)
          refine lv_sipush (v := (1000 : Int32)) hx hb dX0_nearestWanting_30 (by decide) ?_
          refine rb_icmp_lt (tgt := 39) hx hb h dX0_nearestWanting_33 (by decide) (fun h => ?_) (fun h => ?_)
          · refine lv_iload_n hx hb dX0_nearestWanting_39 rfl (lv_at hl 1 rfl) ?_
            refine lv_iconst (v := (-1 : Int32)) hx hb dX0_nearestWanting_40 (by decide) ?_
            refine rb_icmp_eq (tgt := 59) hx hb h dX0_nearestWanting_41 (by decide) (fun h => ?_) (fun h => ?_)
            · exact J59 _ _ _ _ _ h hW hS (lv_sub hl [0, 2] rfl)
            · refine lv_aload_n hx hb dX0_nearestWanting_44 rfl (lv_at hl 0 rfl) ?_
              refine rw_get hx hb hts iX0 hown hW (fl 90 rfl) rfl rfl 3 (by decide) e18 rfl (v := .ref (E.2.1 93)) rfl dX0_nearestWanting_45 ?_
              refine lv_iload_n hx hb dX0_nearestWanting_48 rfl (lv_at hl 2 rfl) ?_
              refine rw_iald hx hb hW (fun _ => (fl 93 rfl)) h dX0_nearestWanting_49 (fun x5 h => ?_)
              refine lv_aload_n hx hb dX0_nearestWanting_50 rfl (lv_at hl 0 rfl) ?_
              refine rw_get hx hb hts iX0 hown hW (fl 90 rfl) rfl rfl 3 (by decide) e18 rfl (v := .ref (E.2.1 93)) rfl dX0_nearestWanting_51 ?_
              refine lv_iload_n hx hb dX0_nearestWanting_54 rfl (lv_at hl 1 rfl) ?_
              refine rw_iald hx hb hW (fun _ => (fl 93 rfl)) h dX0_nearestWanting_55 (fun x6 h => ?_)
              refine rb_icmp_ge (tgt := 61) hx hb h dX0_nearestWanting_56 (by decide) (fun h => ?_) (fun h => ?_)
              · exact J61 _ _ _ _ _ _ h hW hS (hl)
              · exact J59 _ _ _ _ _ h hW hS (lv_sub hl [0, 2] rfl)
          · refine lv_goto (tgt := 61) hx hb dX0_nearestWanting_36 (by decide) ?_
            exact J61 _ _ _ _ _ _ h hW hS (hl)
  unfold fX0_nearestWanting at h
  refine lv_iconst (v := (-1 : Int32)) hx hb dX0_nearestWanting_0 (by decide) ?_
  refine lv_istore_n (lv' := [(1, .int (-1 : Int32)), (0, .ref (E.2.1 90))]) hx hb dX0_nearestWanting_1 rfl hl (by decide) rfl (fun ls hl => ?_)
  refine lv_iconst (v := (0 : Int32)) hx hb dX0_nearestWanting_2 (by decide) ?_
  refine lv_istore_n (lv' := [(2, .int (0 : Int32)), (1, .int (-1 : Int32)), (0, .ref (E.2.1 90))]) hx hb dX0_nearestWanting_3 rfl hl (by decide) rfl (fun ls hl => ?_)
  exact J4 _ _ _ _ _ _ _ h hW hS (lv_sub hl [2, 1, 0] rfl)
noncomputable def jX0_amountTo_68 (p1 : Int32) (v2 : Int32) (v3 : Int32)  (w : Wd) : Option (Int32 × Wd) :=
  (gI w 91 v3).bind fun x6 => some ((if x6 < v2 then x6 else v2), w)
noncomputable def jX0_amountTo_55 (p1 : Int32) (k13 : Int32 → Int32 → Int32 → Wd → Option (Int32 × Wd)) (v2 : Int32) (v3 : Int32) (v4 : Int32)  (w : Wd) : Option (Int32 × Wd) :=
  (gI w 94 v3).bind fun x7 => k13 v2 x7 (v4 + (1 : Int32)) w
noncomputable def bX0_amountTo_13 (p1 : Int32) (k13 : Int32 → Int32 → Int32 → Wd → Option (Int32 × Wd)) (v2 : Int32) (v3 : Int32) (v4 : Int32)  (w : Wd) : Option (Int32 × Wd) :=
  if (25 : Int32) ≤ v4 then jX0_amountTo_68 p1 v2 v3 w else (gI w 94 v3).bind fun x2 => if x2 = v3 then jX0_amountTo_68 p1 v2 v3 w else (gI w 95 v3).bind fun x3 => bnd (fX0_carriedBack v3 x3 w) fun x4 w5 => if x4 ≤ 0 then jX0_amountTo_55 p1 k13 v2 v3 v4 w5 else jX0_amountTo_55 p1 k13 (if x4 < v2 then x4 else v2) v3 v4 w5
noncomputable def fX0_amountTo (p1 : Int32) (w : Wd) : Option (Int32 × Wd) :=
  (gI w 91 p1).bind fun x1 => lp (fun _ _ _ _ => none) (bX0_amountTo_13 p1) G (-x1) p1 (0 : Int32) w
abbrev rmX0_amountTo : Room := { frames := 1, cells := 0, slots := 0, locals := 22 }
set_option maxHeartbeats 4000000 in
set_option maxRecDepth 100000 in
theorem kX0_amountTo (l : Launch) (E : Ev) (p1 : Int32) (w : Wd) (q : Int32 × Wd) (h : fX0_amountTo p1 w = some q) : CtI l yX0_amountTo wsX0_amountTo rmX0_amountTo E full [.ref (E.2.1 90), .int p1] w q := by
  refine mkI (cc := cX0_amountTo) (maxL := 6) (by decide) rfl (Nat.le_of_ble_eq_true rfl) ?_
  intro p e s m args below meth c Q S hW hQ ls hl
  obtain ⟨hx, hb, hml, hown, hts⟩ := id S
  have hW0 := hW
  have hS : va_S (wA E full) s.heap s.heap [] := va_S.rf
  have hl : lv_has ls 6 [(0, .ref (E.2.1 90)), (1, .int p1)] := hl
  have iX0 : ∀ w ∈ wsX00, w ∈ wsX0_amountTo := by decide +kernel
  have e9 := hts (.fieldLink RX0 9 "CubeHeaps$Carrying" "surplus" "[I") (by decide +kernel)
  have e21 := hts (.fieldLink RX0 21 "CubeHeaps$Carrying" "cameFrom" "[I") (by decide +kernel)
  have e24 := hts (.fieldLink RX0 24 "CubeHeaps$Carrying" "cameBy" "[I") (by decide +kernel)
  have J68 : ∀ (v2 : Int32) (v3 : Int32) (w : Wd) (H : Heap) (locs : List Loc) (ls : Array Slot), jX0_amountTo_68 p1 v2 v3 w = some q → World E full w s H → va_S (wA E full) s.heap H locs → lv_has ls 6 [(0, .ref (E.2.1 90)), (2, .int v2), (3, .int v3)] → W p l e rmX0_amountTo s m args below meth c H locs 0 0 Q (F0 m 68 ls []) := by
    intro v2 v3 w H locs ls h hW hS hl
    unfold jX0_amountTo_68 at h
    refine lv_iload_n hx hb dX0_amountTo_68 rfl (lv_at hl 1 rfl) ?_
    refine lv_aload_n hx hb dX0_amountTo_69 rfl (lv_at hl 0 rfl) ?_
    refine rw_get hx hb hts iX0 hown hW (fl 90 rfl) rfl rfl 1 (by decide) e9 rfl (v := .ref (E.2.1 91)) rfl dX0_amountTo_70 ?_
    refine lv_iload_n hx hb dX0_amountTo_73 rfl (lv_at hl 2 rfl) ?_
    refine rw_iald hx hb hW (fun _ => (fl 91 rfl)) h dX0_amountTo_74 (fun x6 h => ?_)
    refine va_mmin hx hb (hml.trans hl.1.symm) (own := RX0) hown (hts (.methodLink RX0 79 Lib.Math.min.name) (by decide +kernel)) (hts (.static Lib.Math.min.name) (by decide +kernel)) (hts (.initialized "java/lang/Math") (by decide +kernel)) (hts (.code Lib.Math.min.name Lib.Math.min.code 2 (some .int)) (by decide +kernel)) (Nat.le_of_ble_eq_true rfl) (Nat.le_of_ble_eq_true rfl) (Nat.zero_le _) (Nat.zero_le _) dX0_amountTo_75 ?_
    exact rrI hQ hW hS h dX0_amountTo_78
  have J13 : ∀ (n : Nat) (v2 : Int32) (v3 : Int32) (v4 : Int32) (w : Wd) (H : Heap) (locs : List Loc) (ls : Array Slot), lp (fun _ _ _ _ => none) (bX0_amountTo_13 p1) n v2 v3 v4 w = some q → World E full w s H → va_S (wA E full) s.heap H locs → lv_has ls 6 [(0, .ref (E.2.1 90)), (2, .int v2), (3, .int v3), (4, .int v4)] → W p l e rmX0_amountTo s m args below meth c H locs 0 0 Q (F0 m 13 ls []) := by
    intro n
    induction n with
    | zero =>
      intro v2 v3 v4 w H locs ls h hW hS hl
      exact absurd (show (none : Option (Int32 × Wd)) = some q from h) (fun z => by cases z)
    | succ n ih13 =>
      intro v2 v3 v4 w H locs ls h hW hS hl
      have h : bX0_amountTo_13 p1 (lp (fun _ _ _ _ => none) (bX0_amountTo_13 p1) n) v2 v3 v4 w = some q := h
      generalize lp (fun _ _ _ _ => none) (bX0_amountTo_13 p1) n = k13 at h ih13
      have J55 : ∀ (v2 : Int32) (v3 : Int32) (v4 : Int32) (w : Wd) (H : Heap) (locs : List Loc) (ls : Array Slot), jX0_amountTo_55 p1 k13 v2 v3 v4 w = some q → World E full w s H → va_S (wA E full) s.heap H locs → lv_has ls 6 [(0, .ref (E.2.1 90)), (2, .int v2), (3, .int v3), (4, .int v4)] → W p l e rmX0_amountTo s m args below meth c H locs 0 0 Q (F0 m 55 ls []) := by
        intro v2 v3 v4 w H locs ls h hW hS hl
        unfold jX0_amountTo_55 at h
        refine lv_aload_n hx hb dX0_amountTo_55 rfl (lv_at hl 0 rfl) ?_
        refine rw_get hx hb hts iX0 hown hW (fl 90 rfl) rfl rfl 4 (by decide) e21 rfl (v := .ref (E.2.1 94)) rfl dX0_amountTo_56 ?_
        refine lv_iload_n hx hb dX0_amountTo_59 rfl (lv_at hl 2 rfl) ?_
        refine rw_iald hx hb hW (fun _ => (fl 94 rfl)) h dX0_amountTo_60 (fun x7 h => ?_)
        refine lv_istore_n (lv' := [(3, .int x7), (0, .ref (E.2.1 90)), (2, .int v2), (4, .int v4)]) hx hb dX0_amountTo_61 rfl hl (by decide) rfl (fun ls hl => ?_)
        refine lv_iinc (v := (v4 + (1 : Int32))) (lv' := [(4, .int (v4 + (1 : Int32))), (3, .int x7), (0, .ref (E.2.1 90)), (2, .int v2)]) hx hb dX0_amountTo_62 hl (k := 3) rfl rfl (by decide) rfl (fun ls hl => ?_)
        refine lv_goto (tgt := 13) hx hb dX0_amountTo_65 (by decide) ?_
        exact ih13 _ _ _ _ _ _ _ h hW hS (lv_sub hl [2, 3, 1, 0] rfl)
      unfold bX0_amountTo_13 at h
      refine lv_iload hx hb dX0_amountTo_13 (lv_at hl 3 rfl) ?_
      refine lv_bipush (v := (25 : Int32)) hx hb dX0_amountTo_15 (by decide) ?_
      refine rb_icmp_ge (tgt := 68) hx hb h dX0_amountTo_17 (by decide) (fun h => ?_) (fun h => ?_)
      · exact J68 _ _ _ _ _ _ h hW hS (lv_sub hl [0, 1, 2] rfl)
      · refine lv_aload_n hx hb dX0_amountTo_20 rfl (lv_at hl 0 rfl) ?_
        refine rw_get hx hb hts iX0 hown hW (fl 90 rfl) rfl rfl 4 (by decide) e21 rfl (v := .ref (E.2.1 94)) rfl dX0_amountTo_21 ?_
        refine lv_iload_n hx hb dX0_amountTo_24 rfl (lv_at hl 2 rfl) ?_
        refine rw_iald hx hb hW (fun _ => (fl 94 rfl)) h dX0_amountTo_25 (fun x2 h => ?_)
        refine lv_iload_n hx hb dX0_amountTo_26 rfl (lv_at hl 2 rfl) ?_
        refine rb_icmp_eq (tgt := 68) hx hb h dX0_amountTo_27 (by decide) (fun h => ?_) (fun h => ?_)
        · exact J68 _ _ _ _ _ _ h hW hS (lv_sub hl [0, 1, 2] rfl)
        · refine lv_aload_n hx hb dX0_amountTo_30 rfl (lv_at hl 0 rfl) ?_
          refine lv_iload_n hx hb dX0_amountTo_31 rfl (lv_at hl 2 rfl) ?_
          refine lv_aload_n hx hb dX0_amountTo_32 rfl (lv_at hl 0 rfl) ?_
          refine rw_get hx hb hts iX0 hown hW (fl 90 rfl) rfl rfl 5 (by decide) e24 rfl (v := .ref (E.2.1 95)) rfl dX0_amountTo_33 ?_
          refine lv_iload_n hx hb dX0_amountTo_36 rfl (lv_at hl 2 rfl) ?_
          refine rw_iald hx hb hW (fun _ => (fl 95 rfl)) h dX0_amountTo_37 (fun x3 h => ?_)
          refine rc_Vi (k := 90) (As := [.int v3, .int x3]) (rest := []) S hW hS h (kX0_carriedBack l E v3 x3 w) (cwV 2 hts gX0_amountTo_X0_carriedBack rfl rfl rfl hdX0_carriedBack ⟨Nat.le_of_ble_eq_true rfl, Nat.le_of_ble_eq_true rfl⟩) (fl 90 rfl) rfl rfl rfl rfl hl.1 rfl (Nat.le_of_ble_eq_true rfl) ⟨Nat.zero_le _, Nat.zero_le _⟩ dX0_amountTo_38 (fun x4 w5 H locs h hW hS => ?_)
          refine lv_istore (lv' := [(5, .int x4), (0, .ref (E.2.1 90)), (2, .int v2), (3, .int v3), (4, .int v4)]) hx hb dX0_amountTo_41 hl (by decide) rfl (fun ls hl => ?_)
          refine lv_iload hx hb dX0_amountTo_43 (lv_at hl 0 rfl) ?_
          refine rb_if_le (tgt := 55) hx hb h dX0_amountTo_45 (by decide) (fun h => ?_) (fun h => ?_)
          · exact J55 _ _ _ _ _ _ _ h hW hS (lv_sub hl [1, 2, 3, 4] rfl)
          · refine lv_iload_n hx hb dX0_amountTo_48 rfl (lv_at hl 2 rfl) ?_
            refine lv_iload hx hb dX0_amountTo_49 (lv_at hl 0 rfl) ?_
            refine va_mmin hx hb (hml.trans hl.1.symm) (own := RX0) hown (hts (.methodLink RX0 79 Lib.Math.min.name) (by decide +kernel)) (hts (.static Lib.Math.min.name) (by decide +kernel)) (hts (.initialized "java/lang/Math") (by decide +kernel)) (hts (.code Lib.Math.min.name Lib.Math.min.code 2 (some .int)) (by decide +kernel)) (Nat.le_of_ble_eq_true rfl) (Nat.le_of_ble_eq_true rfl) (Nat.zero_le _) (Nat.zero_le _) dX0_amountTo_51 ?_
            refine lv_istore_n (lv' := [(2, .int (if x4 < v2 then x4 else v2)), (5, .int x4), (0, .ref (E.2.1 90)), (3, .int v3), (4, .int v4)]) hx hb dX0_amountTo_54 rfl hl (by decide) rfl (fun ls hl => ?_)
            exact J55 _ _ _ _ _ _ _ h hW hS (lv_sub hl [2, 0, 3, 4] rfl)
  unfold fX0_amountTo at h
  refine lv_aload_n hx hb dX0_amountTo_0 rfl (lv_at hl 0 rfl) ?_
  refine rw_get hx hb hts iX0 hown hW (fl 90 rfl) rfl rfl 1 (by decide) e9 rfl (v := .ref (E.2.1 91)) rfl dX0_amountTo_1 ?_
  refine lv_iload_n hx hb dX0_amountTo_4 rfl (lv_at hl 1 rfl) ?_
  refine rw_iald hx hb hW (fun _ => (fl 91 rfl)) h dX0_amountTo_5 (fun x1 h => ?_)
  refine lv_ineg hx hb dX0_amountTo_6 ?_
  refine lv_istore_n (lv' := [(2, .int (-x1)), (0, .ref (E.2.1 90)), (1, .int p1)]) hx hb dX0_amountTo_7 rfl hl (by decide) rfl (fun ls hl => ?_)
  refine lv_iload_n hx hb dX0_amountTo_8 rfl (lv_at hl 2 rfl) ?_
  refine lv_istore_n (lv' := [(3, .int p1), (2, .int (-x1)), (0, .ref (E.2.1 90)), (1, .int p1)]) hx hb dX0_amountTo_9 rfl hl (by decide) rfl (fun ls hl => ?_)
  refine lv_iconst (v := (0 : Int32)) hx hb dX0_amountTo_10 (by decide) ?_
  refine lv_istore (lv' := [(4, .int (0 : Int32)), (3, .int p1), (2, .int (-x1)), (0, .ref (E.2.1 90)), (1, .int p1)]) hx hb dX0_amountTo_11 hl (by decide) rfl (fun ls hl => ?_)
  exact J13 _ _ _ _ _ _ _ _ h hW hS (lv_sub hl [3, 2, 1, 0] rfl)
noncomputable def jX0_carryAlong_84 (p1 : Int32) (p2 : Int32) (k5 : Int32 → Int32 → Wd → Option (Int32 × Wd)) (v4 : Int32) (v6 : Int32)  (w : Wd) : Option (Int32 × Wd) :=
  k5 v6 (v4 + (1 : Int32)) w
noncomputable def bX0_carryAlong_5 (p1 : Int32) (p2 : Int32) (k5 : Int32 → Int32 → Wd → Option (Int32 × Wd)) (v3 : Int32) (v4 : Int32)  (w : Wd) : Option (Int32 × Wd) :=
  if (25 : Int32) ≤ v4 then some (v3, w) else (gI w 94 v3).bind fun x1 => if x1 = v3 then some (v3, w) else (gI w 95 v3).bind fun x2 => (gI w 94 v3).bind fun x3 => bnd (fX0_carriedBack v3 x2 w) fun x4 w5 => if x4 ≤ 0 then (gI w5 92 ((x3 * (4 : Int32)) + x2)).bind fun x6 => (sI w5 92 ((x3 * (4 : Int32)) + x2) (x6 + p2)).bind fun w7 => jX0_carryAlong_84 p1 p2 k5 v4 x3 w7 else (gI w5 92 ((v3 * (4 : Int32)) + (x2 ^^^ (2 : Int32)))).bind fun x8 => (sI w5 92 ((v3 * (4 : Int32)) + (x2 ^^^ (2 : Int32))) (x8 - p2)).bind fun w9 => jX0_carryAlong_84 p1 p2 k5 v4 x3 w9
noncomputable def fX0_carryAlong (p1 : Int32) (p2 : Int32) (w : Wd) : Option (Int32 × Wd) :=
  lp (fun _ _ _ => none) (bX0_carryAlong_5 p1 p2) G p1 (0 : Int32) w
abbrev rmX0_carryAlong : Room := { frames := 1, cells := 0, slots := 0, locals := 22 }
set_option maxHeartbeats 4000000 in
set_option maxRecDepth 100000 in
theorem kX0_carryAlong (l : Launch) (E : Ev) (p1 : Int32) (p2 : Int32) (w : Wd) (q : Int32 × Wd) (h : fX0_carryAlong p1 p2 w = some q) : CtI l yX0_carryAlong wsX0_carryAlong rmX0_carryAlong E full [.ref (E.2.1 90), .int p1, .int p2] w q := by
  refine mkI (cc := cX0_carryAlong) (maxL := 7) (by decide) rfl (Nat.le_of_ble_eq_true rfl) ?_
  intro p e s m args below meth c Q S hW hQ ls hl
  obtain ⟨hx, hb, hml, hown, hts⟩ := id S
  have hW0 := hW
  have hS : va_S (wA E full) s.heap s.heap [] := va_S.rf
  have hl : lv_has ls 7 [(0, .ref (E.2.1 90)), (1, .int p1), (2, .int p2)] := hl
  have iX0 : ∀ w ∈ wsX00, w ∈ wsX0_carryAlong := by decide +kernel
  have e15 := hts (.fieldLink RX0 15 "CubeHeaps$Carrying" "carried" "[I") (by decide +kernel)
  have e21 := hts (.fieldLink RX0 21 "CubeHeaps$Carrying" "cameFrom" "[I") (by decide +kernel)
  have e24 := hts (.fieldLink RX0 24 "CubeHeaps$Carrying" "cameBy" "[I") (by decide +kernel)
  have J5 : ∀ (n : Nat) (v3 : Int32) (v4 : Int32) (w : Wd) (H : Heap) (locs : List Loc) (ls : Array Slot), lp (fun _ _ _ => none) (bX0_carryAlong_5 p1 p2) n v3 v4 w = some q → World E full w s H → va_S (wA E full) s.heap H locs → lv_has ls 7 [(0, .ref (E.2.1 90)), (2, .int p2), (3, .int v3), (4, .int v4)] → W p l e rmX0_carryAlong s m args below meth c H locs 0 0 Q (F0 m 5 ls []) := by
    intro n
    induction n with
    | zero =>
      intro v3 v4 w H locs ls h hW hS hl
      exact absurd (show (none : Option (Int32 × Wd)) = some q from h) (fun z => by cases z)
    | succ n ih5 =>
      intro v3 v4 w H locs ls h hW hS hl
      have h : bX0_carryAlong_5 p1 p2 (lp (fun _ _ _ => none) (bX0_carryAlong_5 p1 p2) n) v3 v4 w = some q := h
      generalize lp (fun _ _ _ => none) (bX0_carryAlong_5 p1 p2) n = k5 at h ih5
      have J84 : ∀ (v4 : Int32) (v6 : Int32) (w : Wd) (H : Heap) (locs : List Loc) (ls : Array Slot), jX0_carryAlong_84 p1 p2 k5 v4 v6 w = some q → World E full w s H → va_S (wA E full) s.heap H locs → lv_has ls 7 [(0, .ref (E.2.1 90)), (2, .int p2), (4, .int v4), (6, .int v6)] → W p l e rmX0_carryAlong s m args below meth c H locs 0 0 Q (F0 m 84 ls []) := by
        intro v4 v6 w H locs ls h hW hS hl
        unfold jX0_carryAlong_84 at h
        refine lv_iload hx hb dX0_carryAlong_84 (lv_at hl 3 rfl) ?_
        refine lv_istore_n (lv' := [(3, .int v6), (0, .ref (E.2.1 90)), (2, .int p2), (4, .int v4), (6, .int v6)]) hx hb dX0_carryAlong_86 rfl hl (by decide) rfl (fun ls hl => ?_)
        refine lv_iinc (v := (v4 + (1 : Int32))) (lv' := [(4, .int (v4 + (1 : Int32))), (3, .int v6), (0, .ref (E.2.1 90)), (2, .int p2), (6, .int v6)]) hx hb dX0_carryAlong_87 hl (k := 3) rfl rfl (by decide) rfl (fun ls hl => ?_)
        refine lv_goto (tgt := 5) hx hb dX0_carryAlong_90 (by decide) ?_
        exact ih5 _ _ _ _ _ _ h hW hS (lv_sub hl [2, 3, 1, 0] rfl)
      unfold bX0_carryAlong_5 at h
      refine lv_iload hx hb dX0_carryAlong_5 (lv_at hl 3 rfl) ?_
      refine lv_bipush (v := (25 : Int32)) hx hb dX0_carryAlong_7 (by decide) ?_
      refine rb_icmp_ge (tgt := 93) hx hb h dX0_carryAlong_9 (by decide) (fun h => ?_) (fun h => ?_)
      · refine lv_iload_n hx hb dX0_carryAlong_93 rfl (lv_at hl 2 rfl) ?_
        exact rrI hQ hW hS h dX0_carryAlong_94
      · refine lv_aload_n hx hb dX0_carryAlong_12 rfl (lv_at hl 0 rfl) ?_
        refine rw_get hx hb hts iX0 hown hW (fl 90 rfl) rfl rfl 4 (by decide) e21 rfl (v := .ref (E.2.1 94)) rfl dX0_carryAlong_13 ?_
        refine lv_iload_n hx hb dX0_carryAlong_16 rfl (lv_at hl 2 rfl) ?_
        refine rw_iald hx hb hW (fun _ => (fl 94 rfl)) h dX0_carryAlong_17 (fun x1 h => ?_)
        refine lv_iload_n hx hb dX0_carryAlong_18 rfl (lv_at hl 2 rfl) ?_
        refine rb_icmp_eq (tgt := 93) hx hb h dX0_carryAlong_19 (by decide) (fun h => ?_) (fun h => ?_)
        · refine lv_iload_n hx hb dX0_carryAlong_93 rfl (lv_at hl 2 rfl) ?_
          exact rrI hQ hW hS h dX0_carryAlong_94
        · refine lv_aload_n hx hb dX0_carryAlong_22 rfl (lv_at hl 0 rfl) ?_
          refine rw_get hx hb hts iX0 hown hW (fl 90 rfl) rfl rfl 5 (by decide) e24 rfl (v := .ref (E.2.1 95)) rfl dX0_carryAlong_23 ?_
          refine lv_iload_n hx hb dX0_carryAlong_26 rfl (lv_at hl 2 rfl) ?_
          refine rw_iald hx hb hW (fun _ => (fl 95 rfl)) h dX0_carryAlong_27 (fun x2 h => ?_)
          refine lv_istore (lv' := [(5, .int x2), (0, .ref (E.2.1 90)), (2, .int p2), (3, .int v3), (4, .int v4)]) hx hb dX0_carryAlong_28 hl (by decide) rfl (fun ls hl => ?_)
          refine lv_aload_n hx hb dX0_carryAlong_30 rfl (lv_at hl 1 rfl) ?_
          refine rw_get hx hb hts iX0 hown hW (fl 90 rfl) rfl rfl 4 (by decide) e21 rfl (v := .ref (E.2.1 94)) rfl dX0_carryAlong_31 ?_
          refine lv_iload_n hx hb dX0_carryAlong_34 rfl (lv_at hl 3 rfl) ?_
          refine rw_iald hx hb hW (fun _ => (fl 94 rfl)) h dX0_carryAlong_35 (fun x3 h => ?_)
          refine lv_istore (lv' := [(6, .int x3), (5, .int x2), (0, .ref (E.2.1 90)), (2, .int p2), (3, .int v3), (4, .int v4)]) hx hb dX0_carryAlong_36 hl (by decide) rfl (fun ls hl => ?_)
          refine lv_aload_n hx hb dX0_carryAlong_38 rfl (lv_at hl 2 rfl) ?_
          refine lv_iload_n hx hb dX0_carryAlong_39 rfl (lv_at hl 4 rfl) ?_
          refine lv_iload hx hb dX0_carryAlong_40 (lv_at hl 1 rfl) ?_
          refine rc_Vi (k := 90) (As := [.int v3, .int x2]) (rest := []) S hW hS h (kX0_carriedBack l E v3 x2 w) (cwV 2 hts gX0_carryAlong_X0_carriedBack rfl rfl rfl hdX0_carriedBack ⟨Nat.le_of_ble_eq_true rfl, Nat.le_of_ble_eq_true rfl⟩) (fl 90 rfl) rfl rfl rfl rfl hl.1 rfl (Nat.le_of_ble_eq_true rfl) ⟨Nat.zero_le _, Nat.zero_le _⟩ dX0_carryAlong_42 (fun x4 w5 H locs h hW hS => ?_)
          refine rb_if_le (tgt := 68) hx hb h dX0_carryAlong_45 (by decide) (fun h => ?_) (fun h => ?_)
          · refine lv_aload_n hx hb dX0_carryAlong_68 rfl (lv_at hl 2 rfl) ?_
            refine rw_get hx hb hts iX0 hown hW (fl 90 rfl) rfl rfl 2 (by decide) e15 rfl (v := .ref (E.2.1 92)) rfl dX0_carryAlong_69 ?_
            refine lv_iload hx hb dX0_carryAlong_72 (lv_at hl 0 rfl) ?_
            refine lv_iconst (v := (4 : Int32)) hx hb dX0_carryAlong_74 (by decide) ?_
            refine lv_imul hx hb dX0_carryAlong_75 ?_
            refine lv_iload hx hb dX0_carryAlong_76 (lv_at hl 1 rfl) ?_
            refine lv_iadd hx hb dX0_carryAlong_78 ?_
            refine lv_dup2_11 hx hb dX0_carryAlong_79 rfl rfl ?_
            refine rw_iald hx hb hW (fun _ => (fl 92 rfl)) h dX0_carryAlong_80 (fun x6 h => ?_)
            refine lv_iload_n hx hb dX0_carryAlong_81 rfl (lv_at hl 3 rfl) ?_
            refine lv_iadd hx hb dX0_carryAlong_82 ?_
            refine rw_iast hx hb hW hS (fun _ => (fl 92 rfl)) h dX0_carryAlong_83 (fun w7 H locs h hW hS => ?_)
            exact J84 _ _ _ _ _ _ h hW hS (lv_sub hl [2, 3, 5, 0] rfl)
          · refine lv_aload_n hx hb dX0_carryAlong_48 rfl (lv_at hl 2 rfl) ?_
            refine rw_get hx hb hts iX0 hown hW (fl 90 rfl) rfl rfl 2 (by decide) e15 rfl (v := .ref (E.2.1 92)) rfl dX0_carryAlong_49 ?_
            refine lv_iload_n hx hb dX0_carryAlong_52 rfl (lv_at hl 4 rfl) ?_
            refine lv_iconst (v := (4 : Int32)) hx hb dX0_carryAlong_53 (by decide) ?_
            refine lv_imul hx hb dX0_carryAlong_54 ?_
            refine lv_iload hx hb dX0_carryAlong_55 (lv_at hl 1 rfl) ?_
            refine lv_iconst (v := (2 : Int32)) hx hb dX0_carryAlong_57 (by decide) ?_
            refine lv_ixor hx hb dX0_carryAlong_58 ?_
            refine lv_iadd hx hb dX0_carryAlong_59 ?_
            refine lv_dup2_11 hx hb dX0_carryAlong_60 rfl rfl ?_
            refine rw_iald hx hb hW (fun _ => (fl 92 rfl)) h dX0_carryAlong_61 (fun x8 h => ?_)
            refine lv_iload_n hx hb dX0_carryAlong_62 rfl (lv_at hl 3 rfl) ?_
            refine lv_isub hx hb dX0_carryAlong_63 ?_
            refine rw_iast hx hb hW hS (fun _ => (fl 92 rfl)) h dX0_carryAlong_64 (fun w9 H locs h hW hS => ?_)
            refine lv_goto (tgt := 84) hx hb dX0_carryAlong_65 (by decide) ?_
            exact J84 _ _ _ _ _ _ h hW hS (lv_sub hl [2, 3, 5, 0] rfl)
  unfold fX0_carryAlong at h
  refine lv_iload_n hx hb dX0_carryAlong_0 rfl (lv_at hl 1 rfl) ?_
  refine lv_istore_n (lv' := [(3, .int p1), (0, .ref (E.2.1 90)), (1, .int p1), (2, .int p2)]) hx hb dX0_carryAlong_1 rfl hl (by decide) rfl (fun ls hl => ?_)
  refine lv_iconst (v := (0 : Int32)) hx hb dX0_carryAlong_2 (by decide) ?_
  refine lv_istore (lv' := [(4, .int (0 : Int32)), (3, .int p1), (0, .ref (E.2.1 90)), (1, .int p1), (2, .int p2)]) hx hb dX0_carryAlong_3 hl (by decide) rfl (fun ls hl => ?_)
  exact J5 _ _ _ _ _ _ _ h hW hS (lv_sub hl [2, 4, 1, 0] rfl)
noncomputable def fX0_carryNearest  (w : Wd) : Option (Int32 × Wd) :=
  bnd (fX0_findWays w) fun _ w1 => bnd (fX0_nearestWanting w1) fun x2 w3 => if x2 = (-1 : Int32) then some ((0 : Int32), w3) else bnd (fX0_amountTo x2 w3) fun x4 w5 => (gI w5 91 x2).bind fun x6 => (sI w5 91 x2 (x6 + x4)).bind fun w7 => bnd (fX0_carryAlong x2 x4 w7) fun x8 w9 => (gI w9 91 x8).bind fun x10 => (sI w9 91 x8 (x10 - x4)).bind fun w11 => some (x4, w11)
abbrev rmX0_carryNearest : Room := { frames := 3, cells := 0, slots := 0, locals := 70 }
set_option maxHeartbeats 4000000 in
set_option maxRecDepth 100000 in
theorem kX0_carryNearest (l : Launch) (E : Ev)  (w : Wd) (q : Int32 × Wd) (h : fX0_carryNearest w = some q) : CtI l yX0_carryNearest wsX0_carryNearest rmX0_carryNearest E full [.ref (E.2.1 90)] w q := by
  refine mkI (cc := cX0_carryNearest) (maxL := 3) (by decide) rfl (Nat.le_of_ble_eq_true rfl) ?_
  intro p e s m args below meth c Q S hW hQ ls hl
  obtain ⟨hx, hb, hml, hown, hts⟩ := id S
  have hW0 := hW
  have hS : va_S (wA E full) s.heap s.heap [] := va_S.rf
  have hl : lv_has ls 3 [(0, .ref (E.2.1 90))] := hl
  have iX0 : ∀ w ∈ wsX00, w ∈ wsX0_carryNearest := by decide +kernel
  have e9 := hts (.fieldLink RX0 9 "CubeHeaps$Carrying" "surplus" "[I") (by decide +kernel)
  unfold fX0_carryNearest at h
  refine lv_aload_n hx hb dX0_carryNearest_0 rfl (lv_at hl 0 rfl) ?_
  refine rc_Vv (k := 90) (As := []) (rest := []) S hW hS h (kX0_findWays l E  w) (cwV 0 hts gX0_carryNearest_X0_findWays rfl rfl rfl hdX0_findWays ⟨Nat.le_of_ble_eq_true rfl, Nat.le_of_ble_eq_true rfl⟩) (fl 90 rfl) rfl rfl rfl rfl hl.1 rfl (Nat.le_of_ble_eq_true rfl) ⟨Nat.zero_le _, Nat.zero_le _⟩ dX0_carryNearest_1 (fun _ w1 H locs h hW hS => ?_)
  refine lv_aload_n hx hb dX0_carryNearest_4 rfl (lv_at hl 0 rfl) ?_
  refine rc_Vi (k := 90) (As := []) (rest := []) S hW hS h (kX0_nearestWanting l E  w1) (cwV 0 hts gX0_carryNearest_X0_nearestWanting rfl rfl rfl hdX0_nearestWanting ⟨Nat.le_of_ble_eq_true rfl, Nat.le_of_ble_eq_true rfl⟩) (fl 90 rfl) rfl rfl rfl rfl hl.1 rfl (Nat.le_of_ble_eq_true rfl) ⟨Nat.zero_le _, Nat.zero_le _⟩ dX0_carryNearest_5 (fun x2 w3 H locs h hW hS => ?_)
  refine lv_istore_n (lv' := [(1, .int x2), (0, .ref (E.2.1 90))]) hx hb dX0_carryNearest_8 rfl hl (by decide) rfl (fun ls hl => ?_)
  refine lv_iload_n hx hb dX0_carryNearest_9 rfl (lv_at hl 0 rfl) ?_
  refine lv_iconst (v := (-1 : Int32)) hx hb dX0_carryNearest_10 (by decide) ?_
  refine rb_icmp_ne (tgt := 16) hx hb h dX0_carryNearest_11 (by decide) (fun h => ?_) (fun h => ?_)
  · refine lv_aload_n hx hb dX0_carryNearest_16 rfl (lv_at hl 1 rfl) ?_
    refine lv_iload_n hx hb dX0_carryNearest_17 rfl (lv_at hl 0 rfl) ?_
    refine rc_Vi (k := 90) (As := [.int x2]) (rest := []) S hW hS h (kX0_amountTo l E x2 w3) (cwV 1 hts gX0_carryNearest_X0_amountTo rfl rfl rfl hdX0_amountTo ⟨Nat.le_of_ble_eq_true rfl, Nat.le_of_ble_eq_true rfl⟩) (fl 90 rfl) rfl rfl rfl rfl hl.1 rfl (Nat.le_of_ble_eq_true rfl) ⟨Nat.zero_le _, Nat.zero_le _⟩ dX0_carryNearest_18 (fun x4 w5 H locs h hW hS => ?_)
    refine lv_istore_n (lv' := [(2, .int x4), (1, .int x2), (0, .ref (E.2.1 90))]) hx hb dX0_carryNearest_21 rfl hl (by decide) rfl (fun ls hl => ?_)
    refine lv_aload_n hx hb dX0_carryNearest_22 rfl (lv_at hl 2 rfl) ?_
    refine rw_get hx hb hts iX0 hown hW (fl 90 rfl) rfl rfl 1 (by decide) e9 rfl (v := .ref (E.2.1 91)) rfl dX0_carryNearest_23 ?_
    refine lv_iload_n hx hb dX0_carryNearest_26 rfl (lv_at hl 1 rfl) ?_
    refine lv_dup2_11 hx hb dX0_carryNearest_27 rfl rfl ?_
    refine rw_iald hx hb hW (fun _ => (fl 91 rfl)) h dX0_carryNearest_28 (fun x6 h => ?_)
    refine lv_iload_n hx hb dX0_carryNearest_29 rfl (lv_at hl 0 rfl) ?_
    refine lv_iadd hx hb dX0_carryNearest_30 ?_
    refine rw_iast hx hb hW hS (fun _ => (fl 91 rfl)) h dX0_carryNearest_31 (fun w7 H locs h hW hS => ?_)
    refine lv_aload_n hx hb dX0_carryNearest_32 rfl (lv_at hl 2 rfl) ?_
    refine rw_get hx hb hts iX0 hown hW (fl 90 rfl) rfl rfl 1 (by decide) e9 rfl (v := .ref (E.2.1 91)) rfl dX0_carryNearest_33 ?_
    refine lv_aload_n hx hb dX0_carryNearest_36 rfl (lv_at hl 2 rfl) ?_
    refine lv_iload_n hx hb dX0_carryNearest_37 rfl (lv_at hl 1 rfl) ?_
    refine lv_iload_n hx hb dX0_carryNearest_38 rfl (lv_at hl 0 rfl) ?_
    refine rc_Vi (k := 90) (As := [.int x2, .int x4]) (rest := [.ref (E.2.1 91)]) S hW hS h (kX0_carryAlong l E x2 x4 w7) (cwV 2 hts gX0_carryNearest_X0_carryAlong rfl rfl rfl hdX0_carryAlong ⟨Nat.le_of_ble_eq_true rfl, Nat.le_of_ble_eq_true rfl⟩) (fl 90 rfl) rfl rfl rfl rfl hl.1 rfl (Nat.le_of_ble_eq_true rfl) ⟨Nat.zero_le _, Nat.zero_le _⟩ dX0_carryNearest_39 (fun x8 w9 H locs h hW hS => ?_)
    refine lv_dup2_11 hx hb dX0_carryNearest_42 rfl rfl ?_
    refine rw_iald hx hb hW (fun _ => (fl 91 rfl)) h dX0_carryNearest_43 (fun x10 h => ?_)
    refine lv_iload_n hx hb dX0_carryNearest_44 rfl (lv_at hl 0 rfl) ?_
    refine lv_isub hx hb dX0_carryNearest_45 ?_
    refine rw_iast hx hb hW hS (fun _ => (fl 91 rfl)) h dX0_carryNearest_46 (fun w11 H locs h hW hS => ?_)
    refine lv_iload_n hx hb dX0_carryNearest_47 rfl (lv_at hl 0 rfl) ?_
    exact rrI hQ hW hS h dX0_carryNearest_48
  · refine lv_iconst (v := (0 : Int32)) hx hb dX0_carryNearest_14 (by decide) ?_
    exact rrI hQ hW hS h dX0_carryNearest_15
noncomputable def bX0_leastSteps_116 (p1 : Nat) (p2 : Nat) (k116 : Int32 → Int32 → Wd → Option (Int32 × Wd)) (v4 : Int32) (v5 : Int32)  (w : Wd) : Option (Int32 × Wd) :=
  if 0 < LI 92 then if (nI (LI 92)) ≤ v5 then some (v4, w) else (gI w 92 v5).bind fun x14 => k116 (v4 + x14) (v5 + (1 : Int32)) w else none
noncomputable def jX0_leastSteps_110 (p1 : Nat) (p2 : Nat)  (w : Wd) : Option (Int32 × Wd) :=
  lp (fun _ _ _ => none) (bX0_leastSteps_116 p1 p2) G (0 : Int32) (0 : Int32) w
noncomputable def bX0_leastSteps_86 (p1 : Nat) (p2 : Nat) (k86 : Int32 → Int32 → Wd → Option (Int32 × Wd)) (v3 : Int32) (v4 : Int32)  (w : Wd) : Option (Int32 × Wd) :=
  if (100 : Int32) ≤ v4 then jX0_leastSteps_110 p1 p2 w else if v3 ≤ 0 then jX0_leastSteps_110 p1 p2 w else bnd (fX0_carryNearest w) fun x12 w13 => k86 (v3 - x12) (v4 + (1 : Int32)) w13
noncomputable def bX0_leastSteps_35 (p1 : Nat) (p2 : Nat) (k35 : Int32 → Int32 → Wd → Option (Int32 × Wd)) (v3 : Int32) (v4 : Int32)  (w : Wd) : Option (Int32 × Wd) :=
  bnd (fX2_cells w) fun x6 w7 => if x6 ≤ v4 then lp (fun _ _ _ => none) (bX0_leastSteps_86 p1 p2) G v3 (0 : Int32) w7 else (gI w7 p1 v4).bind fun x8 => (gI w7 p2 v4).bind fun x9 => (sI w7 91 v4 (x8 - x9)).bind fun w10 => (gI w10 91 v4).bind fun x11 => k35 (v3 + (if (0 : Int32) < x11 then x11 else (0 : Int32))) (v4 + (1 : Int32)) w10
noncomputable def fX0_leastSteps (p1 : Nat) (p2 : Nat) (w : Wd) : Option (Int32 × Wd) :=
  bnd (fX2_total p1 w) fun x1 w2 => bnd (fX2_total p2 w2) fun x3 w4 => if x1 = x3 then bnd (fJ7_fill_53178 92 (0 : Int32) w4) fun _ w5 => lp (fun _ _ _ => none) (bX0_leastSteps_35 p1 p2) G (0 : Int32) (0 : Int32) w5 else some ((-9 : Int32), w4)
abbrev rmX0_leastSteps : Room := { frames := 4, cells := 0, slots := 0, locals := 92 }
set_option maxHeartbeats 4000000 in
set_option maxRecDepth 100000 in
theorem kX0_leastSteps (l : Launch) (E : Ev) (p1 : Nat) (p2 : Nat) (w : Wd) (q : Int32 × Wd) (h : fX0_leastSteps p1 p2 w = some q) : CtI l yX0_leastSteps wsX0_leastSteps rmX0_leastSteps E full [.ref (E.2.1 90), .ref (E.2.1 p1), .ref (E.2.1 p2)] w q := by
  refine mkI (cc := cX0_leastSteps) (maxL := 6) (by decide) rfl (Nat.le_of_ble_eq_true rfl) ?_
  intro p e s m args below meth c Q S hW hQ ls hl
  obtain ⟨hx, hb, hml, hown, hts⟩ := id S
  have hW0 := hW
  have hS : va_S (wA E full) s.heap s.heap [] := va_S.rf
  have hl : lv_has ls 6 [(0, .ref (E.2.1 90)), (1, .ref (E.2.1 p1)), (2, .ref (E.2.1 p2))] := hl
  have iX0 : ∀ w ∈ wsX00, w ∈ wsX0_leastSteps := by decide +kernel
  have e9 := hts (.fieldLink RX0 9 "CubeHeaps$Carrying" "surplus" "[I") (by decide +kernel)
  have e15 := hts (.fieldLink RX0 15 "CubeHeaps$Carrying" "carried" "[I") (by decide +kernel)
  have e27 := hts (.fieldLink RX0 27 "CubeHeaps$Carrying" "ground" "LCubeHeaps$Ground;") (by decide +kernel)
  have J116 : ∀ (n : Nat) (v4 : Int32) (v5 : Int32) (w : Wd) (H : Heap) (locs : List Loc) (ls : Array Slot), lp (fun _ _ _ => none) (bX0_leastSteps_116 p1 p2) n v4 v5 w = some q → World E full w s H → va_S (wA E full) s.heap H locs → lv_has ls 6 [(0, .ref (E.2.1 90)), (4, .int v4), (5, .int v5)] → W p l e rmX0_leastSteps s m args below meth c H locs 0 0 Q (F0 m 116 ls []) := by
    intro n
    induction n with
    | zero =>
      intro v4 v5 w H locs ls h hW hS hl
      exact absurd (show (none : Option (Int32 × Wd)) = some q from h) (fun z => by cases z)
    | succ n ih116 =>
      intro v4 v5 w H locs ls h hW hS hl
      have h : bX0_leastSteps_116 p1 p2 (lp (fun _ _ _ => none) (bX0_leastSteps_116 p1 p2) n) v4 v5 w = some q := h
      generalize lp (fun _ _ _ => none) (bX0_leastSteps_116 p1 p2) n = k116 at h ih116
      unfold bX0_leastSteps_116 at h
      refine lv_iload hx hb dX0_leastSteps_116 (lv_at hl 2 rfl) ?_
      refine lv_aload_n hx hb dX0_leastSteps_118 rfl (lv_at hl 0 rfl) ?_
      refine rw_get hx hb hts iX0 hown hW (fl 90 rfl) rfl rfl 2 (by decide) e15 rfl (v := .ref (E.2.1 92)) rfl dX0_leastSteps_119 ?_
      refine rw_alenI hx hb hW (fun _ => (fl 92 rfl)) h dX0_leastSteps_122 (fun h => ?_)
      refine rb_icmp_ge (tgt := 144) hx hb h dX0_leastSteps_123 (by decide) (fun h => ?_) (fun h => ?_)
      · refine lv_iload hx hb dX0_leastSteps_144 (lv_at hl 1 rfl) ?_
        exact rrI hQ hW hS h dX0_leastSteps_146
      · refine lv_iload hx hb dX0_leastSteps_126 (lv_at hl 1 rfl) ?_
        refine lv_aload_n hx hb dX0_leastSteps_128 rfl (lv_at hl 0 rfl) ?_
        refine rw_get hx hb hts iX0 hown hW (fl 90 rfl) rfl rfl 2 (by decide) e15 rfl (v := .ref (E.2.1 92)) rfl dX0_leastSteps_129 ?_
        refine lv_iload hx hb dX0_leastSteps_132 (lv_at hl 2 rfl) ?_
        refine rw_iald hx hb hW (fun _ => (fl 92 rfl)) h dX0_leastSteps_134 (fun x14 h => ?_)
        refine lv_iadd hx hb dX0_leastSteps_135 ?_
        refine lv_istore (lv' := [(4, .int (v4 + x14)), (0, .ref (E.2.1 90)), (5, .int v5)]) hx hb dX0_leastSteps_136 hl (by decide) rfl (fun ls hl => ?_)
        refine lv_iinc (v := (v5 + (1 : Int32))) (lv' := [(5, .int (v5 + (1 : Int32))), (4, .int (v4 + x14)), (0, .ref (E.2.1 90))]) hx hb dX0_leastSteps_138 hl (k := 2) rfl rfl (by decide) rfl (fun ls hl => ?_)
        refine lv_goto (tgt := 116) hx hb dX0_leastSteps_141 (by decide) ?_
        exact ih116 _ _ _ _ _ _ h hW hS (lv_sub hl [2, 1, 0] rfl)
  have J110 : ∀  (w : Wd) (H : Heap) (locs : List Loc) (ls : Array Slot), jX0_leastSteps_110 p1 p2 w = some q → World E full w s H → va_S (wA E full) s.heap H locs → lv_has ls 6 [(0, .ref (E.2.1 90))] → W p l e rmX0_leastSteps s m args below meth c H locs 0 0 Q (F0 m 110 ls []) := by
    intro  w H locs ls h hW hS hl
    unfold jX0_leastSteps_110 at h
    refine lv_iconst (v := (0 : Int32)) hx hb dX0_leastSteps_110 (by decide) ?_
    refine lv_istore (lv' := [(4, .int (0 : Int32)), (0, .ref (E.2.1 90))]) hx hb dX0_leastSteps_111 hl (by decide) rfl (fun ls hl => ?_)
    refine lv_iconst (v := (0 : Int32)) hx hb dX0_leastSteps_113 (by decide) ?_
    refine lv_istore (lv' := [(5, .int (0 : Int32)), (4, .int (0 : Int32)), (0, .ref (E.2.1 90))]) hx hb dX0_leastSteps_114 hl (by decide) rfl (fun ls hl => ?_)
    exact J116 _ _ _ _ _ _ _ h hW hS (lv_sub hl [2, 1, 0] rfl)
  have J86 : ∀ (n : Nat) (v3 : Int32) (v4 : Int32) (w : Wd) (H : Heap) (locs : List Loc) (ls : Array Slot), lp (fun _ _ _ => none) (bX0_leastSteps_86 p1 p2) n v3 v4 w = some q → World E full w s H → va_S (wA E full) s.heap H locs → lv_has ls 6 [(0, .ref (E.2.1 90)), (3, .int v3), (4, .int v4)] → W p l e rmX0_leastSteps s m args below meth c H locs 0 0 Q (F0 m 86 ls []) := by
    intro n
    induction n with
    | zero =>
      intro v3 v4 w H locs ls h hW hS hl
      exact absurd (show (none : Option (Int32 × Wd)) = some q from h) (fun z => by cases z)
    | succ n ih86 =>
      intro v3 v4 w H locs ls h hW hS hl
      have h : bX0_leastSteps_86 p1 p2 (lp (fun _ _ _ => none) (bX0_leastSteps_86 p1 p2) n) v3 v4 w = some q := h
      generalize lp (fun _ _ _ => none) (bX0_leastSteps_86 p1 p2) n = k86 at h ih86
      unfold bX0_leastSteps_86 at h
      refine lv_iload hx hb dX0_leastSteps_86 (lv_at hl 2 rfl) ?_
      refine lv_bipush (v := (100 : Int32)) hx hb dX0_leastSteps_88 (by decide) ?_
      refine rb_icmp_ge (tgt := 110) hx hb h dX0_leastSteps_90 (by decide) (fun h => ?_) (fun h => ?_)
      · exact J110  _ _ _ _ h hW hS (lv_sub hl [0] rfl)
      · refine lv_iload_n hx hb dX0_leastSteps_93 rfl (lv_at hl 1 rfl) ?_
        refine rb_if_le (tgt := 110) hx hb h dX0_leastSteps_94 (by decide) (fun h => ?_) (fun h => ?_)
        · exact J110  _ _ _ _ h hW hS (lv_sub hl [0] rfl)
        · refine lv_iload_n hx hb dX0_leastSteps_97 rfl (lv_at hl 1 rfl) ?_
          refine lv_aload_n hx hb dX0_leastSteps_98 rfl (lv_at hl 0 rfl) ?_
          refine rc_Vi (k := 90) (As := []) (rest := [.int v3]) S hW hS h (kX0_carryNearest l E  w) (cwV 0 hts gX0_leastSteps_X0_carryNearest rfl rfl rfl hdX0_carryNearest ⟨Nat.le_of_ble_eq_true rfl, Nat.le_of_ble_eq_true rfl⟩) (fl 90 rfl) rfl rfl rfl rfl hl.1 rfl (Nat.le_of_ble_eq_true rfl) ⟨Nat.zero_le _, Nat.zero_le _⟩ dX0_leastSteps_99 (fun x12 w13 H locs h hW hS => ?_)
          refine lv_isub hx hb dX0_leastSteps_102 ?_
          refine lv_istore_n (lv' := [(3, .int (v3 - x12)), (0, .ref (E.2.1 90)), (4, .int v4)]) hx hb dX0_leastSteps_103 rfl hl (by decide) rfl (fun ls hl => ?_)
          refine lv_iinc (v := (v4 + (1 : Int32))) (lv' := [(4, .int (v4 + (1 : Int32))), (3, .int (v3 - x12)), (0, .ref (E.2.1 90))]) hx hb dX0_leastSteps_104 hl (k := 2) rfl rfl (by decide) rfl (fun ls hl => ?_)
          refine lv_goto (tgt := 86) hx hb dX0_leastSteps_107 (by decide) ?_
          exact ih86 _ _ _ _ _ _ h hW hS (lv_sub hl [2, 1, 0] rfl)
  have J35 : ∀ (n : Nat) (v3 : Int32) (v4 : Int32) (w : Wd) (H : Heap) (locs : List Loc) (ls : Array Slot), lp (fun _ _ _ => none) (bX0_leastSteps_35 p1 p2) n v3 v4 w = some q → World E full w s H → va_S (wA E full) s.heap H locs → lv_has ls 6 [(0, .ref (E.2.1 90)), (1, .ref (E.2.1 p1)), (2, .ref (E.2.1 p2)), (3, .int v3), (4, .int v4)] → W p l e rmX0_leastSteps s m args below meth c H locs 0 0 Q (F0 m 35 ls []) := by
    intro n
    induction n with
    | zero =>
      intro v3 v4 w H locs ls h hW hS hl
      exact absurd (show (none : Option (Int32 × Wd)) = some q from h) (fun z => by cases z)
    | succ n ih35 =>
      intro v3 v4 w H locs ls h hW hS hl
      have h : bX0_leastSteps_35 p1 p2 (lp (fun _ _ _ => none) (bX0_leastSteps_35 p1 p2) n) v3 v4 w = some q := h
      generalize lp (fun _ _ _ => none) (bX0_leastSteps_35 p1 p2) n = k35 at h ih35
      unfold bX0_leastSteps_35 at h
      refine lv_iload hx hb dX0_leastSteps_35 (lv_at hl 4 rfl) ?_
      refine lv_aload_n hx hb dX0_leastSteps_37 rfl (lv_at hl 0 rfl) ?_
      refine rw_get hx hb hts iX0 hown hW (fl 90 rfl) rfl rfl 0 (by decide) e27 rfl (v := .ref (E.2.1 1)) rfl dX0_leastSteps_38 ?_
      refine rc_Vi (k := 1) (As := []) (rest := [.int v4]) S hW hS h (kX2_cells l E  w) (cwV 0 hts gX0_leastSteps_X2_cells rfl rfl rfl hdX2_cells ⟨Nat.le_of_ble_eq_true rfl, Nat.le_of_ble_eq_true rfl⟩) (fl 1 rfl) rfl rfl rfl rfl hl.1 rfl (Nat.le_of_ble_eq_true rfl) ⟨Nat.zero_le _, Nat.zero_le _⟩ dX0_leastSteps_41 (fun x6 w7 H locs h hW hS => ?_)
      refine rb_icmp_ge (tgt := 83) hx hb h dX0_leastSteps_44 (by decide) (fun h => ?_) (fun h => ?_)
      · refine lv_iconst (v := (0 : Int32)) hx hb dX0_leastSteps_83 (by decide) ?_
        refine lv_istore (lv' := [(4, .int (0 : Int32)), (0, .ref (E.2.1 90)), (1, .ref (E.2.1 p1)), (2, .ref (E.2.1 p2)), (3, .int v3)]) hx hb dX0_leastSteps_84 hl (by decide) rfl (fun ls hl => ?_)
        exact J86 _ _ _ _ _ _ _ h hW hS (lv_sub hl [1, 4, 0] rfl)
      · refine lv_aload_n hx hb dX0_leastSteps_47 rfl (lv_at hl 0 rfl) ?_
        refine rw_get hx hb hts iX0 hown hW (fl 90 rfl) rfl rfl 1 (by decide) e9 rfl (v := .ref (E.2.1 91)) rfl dX0_leastSteps_48 ?_
        refine lv_iload hx hb dX0_leastSteps_51 (lv_at hl 4 rfl) ?_
        refine lv_aload_n hx hb dX0_leastSteps_53 rfl (lv_at hl 1 rfl) ?_
        refine lv_iload hx hb dX0_leastSteps_54 (lv_at hl 4 rfl) ?_
        refine rw_iald hx hb hW LI_full h dX0_leastSteps_56 (fun x8 h => ?_)
        refine lv_aload_n hx hb dX0_leastSteps_57 rfl (lv_at hl 2 rfl) ?_
        refine lv_iload hx hb dX0_leastSteps_58 (lv_at hl 4 rfl) ?_
        refine rw_iald hx hb hW LI_full h dX0_leastSteps_60 (fun x9 h => ?_)
        refine lv_isub hx hb dX0_leastSteps_61 ?_
        refine rw_iast hx hb hW hS (fun _ => (fl 91 rfl)) h dX0_leastSteps_62 (fun w10 H locs h hW hS => ?_)
        refine lv_iload_n hx hb dX0_leastSteps_63 rfl (lv_at hl 3 rfl) ?_
        refine lv_iconst (v := (0 : Int32)) hx hb dX0_leastSteps_64 (by decide) ?_
        refine lv_aload_n hx hb dX0_leastSteps_65 rfl (lv_at hl 0 rfl) ?_
        refine rw_get hx hb hts iX0 hown hW (fl 90 rfl) rfl rfl 1 (by decide) e9 rfl (v := .ref (E.2.1 91)) rfl dX0_leastSteps_66 ?_
        refine lv_iload hx hb dX0_leastSteps_69 (lv_at hl 4 rfl) ?_
        refine rw_iald hx hb hW (fun _ => (fl 91 rfl)) h dX0_leastSteps_71 (fun x11 h => ?_)
        refine va_mmax hx hb (hml.trans hl.1.symm) (own := RX0) hown (hts (.methodLink RX0 47 Lib.Math.max.name) (by decide +kernel)) (hts (.static Lib.Math.max.name) (by decide +kernel)) (hts (.initialized "java/lang/Math") (by decide +kernel)) (hts (.code Lib.Math.max.name Lib.Math.max.code 2 (some .int)) (by decide +kernel)) (Nat.le_of_ble_eq_true rfl) (Nat.le_of_ble_eq_true rfl) (Nat.zero_le _) (Nat.zero_le _) dX0_leastSteps_72 ?_
        refine lv_iadd hx hb dX0_leastSteps_75 ?_
        refine lv_istore_n (lv' := [(3, .int (v3 + (if (0 : Int32) < x11 then x11 else (0 : Int32)))), (0, .ref (E.2.1 90)), (1, .ref (E.2.1 p1)), (2, .ref (E.2.1 p2)), (4, .int v4)]) hx hb dX0_leastSteps_76 rfl hl (by decide) rfl (fun ls hl => ?_)
        refine lv_iinc (v := (v4 + (1 : Int32))) (lv' := [(4, .int (v4 + (1 : Int32))), (3, .int (v3 + (if (0 : Int32) < x11 then x11 else (0 : Int32)))), (0, .ref (E.2.1 90)), (1, .ref (E.2.1 p1)), (2, .ref (E.2.1 p2))]) hx hb dX0_leastSteps_77 hl (k := 4) rfl rfl (by decide) rfl (fun ls hl => ?_)
        refine lv_goto (tgt := 35) hx hb dX0_leastSteps_80 (by decide) ?_
        exact ih35 _ _ _ _ _ _ h hW hS (lv_sub hl [2, 3, 4, 1, 0] rfl)
  unfold fX0_leastSteps at h
  refine lv_aload_n hx hb dX0_leastSteps_0 rfl (lv_at hl 0 rfl) ?_
  refine rw_get hx hb hts iX0 hown hW (fl 90 rfl) rfl rfl 0 (by decide) e27 rfl (v := .ref (E.2.1 1)) rfl dX0_leastSteps_1 ?_
  refine lv_aload_n hx hb dX0_leastSteps_4 rfl (lv_at hl 1 rfl) ?_
  refine rc_Vi (k := 1) (As := [.ref (E.2.1 p1)]) (rest := []) S hW hS h (kX2_total l E p1 w) (cwV 1 hts gX0_leastSteps_X2_total rfl rfl rfl hdX2_total ⟨Nat.le_of_ble_eq_true rfl, Nat.le_of_ble_eq_true rfl⟩) (fl 1 rfl) rfl rfl rfl rfl hl.1 rfl (Nat.le_of_ble_eq_true rfl) ⟨Nat.zero_le _, Nat.zero_le _⟩ dX0_leastSteps_5 (fun x1 w2 H locs h hW hS => ?_)
  refine lv_aload_n hx hb dX0_leastSteps_8 rfl (lv_at hl 0 rfl) ?_
  refine rw_get hx hb hts iX0 hown hW (fl 90 rfl) rfl rfl 0 (by decide) e27 rfl (v := .ref (E.2.1 1)) rfl dX0_leastSteps_9 ?_
  refine lv_aload_n hx hb dX0_leastSteps_12 rfl (lv_at hl 2 rfl) ?_
  refine rc_Vi (k := 1) (As := [.ref (E.2.1 p2)]) (rest := [.int x1]) S hW hS h (kX2_total l E p2 w2) (cwV 1 hts gX0_leastSteps_X2_total rfl rfl rfl hdX2_total ⟨Nat.le_of_ble_eq_true rfl, Nat.le_of_ble_eq_true rfl⟩) (fl 1 rfl) rfl rfl rfl rfl hl.1 rfl (Nat.le_of_ble_eq_true rfl) ⟨Nat.zero_le _, Nat.zero_le _⟩ dX0_leastSteps_13 (fun x3 w4 H locs h hW hS => ?_)
  refine rb_icmp_eq (tgt := 22) hx hb h dX0_leastSteps_16 (by decide) (fun h => ?_) (fun h => ?_)
  · refine lv_aload_n hx hb dX0_leastSteps_22 rfl (lv_at hl 0 rfl) ?_
    refine rw_get hx hb hts iX0 hown hW (fl 90 rfl) rfl rfl 2 (by decide) e15 rfl (v := .ref (E.2.1 92)) rfl dX0_leastSteps_23 ?_
    refine lv_iconst (v := (0 : Int32)) hx hb dX0_leastSteps_26 (by decide) ?_
    refine rc_Sv (As := [.ref (E.2.1 92), .int (0 : Int32)]) (rest := []) S hW hS h (kJ7_fill_53178 l E full 92 (0 : Int32) LI_full w4) (va_cwS 2 hts gX0_leastSteps_J7_fill_53178 rfl rfl rfl hdJ7_fill_53178 ⟨Nat.le_of_ble_eq_true rfl, Nat.le_of_ble_eq_true rfl⟩) rfl hl.1 rfl (Nat.le_of_ble_eq_true rfl) ⟨Nat.zero_le _, Nat.zero_le _⟩ dX0_leastSteps_27 (fun _ w5 H locs h hW hS => ?_)
    refine lv_iconst (v := (0 : Int32)) hx hb dX0_leastSteps_30 (by decide) ?_
    refine lv_istore_n (lv' := [(3, .int (0 : Int32)), (0, .ref (E.2.1 90)), (1, .ref (E.2.1 p1)), (2, .ref (E.2.1 p2))]) hx hb dX0_leastSteps_31 rfl hl (by decide) rfl (fun ls hl => ?_)
    refine lv_iconst (v := (0 : Int32)) hx hb dX0_leastSteps_32 (by decide) ?_
    refine lv_istore (lv' := [(4, .int (0 : Int32)), (3, .int (0 : Int32)), (0, .ref (E.2.1 90)), (1, .ref (E.2.1 p1)), (2, .ref (E.2.1 p2))]) hx hb dX0_leastSteps_33 hl (by decide) rfl (fun ls hl => ?_)
    exact J35 _ _ _ _ _ _ _ h hW hS (lv_sub hl [2, 3, 4, 1, 0] rfl)
  · refine lv_bipush (v := (-9 : Int32)) hx hb dX0_leastSteps_19 (by decide) ?_
    exact rrI hQ hW hS h dX0_leastSteps_21
noncomputable def fX5_version  (w : Wd) : Option (Int32 × Wd) :=
  some ((w.1 14 4), w)
abbrev rmX5_version : Room := { frames := 0, cells := 0, slots := 0, locals := 0 }
set_option maxHeartbeats 4000000 in
set_option maxRecDepth 100000 in
theorem kX5_version (l : Launch) (E : Ev)  (w : Wd) (q : Int32 × Wd) (h : fX5_version w = some q) : CtI l yX5_version wsX5_version rmX5_version E full [.ref (E.2.1 14)] w q := by
  refine mkI (cc := cX5_version) (maxL := 1) (by decide) rfl (Nat.le_of_ble_eq_true rfl) ?_
  intro p e s m args below meth c Q S hW hQ ls hl
  obtain ⟨hx, hb, hml, hown, hts⟩ := id S
  have hW0 := hW
  have hS : va_S (wA E full) s.heap s.heap [] := va_S.rf
  have hl : lv_has ls 1 [(0, .ref (E.2.1 14))] := hl
  have iX5 : ∀ w ∈ wsX50, w ∈ wsX5_version := by decide +kernel
  have e22 := hts (.fieldLink RX5 22 "CubeHeaps$Told" "version" "I") (by decide +kernel)
  unfold fX5_version at h
  refine lv_aload_n hx hb dX5_version_0 rfl (lv_at hl 0 rfl) ?_
  refine rw_get hx hb hts iX5 hown hW (fl 14 rfl) rfl rfl 4 (by decide) e22 rfl (v := .int (w.1 14 4)) rfl dX5_version_1 ?_
  exact rrI hQ hW hS h dX5_version_4
noncomputable def fX2_x (p1 : Int32) (w : Wd) : Option (Int32 × Wd) :=
  (gI w 2 p1).bind fun x1 => some (x1, w)
abbrev rmX2_x : Room := { frames := 0, cells := 0, slots := 0, locals := 0 }
set_option maxHeartbeats 4000000 in
set_option maxRecDepth 100000 in
theorem kX2_x (l : Launch) (E : Ev) (p1 : Int32) (w : Wd) (q : Int32 × Wd) (h : fX2_x p1 w = some q) : CtI l yX2_x wsX2_x rmX2_x E full [.ref (E.2.1 1), .int p1] w q := by
  refine mkI (cc := cX2_x) (maxL := 2) (by decide) rfl (Nat.le_of_ble_eq_true rfl) ?_
  intro p e s m args below meth c Q S hW hQ ls hl
  obtain ⟨hx, hb, hml, hown, hts⟩ := id S
  have hW0 := hW
  have hS : va_S (wA E full) s.heap s.heap [] := va_S.rf
  have hl : lv_has ls 2 [(0, .ref (E.2.1 1)), (1, .int p1)] := hl
  have iX2 : ∀ w ∈ wsX20, w ∈ wsX2_x := by decide +kernel
  have e9 := hts (.fieldLink RX2 9 "CubeHeaps$Ground" "xs" "[I") (by decide +kernel)
  unfold fX2_x at h
  refine lv_aload_n hx hb dX2_x_0 rfl (lv_at hl 0 rfl) ?_
  refine rw_get hx hb hts iX2 hown hW (fl 1 rfl) rfl rfl 0 (by decide) e9 rfl (v := .ref (E.2.1 2)) rfl dX2_x_1 ?_
  refine lv_iload_n hx hb dX2_x_4 rfl (lv_at hl 1 rfl) ?_
  refine rw_iald hx hb hW (fun _ => (fl 2 rfl)) h dX2_x_5 (fun x1 h => ?_)
  exact rrI hQ hW hS h dX2_x_6
noncomputable def fX3_ofT (p1 : Int32) (p2 : Int32) (w : Wd) : Option (Int32 × Wd) :=
  if p1 = 0 then (gI w 17 p2).bind fun x1 => some (x1, w) else (gI w 16 p2).bind fun x2 => some (x2, w)
abbrev rmX3_ofT : Room := { frames := 0, cells := 0, slots := 0, locals := 0 }
set_option maxHeartbeats 4000000 in
set_option maxRecDepth 100000 in
theorem kX3_ofT (l : Launch) (E : Ev) (p1 : Int32) (p2 : Int32) (w : Wd) (q : Int32 × Wd) (h : fX3_ofT p1 p2 w = some q) : CtI l yX3_of wsX3_of rmX3_ofT E full [.ref (E.2.1 15), .int p1, .int p2] w q := by
  refine mkI (cc := cX3_of) (maxL := 3) (by decide) rfl (Nat.le_of_ble_eq_true rfl) ?_
  intro p e s m args below meth c Q S hW hQ ls hl
  obtain ⟨hx, hb, hml, hown, hts⟩ := id S
  have hW0 := hW
  have hS : va_S (wA E full) s.heap s.heap [] := va_S.rf
  have hl : lv_has ls 3 [(0, .ref (E.2.1 15)), (1, .int p1), (2, .int p2)] := hl
  have iX3 : ∀ w ∈ wsX30, w ∈ wsX3_of := by decide +kernel
  have e9 := hts (.fieldLink RX3 9 "CubeHeaps$Lines" "columns" "[I") (by decide +kernel)
  have e15 := hts (.fieldLink RX3 15 "CubeHeaps$Lines" "rows" "[I") (by decide +kernel)
  unfold fX3_ofT at h
  refine lv_iload_n hx hb dX3_of_0 rfl (lv_at hl 1 rfl) ?_
  refine rb_if_eq (tgt := 13) hx hb h dX3_of_1 (by decide) (fun h => ?_) (fun h => ?_)
  · refine lv_aload_n hx hb dX3_of_13 rfl (lv_at hl 0 rfl) ?_
    refine rw_get hx hb hts iX3 hown hW (fl 15 rfl) rfl rfl 1 (by decide) e15 rfl (v := .ref (E.2.1 17)) rfl dX3_of_14 ?_
    refine lv_iload_n hx hb dX3_of_17 rfl (lv_at hl 2 rfl) ?_
    refine rw_iald hx hb hW (fun _ => (fl 17 rfl)) h dX3_of_18 (fun x1 h => ?_)
    exact rrI hQ hW hS h dX3_of_19
  · refine lv_aload_n hx hb dX3_of_4 rfl (lv_at hl 0 rfl) ?_
    refine rw_get hx hb hts iX3 hown hW (fl 15 rfl) rfl rfl 0 (by decide) e9 rfl (v := .ref (E.2.1 16)) rfl dX3_of_5 ?_
    refine lv_iload_n hx hb dX3_of_8 rfl (lv_at hl 2 rfl) ?_
    refine rw_iald hx hb hW (fun _ => (fl 16 rfl)) h dX3_of_9 (fun x2 h => ?_)
    refine lv_goto (tgt := 19) hx hb dX3_of_10 (by decide) ?_
    exact rrI hQ hW hS h dX3_of_19
noncomputable def fX3_ofS (p1 : Int32) (p2 : Int32) (w : Wd) : Option (Int32 × Wd) :=
  if p1 = 0 then (gI w 82 p2).bind fun x1 => some (x1, w) else (gI w 81 p2).bind fun x2 => some (x2, w)
abbrev rmX3_ofS : Room := { frames := 0, cells := 0, slots := 0, locals := 0 }
set_option maxHeartbeats 4000000 in
set_option maxRecDepth 100000 in
theorem kX3_ofS (l : Launch) (E : Ev) (p1 : Int32) (p2 : Int32) (w : Wd) (q : Int32 × Wd) (h : fX3_ofS p1 p2 w = some q) : CtI l yX3_of wsX3_of rmX3_ofS E full [.ref (E.2.1 80), .int p1, .int p2] w q := by
  refine mkI (cc := cX3_of) (maxL := 3) (by decide) rfl (Nat.le_of_ble_eq_true rfl) ?_
  intro p e s m args below meth c Q S hW hQ ls hl
  obtain ⟨hx, hb, hml, hown, hts⟩ := id S
  have hW0 := hW
  have hS : va_S (wA E full) s.heap s.heap [] := va_S.rf
  have hl : lv_has ls 3 [(0, .ref (E.2.1 80)), (1, .int p1), (2, .int p2)] := hl
  have iX3 : ∀ w ∈ wsX30, w ∈ wsX3_of := by decide +kernel
  have e9 := hts (.fieldLink RX3 9 "CubeHeaps$Lines" "columns" "[I") (by decide +kernel)
  have e15 := hts (.fieldLink RX3 15 "CubeHeaps$Lines" "rows" "[I") (by decide +kernel)
  unfold fX3_ofS at h
  refine lv_iload_n hx hb dX3_of_0 rfl (lv_at hl 1 rfl) ?_
  refine rb_if_eq (tgt := 13) hx hb h dX3_of_1 (by decide) (fun h => ?_) (fun h => ?_)
  · refine lv_aload_n hx hb dX3_of_13 rfl (lv_at hl 0 rfl) ?_
    refine rw_get hx hb hts iX3 hown hW (fl 80 rfl) rfl rfl 1 (by decide) e15 rfl (v := .ref (E.2.1 82)) rfl dX3_of_14 ?_
    refine lv_iload_n hx hb dX3_of_17 rfl (lv_at hl 2 rfl) ?_
    refine rw_iald hx hb hW (fun _ => (fl 82 rfl)) h dX3_of_18 (fun x1 h => ?_)
    exact rrI hQ hW hS h dX3_of_19
  · refine lv_aload_n hx hb dX3_of_4 rfl (lv_at hl 0 rfl) ?_
    refine rw_get hx hb hts iX3 hown hW (fl 80 rfl) rfl rfl 0 (by decide) e9 rfl (v := .ref (E.2.1 81)) rfl dX3_of_5 ?_
    refine lv_iload_n hx hb dX3_of_8 rfl (lv_at hl 2 rfl) ?_
    refine rw_iald hx hb hW (fun _ => (fl 81 rfl)) h dX3_of_9 (fun x2 h => ?_)
    refine lv_goto (tgt := 19) hx hb dX3_of_10 (by decide) ?_
    exact rrI hQ hW hS h dX3_of_19
noncomputable def fX5_line (p1 : Int32) (p2 : Int32) (w : Wd) : Option (Int32 × Wd) :=
  bnd (fX3_ofT p1 p2 w) fun x1 w2 => some (x1, w2)
abbrev rmX5_line : Room := { frames := 1, cells := 0, slots := 0, locals := 22 }
set_option maxHeartbeats 4000000 in
set_option maxRecDepth 100000 in
theorem kX5_line (l : Launch) (E : Ev) (p1 : Int32) (p2 : Int32) (w : Wd) (q : Int32 × Wd) (h : fX5_line p1 p2 w = some q) : CtI l yX5_line wsX5_line rmX5_line E full [.ref (E.2.1 14), .int p1, .int p2] w q := by
  refine mkI (cc := cX5_line) (maxL := 3) (by decide) rfl (Nat.le_of_ble_eq_true rfl) ?_
  intro p e s m args below meth c Q S hW hQ ls hl
  obtain ⟨hx, hb, hml, hown, hts⟩ := id S
  have hW0 := hW
  have hS : va_S (wA E full) s.heap s.heap [] := va_S.rf
  have hl : lv_has ls 3 [(0, .ref (E.2.1 14)), (1, .int p1), (2, .int p2)] := hl
  have iX5 : ∀ w ∈ wsX50, w ∈ wsX5_line := by decide +kernel
  have e12 := hts (.fieldLink RX5 12 "CubeHeaps$Told" "tallest" "LCubeHeaps$Lines;") (by decide +kernel)
  unfold fX5_line at h
  refine lv_aload_n hx hb dX5_line_0 rfl (lv_at hl 0 rfl) ?_
  refine rw_get hx hb hts iX5 hown hW (fl 14 rfl) rfl rfl 2 (by decide) e12 rfl (v := .ref (E.2.1 15)) rfl dX5_line_1 ?_
  refine lv_iload_n hx hb dX5_line_4 rfl (lv_at hl 1 rfl) ?_
  refine lv_iload_n hx hb dX5_line_5 rfl (lv_at hl 2 rfl) ?_
  refine rc_Vi (k := 15) (As := [.int p1, .int p2]) (rest := []) S hW hS h (kX3_ofT l E p1 p2 w) (cwV 2 hts gX5_line_X3_of rfl rfl rfl hdX3_of ⟨Nat.le_of_ble_eq_true rfl, Nat.le_of_ble_eq_true rfl⟩) (fl 15 rfl) rfl rfl rfl rfl hl.1 rfl (Nat.le_of_ble_eq_true rfl) ⟨Nat.zero_le _, Nat.zero_le _⟩ dX5_line_6 (fun x1 w2 H locs h hW hS => ?_)
  exact rrI hQ hW hS h dX5_line_9
noncomputable def fX2_y (p1 : Int32) (w : Wd) : Option (Int32 × Wd) :=
  (gI w 3 p1).bind fun x1 => some (x1, w)
abbrev rmX2_y : Room := { frames := 0, cells := 0, slots := 0, locals := 0 }
set_option maxHeartbeats 4000000 in
set_option maxRecDepth 100000 in
theorem kX2_y (l : Launch) (E : Ev) (p1 : Int32) (w : Wd) (q : Int32 × Wd) (h : fX2_y p1 w = some q) : CtI l yX2_y wsX2_y rmX2_y E full [.ref (E.2.1 1), .int p1] w q := by
  refine mkI (cc := cX2_y) (maxL := 2) (by decide) rfl (Nat.le_of_ble_eq_true rfl) ?_
  intro p e s m args below meth c Q S hW hQ ls hl
  obtain ⟨hx, hb, hml, hown, hts⟩ := id S
  have hW0 := hW
  have hS : va_S (wA E full) s.heap s.heap [] := va_S.rf
  have hl : lv_has ls 2 [(0, .ref (E.2.1 1)), (1, .int p1)] := hl
  have iX2 : ∀ w ∈ wsX20, w ∈ wsX2_y := by decide +kernel
  have e15 := hts (.fieldLink RX2 15 "CubeHeaps$Ground" "ys" "[I") (by decide +kernel)
  unfold fX2_y at h
  refine lv_aload_n hx hb dX2_y_0 rfl (lv_at hl 0 rfl) ?_
  refine rw_get hx hb hts iX2 hown hW (fl 1 rfl) rfl rfl 1 (by decide) e15 rfl (v := .ref (E.2.1 3)) rfl dX2_y_1 ?_
  refine lv_iload_n hx hb dX2_y_4 rfl (lv_at hl 1 rfl) ?_
  refine rw_iald hx hb hW (fun _ => (fl 3 rfl)) h dX2_y_5 (fun x1 h => ?_)
  exact rrI hQ hW hS h dX2_y_6
noncomputable def fX1_meeting (p0 : Int32) (w : Wd) : Option (Int32 × Wd) :=
  if p0 = (-9 : Int32) then some ((31 : Int32), w) else some (((1 : Int32) <<< (p0 &&& 31)), w)
abbrev rmX1_meeting : Room := { frames := 0, cells := 0, slots := 0, locals := 0 }
set_option maxHeartbeats 4000000 in
set_option maxRecDepth 100000 in
theorem kX1_meeting (l : Launch) (E : Ev) (p0 : Int32) (w : Wd) (q : Int32 × Wd) (h : fX1_meeting p0 w = some q) : CtI l yX1_meeting wsX1_meeting rmX1_meeting E full [.int p0] w q := by
  refine mkI (cc := cX1_meeting) (maxL := 1) (by decide) rfl (Nat.le_of_ble_eq_true rfl) ?_
  intro p e s m args below meth c Q S hW hQ ls hl
  obtain ⟨hx, hb, hml, hown, hts⟩ := id S
  have hW0 := hW
  have hS : va_S (wA E full) s.heap s.heap [] := va_S.rf
  have hl : lv_has ls 1 [(0, .int p0)] := hl
  unfold fX1_meeting at h
  refine lv_iload_n hx hb dX1_meeting_0 rfl (lv_at hl 0 rfl) ?_
  refine lv_bipush (v := (-9 : Int32)) hx hb dX1_meeting_1 (by decide) ?_
  refine rb_icmp_ne (tgt := 11) hx hb h dX1_meeting_3 (by decide) (fun h => ?_) (fun h => ?_)
  · refine lv_iconst (v := (1 : Int32)) hx hb dX1_meeting_11 (by decide) ?_
    refine lv_iload_n hx hb dX1_meeting_12 rfl (lv_at hl 0 rfl) ?_
    refine lv_ishl hx hb dX1_meeting_13 ?_
    exact rrI hQ hW hS h dX1_meeting_14
  · refine lv_bipush (v := (31 : Int32)) hx hb dX1_meeting_6 (by decide) ?_
    refine lv_goto (tgt := 14) hx hb dX1_meeting_8 (by decide) ?_
    exact rrI hQ hW hS h dX1_meeting_14
noncomputable def fX1_upTo (p0 : Int32) (w : Wd) : Option (Int32 × Wd) :=
  if p0 = (-9 : Int32) then some ((31 : Int32), w) else some ((((2 : Int32) <<< (p0 &&& 31)) - (1 : Int32)), w)
abbrev rmX1_upTo : Room := { frames := 0, cells := 0, slots := 0, locals := 0 }
set_option maxHeartbeats 4000000 in
set_option maxRecDepth 100000 in
theorem kX1_upTo (l : Launch) (E : Ev) (p0 : Int32) (w : Wd) (q : Int32 × Wd) (h : fX1_upTo p0 w = some q) : CtI l yX1_upTo wsX1_upTo rmX1_upTo E full [.int p0] w q := by
  refine mkI (cc := cX1_upTo) (maxL := 1) (by decide) rfl (Nat.le_of_ble_eq_true rfl) ?_
  intro p e s m args below meth c Q S hW hQ ls hl
  obtain ⟨hx, hb, hml, hown, hts⟩ := id S
  have hW0 := hW
  have hS : va_S (wA E full) s.heap s.heap [] := va_S.rf
  have hl : lv_has ls 1 [(0, .int p0)] := hl
  unfold fX1_upTo at h
  refine lv_iload_n hx hb dX1_upTo_0 rfl (lv_at hl 0 rfl) ?_
  refine lv_bipush (v := (-9 : Int32)) hx hb dX1_upTo_1 (by decide) ?_
  refine rb_icmp_ne (tgt := 11) hx hb h dX1_upTo_3 (by decide) (fun h => ?_) (fun h => ?_)
  · refine lv_iconst (v := (2 : Int32)) hx hb dX1_upTo_11 (by decide) ?_
    refine lv_iload_n hx hb dX1_upTo_12 rfl (lv_at hl 0 rfl) ?_
    refine lv_ishl hx hb dX1_upTo_13 ?_
    refine lv_iconst (v := (1 : Int32)) hx hb dX1_upTo_14 (by decide) ?_
    refine lv_isub hx hb dX1_upTo_15 ?_
    exact rrI hQ hW hS h dX1_upTo_16
  · refine lv_bipush (v := (31 : Int32)) hx hb dX1_upTo_6 (by decide) ?_
    refine lv_goto (tgt := 16) hx hb dX1_upTo_8 (by decide) ?_
    exact rrI hQ hW hS h dX1_upTo_16
noncomputable def fX5_top (p1 : Int32) (w : Wd) : Option (Int32 × Wd) :=
  (gI w 18 p1).bind fun x1 => some (x1, w)
abbrev rmX5_top : Room := { frames := 0, cells := 0, slots := 0, locals := 0 }
set_option maxHeartbeats 4000000 in
set_option maxRecDepth 100000 in
theorem kX5_top (l : Launch) (E : Ev) (p1 : Int32) (w : Wd) (q : Int32 × Wd) (h : fX5_top p1 w = some q) : CtI l yX5_top wsX5_top rmX5_top E full [.ref (E.2.1 14), .int p1] w q := by
  refine mkI (cc := cX5_top) (maxL := 2) (by decide) rfl (Nat.le_of_ble_eq_true rfl) ?_
  intro p e s m args below meth c Q S hW hQ ls hl
  obtain ⟨hx, hb, hml, hown, hts⟩ := id S
  have hW0 := hW
  have hS : va_S (wA E full) s.heap s.heap [] := va_S.rf
  have hl : lv_has ls 2 [(0, .ref (E.2.1 14)), (1, .int p1)] := hl
  have iX5 : ∀ w ∈ wsX50, w ∈ wsX5_top := by decide +kernel
  have e18 := hts (.fieldLink RX5 18 "CubeHeaps$Told" "tops" "[I") (by decide +kernel)
  unfold fX5_top at h
  refine lv_aload_n hx hb dX5_top_0 rfl (lv_at hl 0 rfl) ?_
  refine rw_get hx hb hts iX5 hown hW (fl 14 rfl) rfl rfl 3 (by decide) e18 rfl (v := .ref (E.2.1 18)) rfl dX5_top_1 ?_
  refine lv_iload_n hx hb dX5_top_4 rfl (lv_at hl 1 rfl) ?_
  refine rw_iald hx hb hW (fun _ => (fl 18 rfl)) h dX5_top_5 (fun x1 h => ?_)
  exact rrI hQ hW hS h dX5_top_6
noncomputable def fX1_underTop (p0 : Int32) (w : Wd) : Option (Int32 × Wd) :=
  if p0 = (-9 : Int32) then some ((31 : Int32), w) else if p0 = 0 then some ((1 : Int32), w) else some ((30 : Int32), w)
abbrev rmX1_underTop : Room := { frames := 0, cells := 0, slots := 0, locals := 0 }
set_option maxHeartbeats 4000000 in
set_option maxRecDepth 100000 in
theorem kX1_underTop (l : Launch) (E : Ev) (p0 : Int32) (w : Wd) (q : Int32 × Wd) (h : fX1_underTop p0 w = some q) : CtI l yX1_underTop wsX1_underTop rmX1_underTop E full [.int p0] w q := by
  refine mkI (cc := cX1_underTop) (maxL := 1) (by decide) rfl (Nat.le_of_ble_eq_true rfl) ?_
  intro p e s m args below meth c Q S hW hQ ls hl
  obtain ⟨hx, hb, hml, hown, hts⟩ := id S
  have hW0 := hW
  have hS : va_S (wA E full) s.heap s.heap [] := va_S.rf
  have hl : lv_has ls 1 [(0, .int p0)] := hl
  unfold fX1_underTop at h
  refine lv_iload_n hx hb dX1_underTop_0 rfl (lv_at hl 0 rfl) ?_
  refine lv_bipush (v := (-9 : Int32)) hx hb dX1_underTop_1 (by decide) ?_
  refine rb_icmp_ne (tgt := 9) hx hb h dX1_underTop_3 (by decide) (fun h => ?_) (fun h => ?_)
  · refine lv_iload_n hx hb dX1_underTop_9 rfl (lv_at hl 0 rfl) ?_
    refine rb_if_ne (tgt := 17) hx hb h dX1_underTop_10 (by decide) (fun h => ?_) (fun h => ?_)
    · refine lv_bipush (v := (30 : Int32)) hx hb dX1_underTop_17 (by decide) ?_
      exact rrI hQ hW hS h dX1_underTop_19
    · refine lv_iconst (v := (1 : Int32)) hx hb dX1_underTop_13 (by decide) ?_
      refine lv_goto (tgt := 19) hx hb dX1_underTop_14 (by decide) ?_
      exact rrI hQ hW hS h dX1_underTop_19
  · refine lv_bipush (v := (31 : Int32)) hx hb dX1_underTop_6 (by decide) ?_
    exact rrI hQ hW hS h dX1_underTop_8
noncomputable def bX1_readTold_2 (k2 : Int32 → Wd → Option (Unit × Wd)) (v1 : Int32)  (w : Wd) : Option (Unit × Wd) :=
  bnd (fX2_cells w) fun x1 w2 => if x1 ≤ v1 then some ((), w2) else bnd (fX2_x v1 w2) fun x3 w4 => bnd (fX5_line (1 : Int32) x3 w4) fun x5 w6 => bnd (fX2_y v1 w6) fun x7 w8 => bnd (fX5_line (0 : Int32) x7 w8) fun x9 w10 => bnd (fX1_meeting x5 w10) fun x11 w12 => (sI w12 21 v1 x11).bind fun w13 => bnd (fX1_meeting x9 w13) fun x14 w15 => (sI w15 22 v1 x14).bind fun w16 => bnd (fX1_upTo x5 w16) fun x17 w18 => bnd (fX1_upTo x9 w18) fun x19 w20 => bnd (fX5_top v1 w20) fun x21 w22 => bnd (fX1_underTop x21 w22) fun x23 w24 => (sI w24 20 v1 ((x17 &&& x19) &&& x23)).bind fun w25 => k2 (v1 + (1 : Int32)) w25
noncomputable def fX1_readTold  (w : Wd) : Option (Unit × Wd) :=
  lp (fun _ _ => none) (bX1_readTold_2) G (0 : Int32) w
abbrev rmX1_readTold : Room := { frames := 2, cells := 0, slots := 0, locals := 44 }
set_option maxHeartbeats 4000000 in
set_option maxRecDepth 100000 in
theorem kX1_readTold (l : Launch) (E : Ev)  (w : Wd) (q : Unit × Wd) (h : fX1_readTold w = some q) : CtV l yX1_readTold wsX1_readTold rmX1_readTold E full [.ref (E.2.1 19)] w q := by
  refine mkV (cc := cX1_readTold) (maxL := 4) (by decide) rfl (Nat.le_of_ble_eq_true rfl) ?_
  intro p e s m args below meth c Q S hW hQ ls hl
  obtain ⟨hx, hb, hml, hown, hts⟩ := id S
  have hW0 := hW
  have hS : va_S (wA E full) s.heap s.heap [] := va_S.rf
  have hl : lv_has ls 4 [(0, .ref (E.2.1 19))] := hl
  have iX1 : ∀ w ∈ wsX10, w ∈ wsX1_readTold := by decide +kernel
  have e9 := hts (.fieldLink RX1 9 "CubeHeaps$Fitting" "allowed" "[I") (by decide +kernel)
  have e15 := hts (.fieldLink RX1 15 "CubeHeaps$Fitting" "columnMeeting" "[I") (by decide +kernel)
  have e18 := hts (.fieldLink RX1 18 "CubeHeaps$Fitting" "rowMeeting" "[I") (by decide +kernel)
  have e39 := hts (.fieldLink RX1 39 "CubeHeaps$Fitting" "ground" "LCubeHeaps$Ground;") (by decide +kernel)
  have e43 := hts (.fieldLink RX1 43 "CubeHeaps$Fitting" "told" "LCubeHeaps$Told;") (by decide +kernel)
  have J2 : ∀ (n : Nat) (v1 : Int32) (w : Wd) (H : Heap) (locs : List Loc) (ls : Array Slot), lp (fun _ _ => none) (bX1_readTold_2) n v1 w = some q → World E full w s H → va_S (wA E full) s.heap H locs → lv_has ls 4 [(0, .ref (E.2.1 19)), (1, .int v1)] → W p l e rmX1_readTold s m args below meth c H locs 0 0 Q (F0 m 2 ls []) := by
    intro n
    induction n with
    | zero =>
      intro v1 w H locs ls h hW hS hl
      exact absurd (show (none : Option (Unit × Wd)) = some q from h) (fun z => by cases z)
    | succ n ih2 =>
      intro v1 w H locs ls h hW hS hl
      have h : bX1_readTold_2 (lp (fun _ _ => none) (bX1_readTold_2) n) v1 w = some q := h
      generalize lp (fun _ _ => none) (bX1_readTold_2) n = k2 at h ih2
      unfold bX1_readTold_2 at h
      refine lv_iload_n hx hb dX1_readTold_2 rfl (lv_at hl 1 rfl) ?_
      refine lv_aload_n hx hb dX1_readTold_3 rfl (lv_at hl 0 rfl) ?_
      refine rw_get hx hb hts iX1 hown hW (fl 19 rfl) rfl rfl 0 (by decide) e39 rfl (v := .ref (E.2.1 1)) rfl dX1_readTold_4 ?_
      refine rc_Vi (k := 1) (As := []) (rest := [.int v1]) S hW hS h (kX2_cells l E  w) (cwV 0 hts gX1_readTold_X2_cells rfl rfl rfl hdX2_cells ⟨Nat.le_of_ble_eq_true rfl, Nat.le_of_ble_eq_true rfl⟩) (fl 1 rfl) rfl rfl rfl rfl hl.1 rfl (Nat.le_of_ble_eq_true rfl) ⟨Nat.zero_le _, Nat.zero_le _⟩ dX1_readTold_7 (fun x1 w2 H locs h hW hS => ?_)
      refine rb_icmp_ge (tgt := 100) hx hb h dX1_readTold_10 (by decide) (fun h => ?_) (fun h => ?_)
      · exact rrV hQ hW hS h dX1_readTold_100
      · refine lv_aload_n hx hb dX1_readTold_13 rfl (lv_at hl 0 rfl) ?_
        refine rw_get hx hb hts iX1 hown hW (fl 19 rfl) rfl rfl 1 (by decide) e43 rfl (v := .ref (E.2.1 14)) rfl dX1_readTold_14 ?_
        refine lv_iconst (v := (1 : Int32)) hx hb dX1_readTold_17 (by decide) ?_
        refine lv_aload_n hx hb dX1_readTold_18 rfl (lv_at hl 0 rfl) ?_
        refine rw_get hx hb hts iX1 hown hW (fl 19 rfl) rfl rfl 0 (by decide) e39 rfl (v := .ref (E.2.1 1)) rfl dX1_readTold_19 ?_
        refine lv_iload_n hx hb dX1_readTold_22 rfl (lv_at hl 1 rfl) ?_
        refine rc_Vi (k := 1) (As := [.int v1]) (rest := [.int (1 : Int32), .ref (E.2.1 14)]) S hW hS h (kX2_x l E v1 w2) (cwV 1 hts gX1_readTold_X2_x rfl rfl rfl hdX2_x ⟨Nat.le_of_ble_eq_true rfl, Nat.le_of_ble_eq_true rfl⟩) (fl 1 rfl) rfl rfl rfl rfl hl.1 rfl (Nat.le_of_ble_eq_true rfl) ⟨Nat.zero_le _, Nat.zero_le _⟩ dX1_readTold_23 (fun x3 w4 H locs h hW hS => ?_)
        refine rc_Vi (k := 14) (As := [.int (1 : Int32), .int x3]) (rest := []) S hW hS h (kX5_line l E (1 : Int32) x3 w4) (cwV 2 hts gX1_readTold_X5_line rfl rfl rfl hdX5_line ⟨Nat.le_of_ble_eq_true rfl, Nat.le_of_ble_eq_true rfl⟩) (fl 14 rfl) rfl rfl rfl rfl hl.1 rfl (Nat.le_of_ble_eq_true rfl) ⟨Nat.zero_le _, Nat.zero_le _⟩ dX1_readTold_26 (fun x5 w6 H locs h hW hS => ?_)
        refine lv_istore_n (lv' := [(2, .int x5), (0, .ref (E.2.1 19)), (1, .int v1)]) hx hb dX1_readTold_29 rfl hl (by decide) rfl (fun ls hl => ?_)
        refine lv_aload_n hx hb dX1_readTold_30 rfl (lv_at hl 1 rfl) ?_
        refine rw_get hx hb hts iX1 hown hW (fl 19 rfl) rfl rfl 1 (by decide) e43 rfl (v := .ref (E.2.1 14)) rfl dX1_readTold_31 ?_
        refine lv_iconst (v := (0 : Int32)) hx hb dX1_readTold_34 (by decide) ?_
        refine lv_aload_n hx hb dX1_readTold_35 rfl (lv_at hl 1 rfl) ?_
        refine rw_get hx hb hts iX1 hown hW (fl 19 rfl) rfl rfl 0 (by decide) e39 rfl (v := .ref (E.2.1 1)) rfl dX1_readTold_36 ?_
        refine lv_iload_n hx hb dX1_readTold_39 rfl (lv_at hl 2 rfl) ?_
        refine rc_Vi (k := 1) (As := [.int v1]) (rest := [.int (0 : Int32), .ref (E.2.1 14)]) S hW hS h (kX2_y l E v1 w6) (cwV 1 hts gX1_readTold_X2_y rfl rfl rfl hdX2_y ⟨Nat.le_of_ble_eq_true rfl, Nat.le_of_ble_eq_true rfl⟩) (fl 1 rfl) rfl rfl rfl rfl hl.1 rfl (Nat.le_of_ble_eq_true rfl) ⟨Nat.zero_le _, Nat.zero_le _⟩ dX1_readTold_40 (fun x7 w8 H locs h hW hS => ?_)
        refine rc_Vi (k := 14) (As := [.int (0 : Int32), .int x7]) (rest := []) S hW hS h (kX5_line l E (0 : Int32) x7 w8) (cwV 2 hts gX1_readTold_X5_line rfl rfl rfl hdX5_line ⟨Nat.le_of_ble_eq_true rfl, Nat.le_of_ble_eq_true rfl⟩) (fl 14 rfl) rfl rfl rfl rfl hl.1 rfl (Nat.le_of_ble_eq_true rfl) ⟨Nat.zero_le _, Nat.zero_le _⟩ dX1_readTold_43 (fun x9 w10 H locs h hW hS => ?_)
        refine lv_istore_n (lv' := [(3, .int x9), (2, .int x5), (0, .ref (E.2.1 19)), (1, .int v1)]) hx hb dX1_readTold_46 rfl hl (by decide) rfl (fun ls hl => ?_)
        refine lv_aload_n hx hb dX1_readTold_47 rfl (lv_at hl 2 rfl) ?_
        refine rw_get hx hb hts iX1 hown hW (fl 19 rfl) rfl rfl 3 (by decide) e15 rfl (v := .ref (E.2.1 21)) rfl dX1_readTold_48 ?_
        refine lv_iload_n hx hb dX1_readTold_51 rfl (lv_at hl 3 rfl) ?_
        refine lv_iload_n hx hb dX1_readTold_52 rfl (lv_at hl 1 rfl) ?_
        refine rc_Si (As := [.int x5]) (rest := [.int v1, .ref (E.2.1 21)]) S hW hS h (kX1_meeting l E x5 w10) (va_cwS 1 hts gX1_readTold_X1_meeting rfl rfl rfl hdX1_meeting ⟨Nat.le_of_ble_eq_true rfl, Nat.le_of_ble_eq_true rfl⟩) rfl hl.1 rfl (Nat.le_of_ble_eq_true rfl) ⟨Nat.zero_le _, Nat.zero_le _⟩ dX1_readTold_53 (fun x11 w12 H locs h hW hS => ?_)
        refine rw_iast hx hb hW hS (fun _ => (fl 21 rfl)) h dX1_readTold_56 (fun w13 H locs h hW hS => ?_)
        refine lv_aload_n hx hb dX1_readTold_57 rfl (lv_at hl 2 rfl) ?_
        refine rw_get hx hb hts iX1 hown hW (fl 19 rfl) rfl rfl 4 (by decide) e18 rfl (v := .ref (E.2.1 22)) rfl dX1_readTold_58 ?_
        refine lv_iload_n hx hb dX1_readTold_61 rfl (lv_at hl 3 rfl) ?_
        refine lv_iload_n hx hb dX1_readTold_62 rfl (lv_at hl 0 rfl) ?_
        refine rc_Si (As := [.int x9]) (rest := [.int v1, .ref (E.2.1 22)]) S hW hS h (kX1_meeting l E x9 w13) (va_cwS 1 hts gX1_readTold_X1_meeting rfl rfl rfl hdX1_meeting ⟨Nat.le_of_ble_eq_true rfl, Nat.le_of_ble_eq_true rfl⟩) rfl hl.1 rfl (Nat.le_of_ble_eq_true rfl) ⟨Nat.zero_le _, Nat.zero_le _⟩ dX1_readTold_63 (fun x14 w15 H locs h hW hS => ?_)
        refine rw_iast hx hb hW hS (fun _ => (fl 22 rfl)) h dX1_readTold_66 (fun w16 H locs h hW hS => ?_)
        refine lv_aload_n hx hb dX1_readTold_67 rfl (lv_at hl 2 rfl) ?_
        refine rw_get hx hb hts iX1 hown hW (fl 19 rfl) rfl rfl 2 (by decide) e9 rfl (v := .ref (E.2.1 20)) rfl dX1_readTold_68 ?_
        refine lv_iload_n hx hb dX1_readTold_71 rfl (lv_at hl 3 rfl) ?_
        refine lv_iload_n hx hb dX1_readTold_72 rfl (lv_at hl 1 rfl) ?_
        refine rc_Si (As := [.int x5]) (rest := [.int v1, .ref (E.2.1 20)]) S hW hS h (kX1_upTo l E x5 w16) (va_cwS 1 hts gX1_readTold_X1_upTo rfl rfl rfl hdX1_upTo ⟨Nat.le_of_ble_eq_true rfl, Nat.le_of_ble_eq_true rfl⟩) rfl hl.1 rfl (Nat.le_of_ble_eq_true rfl) ⟨Nat.zero_le _, Nat.zero_le _⟩ dX1_readTold_73 (fun x17 w18 H locs h hW hS => ?_)
        refine lv_iload_n hx hb dX1_readTold_76 rfl (lv_at hl 0 rfl) ?_
        refine rc_Si (As := [.int x9]) (rest := [.int x17, .int v1, .ref (E.2.1 20)]) S hW hS h (kX1_upTo l E x9 w18) (va_cwS 1 hts gX1_readTold_X1_upTo rfl rfl rfl hdX1_upTo ⟨Nat.le_of_ble_eq_true rfl, Nat.le_of_ble_eq_true rfl⟩) rfl hl.1 rfl (Nat.le_of_ble_eq_true rfl) ⟨Nat.zero_le _, Nat.zero_le _⟩ dX1_readTold_77 (fun x19 w20 H locs h hW hS => ?_)
        refine lv_iand hx hb dX1_readTold_80 ?_
        refine lv_aload_n hx hb dX1_readTold_81 rfl (lv_at hl 2 rfl) ?_
        refine rw_get hx hb hts iX1 hown hW (fl 19 rfl) rfl rfl 1 (by decide) e43 rfl (v := .ref (E.2.1 14)) rfl dX1_readTold_82 ?_
        refine lv_iload_n hx hb dX1_readTold_85 rfl (lv_at hl 3 rfl) ?_
        refine rc_Vi (k := 14) (As := [.int v1]) (rest := [.int (x17 &&& x19), .int v1, .ref (E.2.1 20)]) S hW hS h (kX5_top l E v1 w20) (cwV 1 hts gX1_readTold_X5_top rfl rfl rfl hdX5_top ⟨Nat.le_of_ble_eq_true rfl, Nat.le_of_ble_eq_true rfl⟩) (fl 14 rfl) rfl rfl rfl rfl hl.1 rfl (Nat.le_of_ble_eq_true rfl) ⟨Nat.zero_le _, Nat.zero_le _⟩ dX1_readTold_86 (fun x21 w22 H locs h hW hS => ?_)
        refine rc_Si (As := [.int x21]) (rest := [.int (x17 &&& x19), .int v1, .ref (E.2.1 20)]) S hW hS h (kX1_underTop l E x21 w22) (va_cwS 1 hts gX1_readTold_X1_underTop rfl rfl rfl hdX1_underTop ⟨Nat.le_of_ble_eq_true rfl, Nat.le_of_ble_eq_true rfl⟩) rfl hl.1 rfl (Nat.le_of_ble_eq_true rfl) ⟨Nat.zero_le _, Nat.zero_le _⟩ dX1_readTold_89 (fun x23 w24 H locs h hW hS => ?_)
        refine lv_iand hx hb dX1_readTold_92 ?_
        refine rw_iast hx hb hW hS (fun _ => (fl 20 rfl)) h dX1_readTold_93 (fun w25 H locs h hW hS => ?_)
        refine lv_iinc (v := (v1 + (1 : Int32))) (lv' := [(1, .int (v1 + (1 : Int32))), (3, .int x9), (2, .int x5), (0, .ref (E.2.1 19))]) hx hb dX1_readTold_94 hl (k := 3) rfl rfl (by decide) rfl (fun ls hl => ?_)
        refine lv_goto (tgt := 2) hx hb dX1_readTold_97 (by decide) ?_
        exact ih2 _ _ _ _ _ h hW hS (lv_sub hl [3, 0] rfl)
  unfold fX1_readTold at h
  refine lv_iconst (v := (0 : Int32)) hx hb dX1_readTold_0 (by decide) ?_
  refine lv_istore_n (lv' := [(1, .int (0 : Int32)), (0, .ref (E.2.1 19))]) hx hb dX1_readTold_1 rfl hl (by decide) rfl (fun ls hl => ?_)
  exact J2 _ _ _ _ _ _ h hW hS (lv_sub hl [1, 0] rfl)
noncomputable def bJ7_fill_d0a16_6 (p0 : Nat) (p1 : Int64) (k6 : Int32 → Int32 → Wd → Option (Unit × Wd)) (v3 : Int32) (v4 : Int32)  (w : Wd) : Option (Unit × Wd) :=
  if v4 ≤ v3 then some ((), w) else (sL w p0 v3 p1).bind fun w1 => k6 (v3 + (1 : Int32)) v4 w1
noncomputable def fJ7_fill_d0a16 (p0 : Nat) (p1 : Int64) (w : Wd) : Option (Unit × Wd) :=
  if 0 < LL p0 then lp (fun _ _ _ => none) (bJ7_fill_d0a16_6 p0 p1) G (0 : Int32) (nI (LL p0)) w else none
abbrev rmJ7_fill_d0a16 : Room := { frames := 0, cells := 0, slots := 0, locals := 0 }
set_option maxHeartbeats 4000000 in
set_option maxRecDepth 100000 in
theorem kJ7_fill_d0a16 (l : Launch) (E : Ev) (p0 : Nat) (p1 : Int64) (w : Wd) (q : Unit × Wd) (h : fJ7_fill_d0a16 p0 p1 w = some q) : CtV l yJ7_fill_d0a16 wsJ7_fill_d0a16 rmJ7_fill_d0a16 E full [.ref (E.2.1 p0), .long p1] w q := by
  refine mkV (cc := cJ7_fill_d0a16) (maxL := 5) (by decide) rfl (Nat.le_of_ble_eq_true rfl) ?_
  intro p e s m args below meth c Q S hW hQ ls hl
  obtain ⟨hx, hb, hml, hown, hts⟩ := id S
  have hW0 := hW
  have hS : va_S (wA E full) s.heap s.heap [] := va_S.rf
  have hl : lv_has ls 5 [(0, .ref (E.2.1 p0)), (1, .long p1)] := hl
  have J6 : ∀ (n : Nat) (v3 : Int32) (v4 : Int32) (w : Wd) (H : Heap) (locs : List Loc) (ls : Array Slot), lp (fun _ _ _ => none) (bJ7_fill_d0a16_6 p0 p1) n v3 v4 w = some q → World E full w s H → va_S (wA E full) s.heap H locs → lv_has ls 5 [(0, .ref (E.2.1 p0)), (1, .long p1), (3, .int v3), (4, .int v4)] → W p l e rmJ7_fill_d0a16 s m args below meth c H locs 0 0 Q (F0 m 6 ls []) := by
    intro n
    induction n with
    | zero =>
      intro v3 v4 w H locs ls h hW hS hl
      exact absurd (show (none : Option (Unit × Wd)) = some q from h) (fun z => by cases z)
    | succ n ih6 =>
      intro v3 v4 w H locs ls h hW hS hl
      have h : bJ7_fill_d0a16_6 p0 p1 (lp (fun _ _ _ => none) (bJ7_fill_d0a16_6 p0 p1) n) v3 v4 w = some q := h
      generalize lp (fun _ _ _ => none) (bJ7_fill_d0a16_6 p0 p1) n = k6 at h ih6
      unfold bJ7_fill_d0a16_6 at h
      refine lv_iload_n hx hb dJ7_fill_d0a16_6 rfl (lv_at hl 2 rfl) ?_
      refine lv_iload hx hb dJ7_fill_d0a16_7 (lv_at hl 3 rfl) ?_
      refine rb_icmp_ge (tgt := 22) hx hb h dJ7_fill_d0a16_9 (by decide) (fun h => ?_) (fun h => ?_)
      · exact rrV hQ hW hS h dJ7_fill_d0a16_22
      · refine lv_aload_n hx hb dJ7_fill_d0a16_12 rfl (lv_at hl 0 rfl) ?_
        refine lv_iload_n hx hb dJ7_fill_d0a16_13 rfl (lv_at hl 2 rfl) ?_
        refine lv_lload_n hx hb dJ7_fill_d0a16_14 rfl (lv_at hl 1 rfl) ?_
        refine rw_last hx hb hW hS LL_full h dJ7_fill_d0a16_15 (fun w1 H locs h hW hS => ?_)
        refine lv_iinc (v := (v3 + (1 : Int32))) (lv' := [(3, .int (v3 + (1 : Int32))), (0, .ref (E.2.1 p0)), (1, .long p1), (4, .int v4)]) hx hb dJ7_fill_d0a16_16 hl (k := 2) rfl rfl (by decide) rfl (fun ls hl => ?_)
        refine lv_goto (tgt := 6) hx hb dJ7_fill_d0a16_19 (by decide) ?_
        exact ih6 _ _ _ _ _ _ h hW hS (lv_sub hl [1, 2, 0, 3] rfl)
  unfold fJ7_fill_d0a16 at h
  refine lv_iconst (v := (0 : Int32)) hx hb dJ7_fill_d0a16_0 (by decide) ?_
  refine lv_istore_n (lv' := [(3, .int (0 : Int32)), (0, .ref (E.2.1 p0)), (1, .long p1)]) hx hb dJ7_fill_d0a16_1 rfl hl (by decide) rfl (fun ls hl => ?_)
  refine lv_aload_n hx hb dJ7_fill_d0a16_2 rfl (lv_at hl 1 rfl) ?_
  refine rw_alenL hx hb hW LL_full h dJ7_fill_d0a16_3 (fun h => ?_)
  refine lv_istore (lv' := [(4, .int (nI (LL p0))), (3, .int (0 : Int32)), (0, .ref (E.2.1 p0)), (1, .long p1)]) hx hb dJ7_fill_d0a16_4 hl (by decide) rfl (fun ls hl => ?_)
  exact J6 _ _ _ _ _ _ _ h hW hS (lv_sub hl [2, 3, 1, 0] rfl)
noncomputable def jX1_heightsOf_53 (p1 : Int32) (p2 : Int32) (s0 : Int32) (s1 : Int32)  (w : Wd) : Option (Int32 × Wd) :=
  some ((s1 &&& s0), w)
noncomputable def jX1_heightsOf_29 (p1 : Int32) (p2 : Int32) (s0 : Int32) (s1 : Int32)  (w : Wd) : Option (Int32 × Wd) :=
  if (p2 &&& (2 : Int32)) = 0 then (gI w 22 p1).bind fun x4 => jX1_heightsOf_53 p1 p2 (x4 ^^^ (-1 : Int32)) (s1 &&& s0) w else (gI w 22 p1).bind fun x5 => jX1_heightsOf_53 p1 p2 x5 (s1 &&& s0) w
noncomputable def fX1_heightsOf (p1 : Int32) (p2 : Int32) (w : Wd) : Option (Int32 × Wd) :=
  (gI w 20 p1).bind fun x1 => if (p2 &&& (1 : Int32)) = 0 then (gI w 21 p1).bind fun x2 => jX1_heightsOf_29 p1 p2 (x2 ^^^ (-1 : Int32)) x1 w else (gI w 21 p1).bind fun x3 => jX1_heightsOf_29 p1 p2 x3 x1 w
abbrev rmX1_heightsOf : Room := { frames := 0, cells := 0, slots := 0, locals := 0 }
set_option maxHeartbeats 4000000 in
set_option maxRecDepth 100000 in
theorem kX1_heightsOf (l : Launch) (E : Ev) (p1 : Int32) (p2 : Int32) (w : Wd) (q : Int32 × Wd) (h : fX1_heightsOf p1 p2 w = some q) : CtI l yX1_heightsOf wsX1_heightsOf rmX1_heightsOf E full [.ref (E.2.1 19), .int p1, .int p2] w q := by
  refine mkI (cc := cX1_heightsOf) (maxL := 3) (by decide) rfl (Nat.le_of_ble_eq_true rfl) ?_
  intro p e s m args below meth c Q S hW hQ ls hl
  obtain ⟨hx, hb, hml, hown, hts⟩ := id S
  have hW0 := hW
  have hS : va_S (wA E full) s.heap s.heap [] := va_S.rf
  have hl : lv_has ls 3 [(0, .ref (E.2.1 19)), (1, .int p1), (2, .int p2)] := hl
  have iX1 : ∀ w ∈ wsX10, w ∈ wsX1_heightsOf := by decide +kernel
  have e9 := hts (.fieldLink RX1 9 "CubeHeaps$Fitting" "allowed" "[I") (by decide +kernel)
  have e15 := hts (.fieldLink RX1 15 "CubeHeaps$Fitting" "columnMeeting" "[I") (by decide +kernel)
  have e18 := hts (.fieldLink RX1 18 "CubeHeaps$Fitting" "rowMeeting" "[I") (by decide +kernel)
  have J53 : ∀ (s0 : Int32) (s1 : Int32) (w : Wd) (H : Heap) (locs : List Loc) (ls : Array Slot), jX1_heightsOf_53 p1 p2 s0 s1 w = some q → World E full w s H → va_S (wA E full) s.heap H locs → lv_has ls 3 [] → W p l e rmX1_heightsOf s m args below meth c H locs 0 0 Q (F0 m 53 ls [.int s0, .int s1]) := by
    intro s0 s1 w H locs ls h hW hS hl
    unfold jX1_heightsOf_53 at h
    refine lv_iand hx hb dX1_heightsOf_53 ?_
    exact rrI hQ hW hS h dX1_heightsOf_54
  have J29 : ∀ (s0 : Int32) (s1 : Int32) (w : Wd) (H : Heap) (locs : List Loc) (ls : Array Slot), jX1_heightsOf_29 p1 p2 s0 s1 w = some q → World E full w s H → va_S (wA E full) s.heap H locs → lv_has ls 3 [(0, .ref (E.2.1 19)), (1, .int p1), (2, .int p2)] → W p l e rmX1_heightsOf s m args below meth c H locs 0 0 Q (F0 m 29 ls [.int s0, .int s1]) := by
    intro s0 s1 w H locs ls h hW hS hl
    unfold jX1_heightsOf_29 at h
    refine lv_iand hx hb dX1_heightsOf_29 ?_
    refine lv_iload_n hx hb dX1_heightsOf_30 rfl (lv_at hl 2 rfl) ?_
    refine lv_iconst (v := (2 : Int32)) hx hb dX1_heightsOf_31 (by decide) ?_
    refine lv_iand hx hb dX1_heightsOf_32 ?_
    refine rb_if_eq (tgt := 45) hx hb h dX1_heightsOf_33 (by decide) (fun h => ?_) (fun h => ?_)
    · refine lv_aload_n hx hb dX1_heightsOf_45 rfl (lv_at hl 0 rfl) ?_
      refine rw_get hx hb hts iX1 hown hW (fl 19 rfl) rfl rfl 4 (by decide) e18 rfl (v := .ref (E.2.1 22)) rfl dX1_heightsOf_46 ?_
      refine lv_iload_n hx hb dX1_heightsOf_49 rfl (lv_at hl 1 rfl) ?_
      refine rw_iald hx hb hW (fun _ => (fl 22 rfl)) h dX1_heightsOf_50 (fun x4 h => ?_)
      refine lv_iconst (v := (-1 : Int32)) hx hb dX1_heightsOf_51 (by decide) ?_
      refine lv_ixor hx hb dX1_heightsOf_52 ?_
      exact J53 _ _ _ _ _ _ h hW hS (lv_sub hl [] rfl)
    · refine lv_aload_n hx hb dX1_heightsOf_36 rfl (lv_at hl 0 rfl) ?_
      refine rw_get hx hb hts iX1 hown hW (fl 19 rfl) rfl rfl 4 (by decide) e18 rfl (v := .ref (E.2.1 22)) rfl dX1_heightsOf_37 ?_
      refine lv_iload_n hx hb dX1_heightsOf_40 rfl (lv_at hl 1 rfl) ?_
      refine rw_iald hx hb hW (fun _ => (fl 22 rfl)) h dX1_heightsOf_41 (fun x5 h => ?_)
      refine lv_goto (tgt := 53) hx hb dX1_heightsOf_42 (by decide) ?_
      exact J53 _ _ _ _ _ _ h hW hS (lv_sub hl [] rfl)
  unfold fX1_heightsOf at h
  refine lv_aload_n hx hb dX1_heightsOf_0 rfl (lv_at hl 0 rfl) ?_
  refine rw_get hx hb hts iX1 hown hW (fl 19 rfl) rfl rfl 2 (by decide) e9 rfl (v := .ref (E.2.1 20)) rfl dX1_heightsOf_1 ?_
  refine lv_iload_n hx hb dX1_heightsOf_4 rfl (lv_at hl 1 rfl) ?_
  refine rw_iald hx hb hW (fun _ => (fl 20 rfl)) h dX1_heightsOf_5 (fun x1 h => ?_)
  refine lv_iload_n hx hb dX1_heightsOf_6 rfl (lv_at hl 2 rfl) ?_
  refine lv_iconst (v := (1 : Int32)) hx hb dX1_heightsOf_7 (by decide) ?_
  refine lv_iand hx hb dX1_heightsOf_8 ?_
  refine rb_if_eq (tgt := 21) hx hb h dX1_heightsOf_9 (by decide) (fun h => ?_) (fun h => ?_)
  · refine lv_aload_n hx hb dX1_heightsOf_21 rfl (lv_at hl 0 rfl) ?_
    refine rw_get hx hb hts iX1 hown hW (fl 19 rfl) rfl rfl 3 (by decide) e15 rfl (v := .ref (E.2.1 21)) rfl dX1_heightsOf_22 ?_
    refine lv_iload_n hx hb dX1_heightsOf_25 rfl (lv_at hl 1 rfl) ?_
    refine rw_iald hx hb hW (fun _ => (fl 21 rfl)) h dX1_heightsOf_26 (fun x2 h => ?_)
    refine lv_iconst (v := (-1 : Int32)) hx hb dX1_heightsOf_27 (by decide) ?_
    refine lv_ixor hx hb dX1_heightsOf_28 ?_
    exact J29 _ _ _ _ _ _ h hW hS (hl)
  · refine lv_aload_n hx hb dX1_heightsOf_12 rfl (lv_at hl 0 rfl) ?_
    refine rw_get hx hb hts iX1 hown hW (fl 19 rfl) rfl rfl 3 (by decide) e15 rfl (v := .ref (E.2.1 21)) rfl dX1_heightsOf_13 ?_
    refine lv_iload_n hx hb dX1_heightsOf_16 rfl (lv_at hl 1 rfl) ?_
    refine rw_iald hx hb hW (fun _ => (fl 21 rfl)) h dX1_heightsOf_17 (fun x3 h => ?_)
    refine lv_goto (tgt := 29) hx hb dX1_heightsOf_18 (by decide) ?_
    exact J29 _ _ _ _ _ _ h hW hS (hl)
