abbrev rmX3_initT : Room := { frames := 1, cells := 2, slots := 10, locals := 12 }
set_option maxHeartbeats 4000000 in
set_option maxRecDepth 100000 in
theorem kX3_initT (l : Launch) (E : Ev) (hE : ∀ k, E.2.1 k = E.2.1 0 + k) : CtN l yX3_init wsX3_init rmX3_initT E 15 18 3 [.null, .null] [.ref (E.2.1 15)] w0 2 10 := by
  refine mkN (cc := cX3_init) (maxL := 1) (by decide) rfl (Nat.le_of_ble_eq_true rfl) rfl ?_
  intro p e s m args below meth c Q S hin hPN hP hQ ls hl
  obtain ⟨hx, hb, hml, hown, hts⟩ := id S
  have hP0 := hP
  have hS : va_S (up0 E 15) s.heap s.heap [] := va_S.rf
  have hl : lv_has ls 1 [(0, .ref (E.2.1 15))] := hl
  have iX3 : ∀ w ∈ wsX30, w ∈ wsX3_init := by decide +kernel
  have e9 := hts (.fieldLink RX3 9 "CubeHeaps$Lines" "columns" "[I") (by decide +kernel)
  have e15 := hts (.fieldLink RX3 15 "CubeHeaps$Lines" "rows" "[I") (by decide +kernel)
  refine lv_aload_n hx hb dX3_init_0 rfl (lv_at hl 0 rfl) ?_
  refine W.objInit hx hb hown (hts (.methodLink RX3 3 objectInit) (by decide +kernel)) (hts (.instanceMethod objectInit) (by decide +kernel)) (hts (.code objectInit ⟨#[0xb1]⟩ 1 none) (by decide +kernel)) rfl (by rw [hml]; exact hl.1) rfl dX3_init_1 (Nat.le_of_ble_eq_true rfl) (Nat.le_of_ble_eq_true rfl) ?_
  refine W.eq (g2 := F0 m 4 ls []) rfl ?_
  refine lv_aload_n hx hb dX3_init_4 rfl (lv_at hl 0 rfl) ?_
  refine lv_iconst (v := (5 : Int32)) hx hb dX3_init_5 (by decide) ?_
  refine pn_newI (N := 5) (N' := 5) hx hb hE (by decide) (hts (.arrayClass .int) (by decide +kernel)) hP hS rfl (by decide) (by decide) (by decide) (Nat.le_of_ble_eq_true rfl) (Nat.le_of_ble_eq_true rfl) dX3_init_6 (fun H hP hS => ?_)
  refine pn_put hx hb hE hts iX3 tyX3_ok nmX3 hown hP hS rfl 0 (by decide) e9 hin rfl rfl rfl (Nat.le_of_ble_eq_true rfl) (fs' := [.ref (E.2.1 16), .null]) rfl dX3_init_8 (fun H locs hP hS => ?_)
  refine lv_aload_n hx hb dX3_init_11 rfl (lv_at hl 0 rfl) ?_
  refine lv_iconst (v := (5 : Int32)) hx hb dX3_init_12 (by decide) ?_
  refine pn_newI (N := 5) (N' := 5) hx hb hE (by decide) (hts (.arrayClass .int) (by decide +kernel)) hP hS rfl (by decide) (by decide) (by decide) (Nat.le_of_ble_eq_true rfl) (Nat.le_of_ble_eq_true rfl) dX3_init_13 (fun H hP hS => ?_)
  refine pn_put hx hb hE hts iX3 tyX3_ok nmX3 hown hP hS rfl 1 (by decide) e15 hin rfl rfl rfl (Nat.le_of_ble_eq_true rfl) (fs' := [.ref (E.2.1 16), .ref (E.2.1 17)]) rfl dX3_init_15 (fun H locs hP hS => ?_)
  have hR := hP.done rfl
  exact hQ _ _ _ _ hR hS dX3_init_18
abbrev rmX3_initS : Room := { frames := 1, cells := 2, slots := 10, locals := 12 }
set_option maxHeartbeats 4000000 in
set_option maxRecDepth 100000 in
theorem kX3_initS (l : Launch) (E : Ev) (hE : ∀ k, E.2.1 k = E.2.1 0 + k) : CtN l yX3_init wsX3_init rmX3_initS E 80 83 3 [.null, .null] [.ref (E.2.1 80)] w0 2 10 := by
  refine mkN (cc := cX3_init) (maxL := 1) (by decide) rfl (Nat.le_of_ble_eq_true rfl) rfl ?_
  intro p e s m args below meth c Q S hin hPN hP hQ ls hl
  obtain ⟨hx, hb, hml, hown, hts⟩ := id S
  have hP0 := hP
  have hS : va_S (up0 E 80) s.heap s.heap [] := va_S.rf
  have hl : lv_has ls 1 [(0, .ref (E.2.1 80))] := hl
  have iX3 : ∀ w ∈ wsX30, w ∈ wsX3_init := by decide +kernel
  have e9 := hts (.fieldLink RX3 9 "CubeHeaps$Lines" "columns" "[I") (by decide +kernel)
  have e15 := hts (.fieldLink RX3 15 "CubeHeaps$Lines" "rows" "[I") (by decide +kernel)
  refine lv_aload_n hx hb dX3_init_0 rfl (lv_at hl 0 rfl) ?_
  refine W.objInit hx hb hown (hts (.methodLink RX3 3 objectInit) (by decide +kernel)) (hts (.instanceMethod objectInit) (by decide +kernel)) (hts (.code objectInit ⟨#[0xb1]⟩ 1 none) (by decide +kernel)) rfl (by rw [hml]; exact hl.1) rfl dX3_init_1 (Nat.le_of_ble_eq_true rfl) (Nat.le_of_ble_eq_true rfl) ?_
  refine W.eq (g2 := F0 m 4 ls []) rfl ?_
  refine lv_aload_n hx hb dX3_init_4 rfl (lv_at hl 0 rfl) ?_
  refine lv_iconst (v := (5 : Int32)) hx hb dX3_init_5 (by decide) ?_
  refine pn_newI (N := 5) (N' := 5) hx hb hE (by decide) (hts (.arrayClass .int) (by decide +kernel)) hP hS rfl (by decide) (by decide) (by decide) (Nat.le_of_ble_eq_true rfl) (Nat.le_of_ble_eq_true rfl) dX3_init_6 (fun H hP hS => ?_)
  refine pn_put hx hb hE hts iX3 tyX3_ok nmX3 hown hP hS rfl 0 (by decide) e9 hin rfl rfl rfl (Nat.le_of_ble_eq_true rfl) (fs' := [.ref (E.2.1 81), .null]) rfl dX3_init_8 (fun H locs hP hS => ?_)
  refine lv_aload_n hx hb dX3_init_11 rfl (lv_at hl 0 rfl) ?_
  refine lv_iconst (v := (5 : Int32)) hx hb dX3_init_12 (by decide) ?_
  refine pn_newI (N := 5) (N' := 5) hx hb hE (by decide) (hts (.arrayClass .int) (by decide +kernel)) hP hS rfl (by decide) (by decide) (by decide) (Nat.le_of_ble_eq_true rfl) (Nat.le_of_ble_eq_true rfl) dX3_init_13 (fun H hP hS => ?_)
  refine pn_put hx hb hE hts iX3 tyX3_ok nmX3 hown hP hS rfl 1 (by decide) e15 hin rfl rfl rfl (Nat.le_of_ble_eq_true rfl) (fs' := [.ref (E.2.1 81), .ref (E.2.1 82)]) rfl dX3_init_15 (fun H locs hP hS => ?_)
  have hR := hP.done rfl
  exact hQ _ _ _ _ hR hS dX3_init_18
abbrev rmX2_init : Room := { frames := 4, cells := 3, slots := 150, locals := 92 }
set_option maxHeartbeats 4000000 in
set_option maxRecDepth 100000 in
theorem kX2_init (l : Launch) (E : Ev) (hE : ∀ k, E.2.1 k = E.2.1 0 + k) (p1 : Int32) (p2 : Int32) (q : Unit × Wd) (h : fX2_become p1 p2 w0 = some q) : CtN l yX2_init wsX2_init rmX2_init E 1 5 2 [.null, .null, .null, .int 0, .int 0] [.ref (E.2.1 1), .int p1, .int p2] q.2 3 150 := by
  refine mkN (cc := cX2_init) (maxL := 3) (by decide) rfl (Nat.le_of_ble_eq_true rfl) rfl ?_
  intro p e s m args below meth c Q S hin hPN hP hQ ls hl
  obtain ⟨hx, hb, hml, hown, hts⟩ := id S
  have hP0 := hP
  have hS : va_S (up0 E 1) s.heap s.heap [] := va_S.rf
  have hl : lv_has ls 3 [(0, .ref (E.2.1 1)), (1, .int p1), (2, .int p2)] := hl
  have iX2 : ∀ w ∈ wsX20, w ∈ wsX2_init := by decide +kernel
  have e9 := hts (.fieldLink RX2 9 "CubeHeaps$Ground" "xs" "[I") (by decide +kernel)
  have e15 := hts (.fieldLink RX2 15 "CubeHeaps$Ground" "ys" "[I") (by decide +kernel)
  have e18 := hts (.fieldLink RX2 18 "CubeHeaps$Ground" "neighbours" "[I") (by decide +kernel)
  refine lv_aload_n hx hb dX2_init_0 rfl (lv_at hl 0 rfl) ?_
  refine W.objInit hx hb hown (hts (.methodLink RX2 3 objectInit) (by decide +kernel)) (hts (.instanceMethod objectInit) (by decide +kernel)) (hts (.code objectInit ⟨#[0xb1]⟩ 1 none) (by decide +kernel)) rfl (by rw [hml]; exact hl.1) rfl dX2_init_1 (Nat.le_of_ble_eq_true rfl) (Nat.le_of_ble_eq_true rfl) ?_
  refine W.eq (g2 := F0 m 4 ls []) rfl ?_
  refine lv_aload_n hx hb dX2_init_4 rfl (lv_at hl 0 rfl) ?_
  refine lv_bipush (v := (25 : Int32)) hx hb dX2_init_5 (by decide) ?_
  refine pn_newI (N := 25) (N' := 25) hx hb hE (by decide) (hts (.arrayClass .int) (by decide +kernel)) hP hS rfl (by decide) (by decide) (by decide) (Nat.le_of_ble_eq_true rfl) (Nat.le_of_ble_eq_true rfl) dX2_init_7 (fun H hP hS => ?_)
  refine pn_put hx hb hE hts iX2 tyX2_ok nmX2 hown hP hS rfl 0 (by decide) e9 hin rfl rfl rfl (Nat.le_of_ble_eq_true rfl) (fs' := [.ref (E.2.1 2), .null, .null, .int 0, .int 0]) rfl dX2_init_9 (fun H locs hP hS => ?_)
  refine lv_aload_n hx hb dX2_init_12 rfl (lv_at hl 0 rfl) ?_
  refine lv_bipush (v := (25 : Int32)) hx hb dX2_init_13 (by decide) ?_
  refine pn_newI (N := 25) (N' := 25) hx hb hE (by decide) (hts (.arrayClass .int) (by decide +kernel)) hP hS rfl (by decide) (by decide) (by decide) (Nat.le_of_ble_eq_true rfl) (Nat.le_of_ble_eq_true rfl) dX2_init_15 (fun H hP hS => ?_)
  refine pn_put hx hb hE hts iX2 tyX2_ok nmX2 hown hP hS rfl 1 (by decide) e15 hin rfl rfl rfl (Nat.le_of_ble_eq_true rfl) (fs' := [.ref (E.2.1 2), .ref (E.2.1 3), .null, .int 0, .int 0]) rfl dX2_init_17 (fun H locs hP hS => ?_)
  refine lv_aload_n hx hb dX2_init_20 rfl (lv_at hl 0 rfl) ?_
  refine lv_bipush (v := (100 : Int32)) hx hb dX2_init_21 (by decide) ?_
  refine pn_newI (N := 100) (N' := 100) hx hb hE (by decide) (hts (.arrayClass .int) (by decide +kernel)) hP hS rfl (by decide) (by decide) (by decide) (Nat.le_of_ble_eq_true rfl) (Nat.le_of_ble_eq_true rfl) dX2_init_23 (fun H hP hS => ?_)
  refine pn_put hx hb hE hts iX2 tyX2_ok nmX2 hown hP hS rfl 2 (by decide) e18 hin rfl rfl rfl (Nat.le_of_ble_eq_true rfl) (fs' := [.ref (E.2.1 2), .ref (E.2.1 3), .ref (E.2.1 4), .int 0, .int 0]) rfl dX2_init_25 (fun H locs hP hS => ?_)
  refine lv_aload_n hx hb dX2_init_28 rfl (lv_at hl 0 rfl) ?_
  refine lv_iload_n hx hb dX2_init_29 rfl (lv_at hl 1 rfl) ?_
  refine lv_iload_n hx hb dX2_init_30 rfl (lv_at hl 2 rfl) ?_
  have hR := hP.done rfl
  refine pn_meth (As := [.int p1, .int p2]) (rest := []) hE S hR (by decide) (by rw [hP0.1, hE 2, hE 5]) hS (kX2_become l E (fun k => 1 ≤ k ∧ k < 5) ((by decide : ∀ k ∈ ([1, 2, 3, 4] : List Nat), 1 ≤ k ∧ k < 5)) p1 p2 w0 q h) (cwV 2 hts gX2_init_X2_become rfl rfl rfl hdX2_become ⟨Nat.le_of_ble_eq_true rfl, Nat.le_of_ble_eq_true rfl⟩) rfl rfl rfl rfl hl.1 rfl (Nat.le_of_ble_eq_true rfl) ⟨Nat.le_of_ble_eq_true rfl, Nat.le_of_ble_eq_true rfl⟩ dX2_init_31 (fun H locs hR hS => ?_)
  exact hQ _ _ _ _ hR hS dX2_init_34
abbrev rmX7_init : Room := { frames := 1, cells := 3, slots := 75, locals := 12 }
set_option maxHeartbeats 4000000 in
set_option maxRecDepth 100000 in
theorem kX7_init (l : Launch) (E : Ev) (hE : ∀ k, E.2.1 k = E.2.1 0 + k) : CtN l yX7_init wsX7_init rmX7_init E 10 14 7 [.null, .null, .null, .null] [.ref (E.2.1 10), .ref (E.2.1 1)] w0 3 75 := by
  refine mkN (cc := cX7_init) (maxL := 2) (by decide) rfl (Nat.le_of_ble_eq_true rfl) rfl ?_
  intro p e s m args below meth c Q S hin hPN hP hQ ls hl
  obtain ⟨hx, hb, hml, hown, hts⟩ := id S
  have hP0 := hP
  have hS : va_S (up0 E 10) s.heap s.heap [] := va_S.rf
  have hl : lv_has ls 2 [(0, .ref (E.2.1 10)), (1, .ref (E.2.1 1))] := hl
  have iX7 : ∀ w ∈ wsX70, w ∈ wsX7_init := by decide +kernel
  have e9 := hts (.fieldLink RX7 9 "CubeHeaps$View" "levels" "[I") (by decide +kernel)
  have e15 := hts (.fieldLink RX7 15 "CubeHeaps$View" "partOf" "[I") (by decide +kernel)
  have e18 := hts (.fieldLink RX7 18 "CubeHeaps$View" "waiting" "[I") (by decide +kernel)
  have e21 := hts (.fieldLink RX7 21 "CubeHeaps$View" "ground" "LCubeHeaps$Ground;") (by decide +kernel)
  refine lv_aload_n hx hb dX7_init_0 rfl (lv_at hl 0 rfl) ?_
  refine W.objInit hx hb hown (hts (.methodLink RX7 3 objectInit) (by decide +kernel)) (hts (.instanceMethod objectInit) (by decide +kernel)) (hts (.code objectInit ⟨#[0xb1]⟩ 1 none) (by decide +kernel)) rfl (by rw [hml]; exact hl.1) rfl dX7_init_1 (Nat.le_of_ble_eq_true rfl) (Nat.le_of_ble_eq_true rfl) ?_
  refine W.eq (g2 := F0 m 4 ls []) rfl ?_
  refine lv_aload_n hx hb dX7_init_4 rfl (lv_at hl 0 rfl) ?_
  refine lv_bipush (v := (25 : Int32)) hx hb dX7_init_5 (by decide) ?_
  refine pn_newI (N := 25) (N' := 25) hx hb hE (by decide) (hts (.arrayClass .int) (by decide +kernel)) hP hS rfl (by decide) (by decide) (by decide) (Nat.le_of_ble_eq_true rfl) (Nat.le_of_ble_eq_true rfl) dX7_init_7 (fun H hP hS => ?_)
  refine pn_put hx hb hE hts iX7 tyX7_ok nmX7 hown hP hS rfl 1 (by decide) e9 hin rfl rfl rfl (Nat.le_of_ble_eq_true rfl) (fs' := [.null, .ref (E.2.1 11), .null, .null]) rfl dX7_init_9 (fun H locs hP hS => ?_)
  refine lv_aload_n hx hb dX7_init_12 rfl (lv_at hl 0 rfl) ?_
  refine lv_bipush (v := (25 : Int32)) hx hb dX7_init_13 (by decide) ?_
  refine pn_newI (N := 25) (N' := 25) hx hb hE (by decide) (hts (.arrayClass .int) (by decide +kernel)) hP hS rfl (by decide) (by decide) (by decide) (Nat.le_of_ble_eq_true rfl) (Nat.le_of_ble_eq_true rfl) dX7_init_15 (fun H hP hS => ?_)
  refine pn_put hx hb hE hts iX7 tyX7_ok nmX7 hown hP hS rfl 2 (by decide) e15 hin rfl rfl rfl (Nat.le_of_ble_eq_true rfl) (fs' := [.null, .ref (E.2.1 11), .ref (E.2.1 12), .null]) rfl dX7_init_17 (fun H locs hP hS => ?_)
  refine lv_aload_n hx hb dX7_init_20 rfl (lv_at hl 0 rfl) ?_
  refine lv_bipush (v := (25 : Int32)) hx hb dX7_init_21 (by decide) ?_
  refine pn_newI (N := 25) (N' := 25) hx hb hE (by decide) (hts (.arrayClass .int) (by decide +kernel)) hP hS rfl (by decide) (by decide) (by decide) (Nat.le_of_ble_eq_true rfl) (Nat.le_of_ble_eq_true rfl) dX7_init_23 (fun H hP hS => ?_)
  refine pn_put hx hb hE hts iX7 tyX7_ok nmX7 hown hP hS rfl 3 (by decide) e18 hin rfl rfl rfl (Nat.le_of_ble_eq_true rfl) (fs' := [.null, .ref (E.2.1 11), .ref (E.2.1 12), .ref (E.2.1 13)]) rfl dX7_init_25 (fun H locs hP hS => ?_)
  refine lv_aload_n hx hb dX7_init_28 rfl (lv_at hl 0 rfl) ?_
  refine lv_aload_n hx hb dX7_init_29 rfl (lv_at hl 1 rfl) ?_
  refine pn_put hx hb hE hts iX7 tyX7_ok nmX7 hown hP hS rfl 0 (by decide) e21 hin rfl rfl rfl (Nat.le_of_ble_eq_true rfl) (fs' := [.ref (E.2.1 1), .ref (E.2.1 11), .ref (E.2.1 12), .ref (E.2.1 13)]) rfl dX7_init_30 (fun H locs hP hS => ?_)
  have hR := hP.done rfl
  exact hQ _ _ _ _ hR hS dX7_init_33
abbrev rmX5_init : Room := { frames := 3, cells := 4, slots := 37, locals := 64 }
set_option maxHeartbeats 4000000 in
set_option maxRecDepth 100000 in
theorem kX5_init (l : Launch) (E : Ev) (hE : ∀ k, E.2.1 k = E.2.1 0 + k) (q : Unit × Wd) (h : fX5_forget w0 = some q) : CtN l yX5_init wsX5_init rmX5_init E 14 19 5 [.null, .null, .null, .null, .int 0] [.ref (E.2.1 14), .ref (E.2.1 1), .ref (E.2.1 10)] q.2 4 37 := by
  refine mkN (cc := cX5_init) (maxL := 3) (by decide) rfl (Nat.le_of_ble_eq_true rfl) rfl ?_
  intro p e s m args below meth c Q S hin hPN hP hQ ls hl
  obtain ⟨hx, hb, hml, hown, hts⟩ := id S
  have hP0 := hP
  have hS : va_S (up0 E 14) s.heap s.heap [] := va_S.rf
  have hl : lv_has ls 3 [(0, .ref (E.2.1 14)), (1, .ref (E.2.1 1)), (2, .ref (E.2.1 10))] := hl
  have iX3 : ∀ w ∈ wsX30, w ∈ wsX5_init := by decide +kernel
  have iX5 : ∀ w ∈ wsX50, w ∈ wsX5_init := by decide +kernel
  have e12 := hts (.fieldLink RX5 12 "CubeHeaps$Told" "tallest" "LCubeHeaps$Lines;") (by decide +kernel)
  have e18 := hts (.fieldLink RX5 18 "CubeHeaps$Told" "tops" "[I") (by decide +kernel)
  have e22 := hts (.fieldLink RX5 22 "CubeHeaps$Told" "version" "I") (by decide +kernel)
  have e26 := hts (.fieldLink RX5 26 "CubeHeaps$Told" "ground" "LCubeHeaps$Ground;") (by decide +kernel)
  have e30 := hts (.fieldLink RX5 30 "CubeHeaps$Told" "view" "LCubeHeaps$View;") (by decide +kernel)
  refine lv_aload_n hx hb dX5_init_0 rfl (lv_at hl 0 rfl) ?_
  refine W.objInit hx hb hown (hts (.methodLink RX5 3 objectInit) (by decide +kernel)) (hts (.instanceMethod objectInit) (by decide +kernel)) (hts (.code objectInit ⟨#[0xb1]⟩ 1 none) (by decide +kernel)) rfl (by rw [hml]; exact hl.1) rfl dX5_init_1 (Nat.le_of_ble_eq_true rfl) (Nat.le_of_ble_eq_true rfl) ?_
  refine W.eq (g2 := F0 m 4 ls []) rfl ?_
  refine lv_aload_n hx hb dX5_init_4 rfl (lv_at hl 0 rfl) ?_
  refine pn_new (n := 15) (gs := [.null, .null]) (cj := 3) hx hb hE hts iX3 tyX3_ok hown (hts (.classLink RX5 9 RX3) (by decide +kernel)) (hts (.instantiable RX3 2) (by decide +kernel)) (hts (.initialized RX3) (by decide +kernel)) hP.2.2.2.1 hP.1 hP.2.2.2.2 hS rfl (fun j hj => match j, hj with
      | 0, _ => rfl
      | 1, _ => rfl
      | j + 2, h => absurd h (by omega)) (by rw [hE 14, hE 15]; omega) (Nat.le_of_ble_eq_true rfl) (Nat.le_of_ble_eq_true rfl) dX5_init_5 (fun H1 hN ho hS => ?_)
  refine lv_dup hx hb dX5_init_8 rfl ?_
  refine pn_callN (As := []) (rest := [.ref (E.2.1 15), .ref (E.2.1 14)]) S hN hPN hS (fun q z => Nat.le_trans (by rw [hE 14, hE 15]; omega) z) (kX3_initT l E hE) (⟨va_cnB 0 hts gX5_init_X3_init_n11 rfl rfl rfl hPN.1 (hts (.initialized RX3) (by decide +kernel)) (by decide +kernel) ⟨Nat.le_of_ble_eq_true rfl, Nat.le_of_ble_eq_true rfl⟩, rfl, hts (.instanceMethod yX3_init) (by decide +kernel)⟩) rfl hl.1 rfl (Nat.le_of_ble_eq_true rfl) ⟨Nat.le_of_ble_eq_true rfl, Nat.le_of_ble_eq_true rfl⟩ dX5_init_9 (fun H2 locs hR ho2 hS => ?_)
  have hP := pn_join hE (by decide) hP (fun q hq => (ho2 q hq).trans (ho q hq)) hR
  rw [mixW_0] at hP
  refine pn_put hx hb hE hts iX5 tyX5_ok nmX5 hown hP hS rfl 2 (by decide) e12 hin rfl rfl rfl (Nat.le_of_ble_eq_true rfl) (fs' := [.null, .null, .ref (E.2.1 15), .null, .int 0]) rfl dX5_init_12 (fun H locs hP hS => ?_)
  refine lv_aload_n hx hb dX5_init_15 rfl (lv_at hl 0 rfl) ?_
  refine lv_bipush (v := (25 : Int32)) hx hb dX5_init_16 (by decide) ?_
  refine pn_newI (N := 25) (N' := 25) hx hb hE (by decide) (hts (.arrayClass .int) (by decide +kernel)) hP hS rfl (by decide) (by decide) (by decide) (Nat.le_of_ble_eq_true rfl) (Nat.le_of_ble_eq_true rfl) dX5_init_18 (fun H hP hS => ?_)
  refine pn_put hx hb hE hts iX5 tyX5_ok nmX5 hown hP hS rfl 3 (by decide) e18 hin rfl rfl rfl (Nat.le_of_ble_eq_true rfl) (fs' := [.null, .null, .ref (E.2.1 15), .ref (E.2.1 18), .int 0]) rfl dX5_init_20 (fun H locs hP hS => ?_)
  refine lv_aload_n hx hb dX5_init_23 rfl (lv_at hl 0 rfl) ?_
  refine lv_iconst (v := (0 : Int32)) hx hb dX5_init_24 (by decide) ?_
  refine pn_put hx hb hE hts iX5 tyX5_ok nmX5 hown hP hS rfl 4 (by decide) e22 hin rfl rfl rfl (Nat.le_of_ble_eq_true rfl) (fs' := [.null, .null, .ref (E.2.1 15), .ref (E.2.1 18), .int (0 : Int32)]) rfl dX5_init_25 (fun H locs hP hS => ?_)
  refine lv_aload_n hx hb dX5_init_28 rfl (lv_at hl 0 rfl) ?_
  refine lv_aload_n hx hb dX5_init_29 rfl (lv_at hl 1 rfl) ?_
  refine pn_put hx hb hE hts iX5 tyX5_ok nmX5 hown hP hS rfl 0 (by decide) e26 hin rfl rfl rfl (Nat.le_of_ble_eq_true rfl) (fs' := [.ref (E.2.1 1), .null, .ref (E.2.1 15), .ref (E.2.1 18), .int (0 : Int32)]) rfl dX5_init_30 (fun H locs hP hS => ?_)
  refine lv_aload_n hx hb dX5_init_33 rfl (lv_at hl 0 rfl) ?_
  refine lv_aload_n hx hb dX5_init_34 rfl (lv_at hl 2 rfl) ?_
  refine pn_put hx hb hE hts iX5 tyX5_ok nmX5 hown hP hS rfl 1 (by decide) e30 hin rfl rfl rfl (Nat.le_of_ble_eq_true rfl) (fs' := [.ref (E.2.1 1), .ref (E.2.1 10), .ref (E.2.1 15), .ref (E.2.1 18), .int (0 : Int32)]) rfl dX5_init_35 (fun H locs hP hS => ?_)
  refine lv_aload_n hx hb dX5_init_38 rfl (lv_at hl 0 rfl) ?_
  have hR := hP.done rfl
  refine pn_meth (As := []) (rest := []) hE S hR (by decide) (by rw [hP0.1, hE 15, hE 19]) hS (kX5_forget l E (fun k => 14 ≤ k ∧ k < 19) ((by decide : ∀ k ∈ ([14, 15, 16, 17, 18] : List Nat), 14 ≤ k ∧ k < 19))  w0 q h) (cwV 0 hts gX5_init_X5_forget rfl rfl rfl hdX5_forget ⟨Nat.le_of_ble_eq_true rfl, Nat.le_of_ble_eq_true rfl⟩) rfl rfl rfl rfl hl.1 rfl (Nat.le_of_ble_eq_true rfl) ⟨Nat.le_of_ble_eq_true rfl, Nat.le_of_ble_eq_true rfl⟩ dX5_init_39 (fun H locs hR hS => ?_)
  exact hQ _ _ _ _ hR hS dX5_init_42
abbrev rmX1_init : Room := { frames := 1, cells := 59, slots := 3583, locals := 12 }
set_option maxHeartbeats 4000000 in
set_option maxRecDepth 100000 in
theorem kX1_init (l : Launch) (E : Ev) (hE : ∀ k, E.2.1 k = E.2.1 0 + k) : CtN l yX1_init wsX1_init rmX1_init E 19 79 1 [.null, .null, .null, .null, .null, .null, .null, .null, .null, .int 0] [.ref (E.2.1 19), .ref (E.2.1 1), .ref (E.2.1 14)] w0 59 3583 := by
  refine mkN (cc := cX1_init) (maxL := 3) (by decide) rfl (Nat.le_of_ble_eq_true rfl) rfl ?_
  intro p e s m args below meth c Q S hin hPN hP hQ ls hl
  obtain ⟨hx, hb, hml, hown, hts⟩ := id S
  have hP0 := hP
  have hS : va_S (up0 E 19) s.heap s.heap [] := va_S.rf
  have hl : lv_has ls 3 [(0, .ref (E.2.1 19)), (1, .ref (E.2.1 1)), (2, .ref (E.2.1 14))] := hl
  have iX1 : ∀ w ∈ wsX10, w ∈ wsX1_init := by decide +kernel
  have e9 := hts (.fieldLink RX1 9 "CubeHeaps$Fitting" "allowed" "[I") (by decide +kernel)
  have e15 := hts (.fieldLink RX1 15 "CubeHeaps$Fitting" "columnMeeting" "[I") (by decide +kernel)
  have e18 := hts (.fieldLink RX1 18 "CubeHeaps$Fitting" "rowMeeting" "[I") (by decide +kernel)
  have e23 := hts (.fieldLink RX1 23 "CubeHeaps$Fitting" "before" "[[J") (by decide +kernel)
  have e26 := hts (.fieldLink RX1 26 "CubeHeaps$Fitting" "behind" "[[J") (by decide +kernel)
  have e29 := hts (.fieldLink RX1 29 "CubeHeaps$Fitting" "fewest" "[I") (by decide +kernel)
  have e32 := hts (.fieldLink RX1 32 "CubeHeaps$Fitting" "fewestNext" "[I") (by decide +kernel)
  have e35 := hts (.fieldLink RX1 35 "CubeHeaps$Fitting" "version" "I") (by decide +kernel)
  have e39 := hts (.fieldLink RX1 39 "CubeHeaps$Fitting" "ground" "LCubeHeaps$Ground;") (by decide +kernel)
  have e43 := hts (.fieldLink RX1 43 "CubeHeaps$Fitting" "told" "LCubeHeaps$Told;") (by decide +kernel)
  refine lv_aload_n hx hb dX1_init_0 rfl (lv_at hl 0 rfl) ?_
  refine W.objInit hx hb hown (hts (.methodLink RX1 3 objectInit) (by decide +kernel)) (hts (.instanceMethod objectInit) (by decide +kernel)) (hts (.code objectInit ⟨#[0xb1]⟩ 1 none) (by decide +kernel)) rfl (by rw [hml]; exact hl.1) rfl dX1_init_1 (Nat.le_of_ble_eq_true rfl) (Nat.le_of_ble_eq_true rfl) ?_
  refine W.eq (g2 := F0 m 4 ls []) rfl ?_
  refine lv_aload_n hx hb dX1_init_4 rfl (lv_at hl 0 rfl) ?_
  refine lv_bipush (v := (25 : Int32)) hx hb dX1_init_5 (by decide) ?_
  refine pn_newI (N := 25) (N' := 25) hx hb hE (by decide) (hts (.arrayClass .int) (by decide +kernel)) hP hS rfl (by decide) (by decide) (by decide) (Nat.le_of_ble_eq_true rfl) (Nat.le_of_ble_eq_true rfl) dX1_init_7 (fun H hP hS => ?_)
  refine pn_put hx hb hE hts iX1 tyX1_ok nmX1 hown hP hS rfl 2 (by decide) e9 hin rfl rfl rfl (Nat.le_of_ble_eq_true rfl) (fs' := [.null, .null, .ref (E.2.1 20), .null, .null, .null, .null, .null, .null, .int 0]) rfl dX1_init_9 (fun H locs hP hS => ?_)
  refine lv_aload_n hx hb dX1_init_12 rfl (lv_at hl 0 rfl) ?_
  refine lv_bipush (v := (25 : Int32)) hx hb dX1_init_13 (by decide) ?_
  refine pn_newI (N := 25) (N' := 25) hx hb hE (by decide) (hts (.arrayClass .int) (by decide +kernel)) hP hS rfl (by decide) (by decide) (by decide) (Nat.le_of_ble_eq_true rfl) (Nat.le_of_ble_eq_true rfl) dX1_init_15 (fun H hP hS => ?_)
  refine pn_put hx hb hE hts iX1 tyX1_ok nmX1 hown hP hS rfl 3 (by decide) e15 hin rfl rfl rfl (Nat.le_of_ble_eq_true rfl) (fs' := [.null, .null, .ref (E.2.1 20), .ref (E.2.1 21), .null, .null, .null, .null, .null, .int 0]) rfl dX1_init_17 (fun H locs hP hS => ?_)
  refine lv_aload_n hx hb dX1_init_20 rfl (lv_at hl 0 rfl) ?_
  refine lv_bipush (v := (25 : Int32)) hx hb dX1_init_21 (by decide) ?_
  refine pn_newI (N := 25) (N' := 25) hx hb hE (by decide) (hts (.arrayClass .int) (by decide +kernel)) hP hS rfl (by decide) (by decide) (by decide) (Nat.le_of_ble_eq_true rfl) (Nat.le_of_ble_eq_true rfl) dX1_init_23 (fun H hP hS => ?_)
  refine pn_put hx hb hE hts iX1 tyX1_ok nmX1 hown hP hS rfl 4 (by decide) e18 hin rfl rfl rfl (Nat.le_of_ble_eq_true rfl) (fs' := [.null, .null, .ref (E.2.1 20), .ref (E.2.1 21), .ref (E.2.1 22), .null, .null, .null, .null, .int 0]) rfl dX1_init_25 (fun H locs hP hS => ?_)
  refine lv_aload_n hx hb dX1_init_28 rfl (lv_at hl 0 rfl) ?_
  refine lv_bipush (v := (26 : Int32)) hx hb dX1_init_29 (by decide) ?_
  refine lv_bipush (v := (64 : Int32)) hx hb dX1_init_31 (by decide) ?_
  refine pn_mna (ty := .long) (t := 1) (N := 26) (K := 64) (N' := 26) (K' := 64) (z := (64, .inr (.inl (fun _ => 0)))) (own := RX1) (index := 21) hx hb hE (by decide) hown (hts (.classLink RX1 21 "[[J") (by decide +kernel)) hPN.2.2.2 (hts (.arrayClass .long) (by decide +kernel)) hP hS (hP.2.2.2.1.2 1 _ rfl).2 rfl (hP.2.2.2.1.2 3 _ rfl).2 rfl (by decide) (by decide) (by decide) (by decide) rfl (fun i hi => match i, hi with
      | 0, _ => rfl
      | 1, _ => rfl
      | 2, _ => rfl
      | 3, _ => rfl
      | 4, _ => rfl
      | 5, _ => rfl
      | 6, _ => rfl
      | 7, _ => rfl
      | 8, _ => rfl
      | 9, _ => rfl
      | 10, _ => rfl
      | 11, _ => rfl
      | 12, _ => rfl
      | 13, _ => rfl
      | 14, _ => rfl
      | 15, _ => rfl
      | 16, _ => rfl
      | 17, _ => rfl
      | 18, _ => rfl
      | 19, _ => rfl
      | 20, _ => rfl
      | 21, _ => rfl
      | 22, _ => rfl
      | 23, _ => rfl
      | 24, _ => rfl
      | 25, _ => rfl
      | i + 26, h => absurd h (by omega)) (by decide) (by decide) (by decide) (by decide) (by decide) (Nat.le_of_ble_eq_true rfl) (Nat.le_of_ble_eq_true rfl) (fun c => by rw [vp_cell_l, ← arrV_new]; rfl) dX1_init_33 (fun H hP hS => ?_)
  refine pn_put hx hb hE hts iX1 tyX1_ok nmX1 hown hP hS rfl 5 (by decide) e23 hin rfl rfl rfl (Nat.le_of_ble_eq_true rfl) (fs' := [.null, .null, .ref (E.2.1 20), .ref (E.2.1 21), .ref (E.2.1 22), .ref (E.2.1 23), .null, .null, .null, .int 0]) rfl dX1_init_37 (fun H locs hP hS => ?_)
  refine lv_aload_n hx hb dX1_init_40 rfl (lv_at hl 0 rfl) ?_
  refine lv_bipush (v := (26 : Int32)) hx hb dX1_init_41 (by decide) ?_
  refine lv_bipush (v := (64 : Int32)) hx hb dX1_init_43 (by decide) ?_
  refine pn_mna (ty := .long) (t := 1) (N := 26) (K := 64) (N' := 26) (K' := 64) (z := (64, .inr (.inl (fun _ => 0)))) (own := RX1) (index := 21) hx hb hE (by decide) hown (hts (.classLink RX1 21 "[[J") (by decide +kernel)) hPN.2.2.2 (hts (.arrayClass .long) (by decide +kernel)) hP hS (hP.2.2.2.1.2 1 _ rfl).2 rfl (hP.2.2.2.1.2 3 _ rfl).2 rfl (by decide) (by decide) (by decide) (by decide) rfl (fun i hi => match i, hi with
      | 0, _ => rfl
      | 1, _ => rfl
      | 2, _ => rfl
      | 3, _ => rfl
      | 4, _ => rfl
      | 5, _ => rfl
      | 6, _ => rfl
      | 7, _ => rfl
      | 8, _ => rfl
      | 9, _ => rfl
      | 10, _ => rfl
      | 11, _ => rfl
      | 12, _ => rfl
      | 13, _ => rfl
      | 14, _ => rfl
      | 15, _ => rfl
      | 16, _ => rfl
      | 17, _ => rfl
      | 18, _ => rfl
      | 19, _ => rfl
      | 20, _ => rfl
      | 21, _ => rfl
      | 22, _ => rfl
      | 23, _ => rfl
      | 24, _ => rfl
      | 25, _ => rfl
      | i + 26, h => absurd h (by omega)) (by decide) (by decide) (by decide) (by decide) (by decide) (Nat.le_of_ble_eq_true rfl) (Nat.le_of_ble_eq_true rfl) (fun c => by rw [vp_cell_l, ← arrV_new]; rfl) dX1_init_45 (fun H hP hS => ?_)
  refine pn_put hx hb hE hts iX1 tyX1_ok nmX1 hown hP hS rfl 6 (by decide) e26 hin rfl rfl rfl (Nat.le_of_ble_eq_true rfl) (fs' := [.null, .null, .ref (E.2.1 20), .ref (E.2.1 21), .ref (E.2.1 22), .ref (E.2.1 23), .ref (E.2.1 50), .null, .null, .int 0]) rfl dX1_init_49 (fun H locs hP hS => ?_)
  refine lv_aload_n hx hb dX1_init_52 rfl (lv_at hl 0 rfl) ?_
  refine lv_bipush (v := (64 : Int32)) hx hb dX1_init_53 (by decide) ?_
  refine pn_newI (N := 64) (N' := 64) hx hb hE (by decide) (hts (.arrayClass .int) (by decide +kernel)) hP hS rfl (by decide) (by decide) (by decide) (Nat.le_of_ble_eq_true rfl) (Nat.le_of_ble_eq_true rfl) dX1_init_55 (fun H hP hS => ?_)
  refine pn_put hx hb hE hts iX1 tyX1_ok nmX1 hown hP hS rfl 7 (by decide) e29 hin rfl rfl rfl (Nat.le_of_ble_eq_true rfl) (fs' := [.null, .null, .ref (E.2.1 20), .ref (E.2.1 21), .ref (E.2.1 22), .ref (E.2.1 23), .ref (E.2.1 50), .ref (E.2.1 77), .null, .int 0]) rfl dX1_init_57 (fun H locs hP hS => ?_)
  refine lv_aload_n hx hb dX1_init_60 rfl (lv_at hl 0 rfl) ?_
  refine lv_bipush (v := (64 : Int32)) hx hb dX1_init_61 (by decide) ?_
  refine pn_newI (N := 64) (N' := 64) hx hb hE (by decide) (hts (.arrayClass .int) (by decide +kernel)) hP hS rfl (by decide) (by decide) (by decide) (Nat.le_of_ble_eq_true rfl) (Nat.le_of_ble_eq_true rfl) dX1_init_63 (fun H hP hS => ?_)
  refine pn_put hx hb hE hts iX1 tyX1_ok nmX1 hown hP hS rfl 8 (by decide) e32 hin rfl rfl rfl (Nat.le_of_ble_eq_true rfl) (fs' := [.null, .null, .ref (E.2.1 20), .ref (E.2.1 21), .ref (E.2.1 22), .ref (E.2.1 23), .ref (E.2.1 50), .ref (E.2.1 77), .ref (E.2.1 78), .int 0]) rfl dX1_init_65 (fun H locs hP hS => ?_)
  refine lv_aload_n hx hb dX1_init_68 rfl (lv_at hl 0 rfl) ?_
  refine lv_iconst (v := (0 : Int32)) hx hb dX1_init_69 (by decide) ?_
  refine pn_put hx hb hE hts iX1 tyX1_ok nmX1 hown hP hS rfl 9 (by decide) e35 hin rfl rfl rfl (Nat.le_of_ble_eq_true rfl) (fs' := [.null, .null, .ref (E.2.1 20), .ref (E.2.1 21), .ref (E.2.1 22), .ref (E.2.1 23), .ref (E.2.1 50), .ref (E.2.1 77), .ref (E.2.1 78), .int (0 : Int32)]) rfl dX1_init_70 (fun H locs hP hS => ?_)
  refine lv_aload_n hx hb dX1_init_73 rfl (lv_at hl 0 rfl) ?_
  refine lv_aload_n hx hb dX1_init_74 rfl (lv_at hl 1 rfl) ?_
  refine pn_put hx hb hE hts iX1 tyX1_ok nmX1 hown hP hS rfl 0 (by decide) e39 hin rfl rfl rfl (Nat.le_of_ble_eq_true rfl) (fs' := [.ref (E.2.1 1), .null, .ref (E.2.1 20), .ref (E.2.1 21), .ref (E.2.1 22), .ref (E.2.1 23), .ref (E.2.1 50), .ref (E.2.1 77), .ref (E.2.1 78), .int (0 : Int32)]) rfl dX1_init_75 (fun H locs hP hS => ?_)
  refine lv_aload_n hx hb dX1_init_78 rfl (lv_at hl 0 rfl) ?_
  refine lv_aload_n hx hb dX1_init_79 rfl (lv_at hl 2 rfl) ?_
  refine pn_put hx hb hE hts iX1 tyX1_ok nmX1 hown hP hS rfl 1 (by decide) e43 hin rfl rfl rfl (Nat.le_of_ble_eq_true rfl) (fs' := [.ref (E.2.1 1), .ref (E.2.1 14), .ref (E.2.1 20), .ref (E.2.1 21), .ref (E.2.1 22), .ref (E.2.1 23), .ref (E.2.1 50), .ref (E.2.1 77), .ref (E.2.1 78), .int (0 : Int32)]) rfl dX1_init_80 (fun H locs hP hS => ?_)
  have hR := hP.done rfl
  exact hQ _ _ _ _ hR hS dX1_init_83
abbrev rmX4_init : Room := { frames := 2, cells := 10, slots := 127, locals := 32 }
set_option maxHeartbeats 4000000 in
set_option maxRecDepth 100000 in
theorem kX4_init (l : Launch) (E : Ev) (hE : ∀ k, E.2.1 k = E.2.1 0 + k) : CtN l yX4_init wsX4_init rmX4_init E 79 90 4 [.null, .null, .null, .null, .null, .null, .null, .null, .null, .null] [.ref (E.2.1 79), .ref (E.2.1 1), .ref (E.2.1 14)] w0 10 127 := by
  refine mkN (cc := cX4_init) (maxL := 3) (by decide) rfl (Nat.le_of_ble_eq_true rfl) rfl ?_
  intro p e s m args below meth c Q S hin hPN hP hQ ls hl
  obtain ⟨hx, hb, hml, hown, hts⟩ := id S
  have hP0 := hP
  have hS : va_S (up0 E 79) s.heap s.heap [] := va_S.rf
  have hl : lv_has ls 3 [(0, .ref (E.2.1 79)), (1, .ref (E.2.1 1)), (2, .ref (E.2.1 14))] := hl
  have iX3 : ∀ w ∈ wsX30, w ∈ wsX4_init := by decide +kernel
  have iX4 : ∀ w ∈ wsX40, w ∈ wsX4_init := by decide +kernel
  have e12 := hts (.fieldLink RX4 12 "CubeHeaps$Sums" "wanted" "LCubeHeaps$Lines;") (by decide +kernel)
  have e18 := hts (.fieldLink RX4 18 "CubeHeaps$Sums" "made" "[I") (by decide +kernel)
  have e22 := hts (.fieldLink RX4 22 "CubeHeaps$Sums" "low" "[I") (by decide +kernel)
  have e25 := hts (.fieldLink RX4 25 "CubeHeaps$Sums" "high" "[I") (by decide +kernel)
  have e28 := hts (.fieldLink RX4 28 "CubeHeaps$Sums" "open" "[I") (by decide +kernel)
  have e31 := hts (.fieldLink RX4 31 "CubeHeaps$Sums" "cameFrom" "[I") (by decide +kernel)
  have e34 := hts (.fieldLink RX4 34 "CubeHeaps$Sums" "cameOver" "[I") (by decide +kernel)
  have e37 := hts (.fieldLink RX4 37 "CubeHeaps$Sums" "waiting" "[I") (by decide +kernel)
  have e40 := hts (.fieldLink RX4 40 "CubeHeaps$Sums" "ground" "LCubeHeaps$Ground;") (by decide +kernel)
  have e44 := hts (.fieldLink RX4 44 "CubeHeaps$Sums" "told" "LCubeHeaps$Told;") (by decide +kernel)
  refine lv_aload_n hx hb dX4_init_0 rfl (lv_at hl 0 rfl) ?_
  refine W.objInit hx hb hown (hts (.methodLink RX4 3 objectInit) (by decide +kernel)) (hts (.instanceMethod objectInit) (by decide +kernel)) (hts (.code objectInit ⟨#[0xb1]⟩ 1 none) (by decide +kernel)) rfl (by rw [hml]; exact hl.1) rfl dX4_init_1 (Nat.le_of_ble_eq_true rfl) (Nat.le_of_ble_eq_true rfl) ?_
  refine W.eq (g2 := F0 m 4 ls []) rfl ?_
  refine lv_aload_n hx hb dX4_init_4 rfl (lv_at hl 0 rfl) ?_
  refine pn_new (n := 80) (gs := [.null, .null]) (cj := 3) hx hb hE hts iX3 tyX3_ok hown (hts (.classLink RX4 9 RX3) (by decide +kernel)) (hts (.instantiable RX3 2) (by decide +kernel)) (hts (.initialized RX3) (by decide +kernel)) hP.2.2.2.1 hP.1 hP.2.2.2.2 hS rfl (fun j hj => match j, hj with
      | 0, _ => rfl
      | 1, _ => rfl
      | j + 2, h => absurd h (by omega)) (by rw [hE 79, hE 80]; omega) (Nat.le_of_ble_eq_true rfl) (Nat.le_of_ble_eq_true rfl) dX4_init_5 (fun H1 hN ho hS => ?_)
  refine lv_dup hx hb dX4_init_8 rfl ?_
  refine pn_callN (As := []) (rest := [.ref (E.2.1 80), .ref (E.2.1 79)]) S hN hPN hS (fun q z => Nat.le_trans (by rw [hE 79, hE 80]; omega) z) (kX3_initS l E hE) (⟨va_cnB 0 hts gX4_init_X3_init_n11 rfl rfl rfl hPN.2.1 (hts (.initialized RX3) (by decide +kernel)) (by decide +kernel) ⟨Nat.le_of_ble_eq_true rfl, Nat.le_of_ble_eq_true rfl⟩, rfl, hts (.instanceMethod yX3_init) (by decide +kernel)⟩) rfl hl.1 rfl (Nat.le_of_ble_eq_true rfl) ⟨Nat.le_of_ble_eq_true rfl, Nat.le_of_ble_eq_true rfl⟩ dX4_init_9 (fun H2 locs hR ho2 hS => ?_)
  have hP := pn_join hE (by decide) hP (fun q hq => (ho2 q hq).trans (ho q hq)) hR
  rw [mixW_0] at hP
  refine pn_put hx hb hE hts iX4 tyX4_ok nmX4 hown hP hS rfl 2 (by decide) e12 hin rfl rfl rfl (Nat.le_of_ble_eq_true rfl) (fs' := [.null, .null, .ref (E.2.1 80), .null, .null, .null, .null, .null, .null, .null]) rfl dX4_init_12 (fun H locs hP hS => ?_)
  refine lv_aload_n hx hb dX4_init_15 rfl (lv_at hl 0 rfl) ?_
  refine lv_bipush (v := (25 : Int32)) hx hb dX4_init_16 (by decide) ?_
  refine pn_newI (N := 25) (N' := 25) hx hb hE (by decide) (hts (.arrayClass .int) (by decide +kernel)) hP hS rfl (by decide) (by decide) (by decide) (Nat.le_of_ble_eq_true rfl) (Nat.le_of_ble_eq_true rfl) dX4_init_18 (fun H hP hS => ?_)
  refine pn_put hx hb hE hts iX4 tyX4_ok nmX4 hown hP hS rfl 3 (by decide) e18 hin rfl rfl rfl (Nat.le_of_ble_eq_true rfl) (fs' := [.null, .null, .ref (E.2.1 80), .ref (E.2.1 83), .null, .null, .null, .null, .null, .null]) rfl dX4_init_20 (fun H locs hP hS => ?_)
  refine lv_aload_n hx hb dX4_init_23 rfl (lv_at hl 0 rfl) ?_
  refine lv_bipush (v := (25 : Int32)) hx hb dX4_init_24 (by decide) ?_
  refine pn_newI (N := 25) (N' := 25) hx hb hE (by decide) (hts (.arrayClass .int) (by decide +kernel)) hP hS rfl (by decide) (by decide) (by decide) (Nat.le_of_ble_eq_true rfl) (Nat.le_of_ble_eq_true rfl) dX4_init_26 (fun H hP hS => ?_)
  refine pn_put hx hb hE hts iX4 tyX4_ok nmX4 hown hP hS rfl 4 (by decide) e22 hin rfl rfl rfl (Nat.le_of_ble_eq_true rfl) (fs' := [.null, .null, .ref (E.2.1 80), .ref (E.2.1 83), .ref (E.2.1 84), .null, .null, .null, .null, .null]) rfl dX4_init_28 (fun H locs hP hS => ?_)
  refine lv_aload_n hx hb dX4_init_31 rfl (lv_at hl 0 rfl) ?_
  refine lv_bipush (v := (25 : Int32)) hx hb dX4_init_32 (by decide) ?_
  refine pn_newI (N := 25) (N' := 25) hx hb hE (by decide) (hts (.arrayClass .int) (by decide +kernel)) hP hS rfl (by decide) (by decide) (by decide) (Nat.le_of_ble_eq_true rfl) (Nat.le_of_ble_eq_true rfl) dX4_init_34 (fun H hP hS => ?_)
  refine pn_put hx hb hE hts iX4 tyX4_ok nmX4 hown hP hS rfl 5 (by decide) e25 hin rfl rfl rfl (Nat.le_of_ble_eq_true rfl) (fs' := [.null, .null, .ref (E.2.1 80), .ref (E.2.1 83), .ref (E.2.1 84), .ref (E.2.1 85), .null, .null, .null, .null]) rfl dX4_init_36 (fun H locs hP hS => ?_)
  refine lv_aload_n hx hb dX4_init_39 rfl (lv_at hl 0 rfl) ?_
  refine lv_bipush (v := (10 : Int32)) hx hb dX4_init_40 (by decide) ?_
  refine pn_newI (N := 10) (N' := 10) hx hb hE (by decide) (hts (.arrayClass .int) (by decide +kernel)) hP hS rfl (by decide) (by decide) (by decide) (Nat.le_of_ble_eq_true rfl) (Nat.le_of_ble_eq_true rfl) dX4_init_42 (fun H hP hS => ?_)
  refine pn_put hx hb hE hts iX4 tyX4_ok nmX4 hown hP hS rfl 6 (by decide) e28 hin rfl rfl rfl (Nat.le_of_ble_eq_true rfl) (fs' := [.null, .null, .ref (E.2.1 80), .ref (E.2.1 83), .ref (E.2.1 84), .ref (E.2.1 85), .ref (E.2.1 86), .null, .null, .null]) rfl dX4_init_44 (fun H locs hP hS => ?_)
  refine lv_aload_n hx hb dX4_init_47 rfl (lv_at hl 0 rfl) ?_
  refine lv_bipush (v := (10 : Int32)) hx hb dX4_init_48 (by decide) ?_
  refine pn_newI (N := 10) (N' := 10) hx hb hE (by decide) (hts (.arrayClass .int) (by decide +kernel)) hP hS rfl (by decide) (by decide) (by decide) (Nat.le_of_ble_eq_true rfl) (Nat.le_of_ble_eq_true rfl) dX4_init_50 (fun H hP hS => ?_)
  refine pn_put hx hb hE hts iX4 tyX4_ok nmX4 hown hP hS rfl 7 (by decide) e31 hin rfl rfl rfl (Nat.le_of_ble_eq_true rfl) (fs' := [.null, .null, .ref (E.2.1 80), .ref (E.2.1 83), .ref (E.2.1 84), .ref (E.2.1 85), .ref (E.2.1 86), .ref (E.2.1 87), .null, .null]) rfl dX4_init_52 (fun H locs hP hS => ?_)
  refine lv_aload_n hx hb dX4_init_55 rfl (lv_at hl 0 rfl) ?_
  refine lv_bipush (v := (10 : Int32)) hx hb dX4_init_56 (by decide) ?_
  refine pn_newI (N := 10) (N' := 10) hx hb hE (by decide) (hts (.arrayClass .int) (by decide +kernel)) hP hS rfl (by decide) (by decide) (by decide) (Nat.le_of_ble_eq_true rfl) (Nat.le_of_ble_eq_true rfl) dX4_init_58 (fun H hP hS => ?_)
  refine pn_put hx hb hE hts iX4 tyX4_ok nmX4 hown hP hS rfl 8 (by decide) e34 hin rfl rfl rfl (Nat.le_of_ble_eq_true rfl) (fs' := [.null, .null, .ref (E.2.1 80), .ref (E.2.1 83), .ref (E.2.1 84), .ref (E.2.1 85), .ref (E.2.1 86), .ref (E.2.1 87), .ref (E.2.1 88), .null]) rfl dX4_init_60 (fun H locs hP hS => ?_)
  refine lv_aload_n hx hb dX4_init_63 rfl (lv_at hl 0 rfl) ?_
  refine lv_bipush (v := (10 : Int32)) hx hb dX4_init_64 (by decide) ?_
  refine pn_newI (N := 10) (N' := 10) hx hb hE (by decide) (hts (.arrayClass .int) (by decide +kernel)) hP hS rfl (by decide) (by decide) (by decide) (Nat.le_of_ble_eq_true rfl) (Nat.le_of_ble_eq_true rfl) dX4_init_66 (fun H hP hS => ?_)
  refine pn_put hx hb hE hts iX4 tyX4_ok nmX4 hown hP hS rfl 9 (by decide) e37 hin rfl rfl rfl (Nat.le_of_ble_eq_true rfl) (fs' := [.null, .null, .ref (E.2.1 80), .ref (E.2.1 83), .ref (E.2.1 84), .ref (E.2.1 85), .ref (E.2.1 86), .ref (E.2.1 87), .ref (E.2.1 88), .ref (E.2.1 89)]) rfl dX4_init_68 (fun H locs hP hS => ?_)
  refine lv_aload_n hx hb dX4_init_71 rfl (lv_at hl 0 rfl) ?_
  refine lv_aload_n hx hb dX4_init_72 rfl (lv_at hl 1 rfl) ?_
  refine pn_put hx hb hE hts iX4 tyX4_ok nmX4 hown hP hS rfl 0 (by decide) e40 hin rfl rfl rfl (Nat.le_of_ble_eq_true rfl) (fs' := [.ref (E.2.1 1), .null, .ref (E.2.1 80), .ref (E.2.1 83), .ref (E.2.1 84), .ref (E.2.1 85), .ref (E.2.1 86), .ref (E.2.1 87), .ref (E.2.1 88), .ref (E.2.1 89)]) rfl dX4_init_73 (fun H locs hP hS => ?_)
  refine lv_aload_n hx hb dX4_init_76 rfl (lv_at hl 0 rfl) ?_
  refine lv_aload_n hx hb dX4_init_77 rfl (lv_at hl 2 rfl) ?_
  refine pn_put hx hb hE hts iX4 tyX4_ok nmX4 hown hP hS rfl 1 (by decide) e44 hin rfl rfl rfl (Nat.le_of_ble_eq_true rfl) (fs' := [.ref (E.2.1 1), .ref (E.2.1 14), .ref (E.2.1 80), .ref (E.2.1 83), .ref (E.2.1 84), .ref (E.2.1 85), .ref (E.2.1 86), .ref (E.2.1 87), .ref (E.2.1 88), .ref (E.2.1 89)]) rfl dX4_init_78 (fun H locs hP hS => ?_)
  have hR := hP.done rfl
  exact hQ _ _ _ _ hR hS dX4_init_81
abbrev rmX0_init : Room := { frames := 1, cells := 5, slots := 200, locals := 12 }
set_option maxHeartbeats 4000000 in
set_option maxRecDepth 100000 in
theorem kX0_init (l : Launch) (E : Ev) (hE : ∀ k, E.2.1 k = E.2.1 0 + k) : CtN l yX0_init wsX0_init rmX0_init E 90 96 0 [.null, .null, .null, .null, .null, .null] [.ref (E.2.1 90), .ref (E.2.1 1)] w0 5 200 := by
  refine mkN (cc := cX0_init) (maxL := 2) (by decide) rfl (Nat.le_of_ble_eq_true rfl) rfl ?_
  intro p e s m args below meth c Q S hin hPN hP hQ ls hl
  obtain ⟨hx, hb, hml, hown, hts⟩ := id S
  have hP0 := hP
  have hS : va_S (up0 E 90) s.heap s.heap [] := va_S.rf
  have hl : lv_has ls 2 [(0, .ref (E.2.1 90)), (1, .ref (E.2.1 1))] := hl
  have iX0 : ∀ w ∈ wsX00, w ∈ wsX0_init := by decide +kernel
  have e9 := hts (.fieldLink RX0 9 "CubeHeaps$Carrying" "surplus" "[I") (by decide +kernel)
  have e15 := hts (.fieldLink RX0 15 "CubeHeaps$Carrying" "carried" "[I") (by decide +kernel)
  have e18 := hts (.fieldLink RX0 18 "CubeHeaps$Carrying" "steps" "[I") (by decide +kernel)
  have e21 := hts (.fieldLink RX0 21 "CubeHeaps$Carrying" "cameFrom" "[I") (by decide +kernel)
  have e24 := hts (.fieldLink RX0 24 "CubeHeaps$Carrying" "cameBy" "[I") (by decide +kernel)
  have e27 := hts (.fieldLink RX0 27 "CubeHeaps$Carrying" "ground" "LCubeHeaps$Ground;") (by decide +kernel)
  refine lv_aload_n hx hb dX0_init_0 rfl (lv_at hl 0 rfl) ?_
  refine W.objInit hx hb hown (hts (.methodLink RX0 3 objectInit) (by decide +kernel)) (hts (.instanceMethod objectInit) (by decide +kernel)) (hts (.code objectInit ⟨#[0xb1]⟩ 1 none) (by decide +kernel)) rfl (by rw [hml]; exact hl.1) rfl dX0_init_1 (Nat.le_of_ble_eq_true rfl) (Nat.le_of_ble_eq_true rfl) ?_
  refine W.eq (g2 := F0 m 4 ls []) rfl ?_
  refine lv_aload_n hx hb dX0_init_4 rfl (lv_at hl 0 rfl) ?_
  refine lv_bipush (v := (25 : Int32)) hx hb dX0_init_5 (by decide) ?_
  refine pn_newI (N := 25) (N' := 25) hx hb hE (by decide) (hts (.arrayClass .int) (by decide +kernel)) hP hS rfl (by decide) (by decide) (by decide) (Nat.le_of_ble_eq_true rfl) (Nat.le_of_ble_eq_true rfl) dX0_init_7 (fun H hP hS => ?_)
  refine pn_put hx hb hE hts iX0 tyX0_ok nmX0 hown hP hS rfl 1 (by decide) e9 hin rfl rfl rfl (Nat.le_of_ble_eq_true rfl) (fs' := [.null, .ref (E.2.1 91), .null, .null, .null, .null]) rfl dX0_init_9 (fun H locs hP hS => ?_)
  refine lv_aload_n hx hb dX0_init_12 rfl (lv_at hl 0 rfl) ?_
  refine lv_bipush (v := (100 : Int32)) hx hb dX0_init_13 (by decide) ?_
  refine pn_newI (N := 100) (N' := 100) hx hb hE (by decide) (hts (.arrayClass .int) (by decide +kernel)) hP hS rfl (by decide) (by decide) (by decide) (Nat.le_of_ble_eq_true rfl) (Nat.le_of_ble_eq_true rfl) dX0_init_15 (fun H hP hS => ?_)
  refine pn_put hx hb hE hts iX0 tyX0_ok nmX0 hown hP hS rfl 2 (by decide) e15 hin rfl rfl rfl (Nat.le_of_ble_eq_true rfl) (fs' := [.null, .ref (E.2.1 91), .ref (E.2.1 92), .null, .null, .null]) rfl dX0_init_17 (fun H locs hP hS => ?_)
  refine lv_aload_n hx hb dX0_init_20 rfl (lv_at hl 0 rfl) ?_
  refine lv_bipush (v := (25 : Int32)) hx hb dX0_init_21 (by decide) ?_
  refine pn_newI (N := 25) (N' := 25) hx hb hE (by decide) (hts (.arrayClass .int) (by decide +kernel)) hP hS rfl (by decide) (by decide) (by decide) (Nat.le_of_ble_eq_true rfl) (Nat.le_of_ble_eq_true rfl) dX0_init_23 (fun H hP hS => ?_)
  refine pn_put hx hb hE hts iX0 tyX0_ok nmX0 hown hP hS rfl 3 (by decide) e18 hin rfl rfl rfl (Nat.le_of_ble_eq_true rfl) (fs' := [.null, .ref (E.2.1 91), .ref (E.2.1 92), .ref (E.2.1 93), .null, .null]) rfl dX0_init_25 (fun H locs hP hS => ?_)
  refine lv_aload_n hx hb dX0_init_28 rfl (lv_at hl 0 rfl) ?_
  refine lv_bipush (v := (25 : Int32)) hx hb dX0_init_29 (by decide) ?_
  refine pn_newI (N := 25) (N' := 25) hx hb hE (by decide) (hts (.arrayClass .int) (by decide +kernel)) hP hS rfl (by decide) (by decide) (by decide) (Nat.le_of_ble_eq_true rfl) (Nat.le_of_ble_eq_true rfl) dX0_init_31 (fun H hP hS => ?_)
  refine pn_put hx hb hE hts iX0 tyX0_ok nmX0 hown hP hS rfl 4 (by decide) e21 hin rfl rfl rfl (Nat.le_of_ble_eq_true rfl) (fs' := [.null, .ref (E.2.1 91), .ref (E.2.1 92), .ref (E.2.1 93), .ref (E.2.1 94), .null]) rfl dX0_init_33 (fun H locs hP hS => ?_)
  refine lv_aload_n hx hb dX0_init_36 rfl (lv_at hl 0 rfl) ?_
  refine lv_bipush (v := (25 : Int32)) hx hb dX0_init_37 (by decide) ?_
  refine pn_newI (N := 25) (N' := 25) hx hb hE (by decide) (hts (.arrayClass .int) (by decide +kernel)) hP hS rfl (by decide) (by decide) (by decide) (Nat.le_of_ble_eq_true rfl) (Nat.le_of_ble_eq_true rfl) dX0_init_39 (fun H hP hS => ?_)
  refine pn_put hx hb hE hts iX0 tyX0_ok nmX0 hown hP hS rfl 5 (by decide) e24 hin rfl rfl rfl (Nat.le_of_ble_eq_true rfl) (fs' := [.null, .ref (E.2.1 91), .ref (E.2.1 92), .ref (E.2.1 93), .ref (E.2.1 94), .ref (E.2.1 95)]) rfl dX0_init_41 (fun H locs hP hS => ?_)
  refine lv_aload_n hx hb dX0_init_44 rfl (lv_at hl 0 rfl) ?_
  refine lv_aload_n hx hb dX0_init_45 rfl (lv_at hl 1 rfl) ?_
  refine pn_put hx hb hE hts iX0 tyX0_ok nmX0 hown hP hS rfl 0 (by decide) e27 hin rfl rfl rfl (Nat.le_of_ble_eq_true rfl) (fs' := [.ref (E.2.1 1), .ref (E.2.1 91), .ref (E.2.1 92), .ref (E.2.1 93), .ref (E.2.1 94), .ref (E.2.1 95)]) rfl dX0_init_46 (fun H locs hP hS => ?_)
  have hR := hP.done rfl
  exact hQ _ _ _ _ hR hS dX0_init_49
abbrev rmX6_init : Room := { frames := 1, cells := 2, slots := 50, locals := 12 }
set_option maxHeartbeats 4000000 in
set_option maxRecDepth 100000 in
theorem kX6_init (l : Launch) (E : Ev) (hE : ∀ k, E.2.1 k = E.2.1 0 + k) : CtN l yX6_init wsX6_init rmX6_init E 96 99 6 [.null, .null, .null] [.ref (E.2.1 96), .ref (E.2.1 1)] w0 2 50 := by
  refine mkN (cc := cX6_init) (maxL := 2) (by decide) rfl (Nat.le_of_ble_eq_true rfl) rfl ?_
  intro p e s m args below meth c Q S hin hPN hP hQ ls hl
  obtain ⟨hx, hb, hml, hown, hts⟩ := id S
  have hP0 := hP
  have hS : va_S (up0 E 96) s.heap s.heap [] := va_S.rf
  have hl : lv_has ls 2 [(0, .ref (E.2.1 96)), (1, .ref (E.2.1 1))] := hl
  have iX6 : ∀ w ∈ wsX60, w ∈ wsX6_init := by decide +kernel
  have e9 := hts (.fieldLink RX6 9 "CubeHeaps$Turning" "turned" "[I") (by decide +kernel)
  have e15 := hts (.fieldLink RX6 15 "CubeHeaps$Turning" "first" "[I") (by decide +kernel)
  have e18 := hts (.fieldLink RX6 18 "CubeHeaps$Turning" "ground" "LCubeHeaps$Ground;") (by decide +kernel)
  refine lv_aload_n hx hb dX6_init_0 rfl (lv_at hl 0 rfl) ?_
  refine W.objInit hx hb hown (hts (.methodLink RX6 3 objectInit) (by decide +kernel)) (hts (.instanceMethod objectInit) (by decide +kernel)) (hts (.code objectInit ⟨#[0xb1]⟩ 1 none) (by decide +kernel)) rfl (by rw [hml]; exact hl.1) rfl dX6_init_1 (Nat.le_of_ble_eq_true rfl) (Nat.le_of_ble_eq_true rfl) ?_
  refine W.eq (g2 := F0 m 4 ls []) rfl ?_
  refine lv_aload_n hx hb dX6_init_4 rfl (lv_at hl 0 rfl) ?_
  refine lv_bipush (v := (25 : Int32)) hx hb dX6_init_5 (by decide) ?_
  refine pn_newI (N := 25) (N' := 25) hx hb hE (by decide) (hts (.arrayClass .int) (by decide +kernel)) hP hS rfl (by decide) (by decide) (by decide) (Nat.le_of_ble_eq_true rfl) (Nat.le_of_ble_eq_true rfl) dX6_init_7 (fun H hP hS => ?_)
  refine pn_put hx hb hE hts iX6 tyX6_ok nmX6 hown hP hS rfl 1 (by decide) e9 hin rfl rfl rfl (Nat.le_of_ble_eq_true rfl) (fs' := [.null, .ref (E.2.1 97), .null]) rfl dX6_init_9 (fun H locs hP hS => ?_)
  refine lv_aload_n hx hb dX6_init_12 rfl (lv_at hl 0 rfl) ?_
  refine lv_bipush (v := (25 : Int32)) hx hb dX6_init_13 (by decide) ?_
  refine pn_newI (N := 25) (N' := 25) hx hb hE (by decide) (hts (.arrayClass .int) (by decide +kernel)) hP hS rfl (by decide) (by decide) (by decide) (Nat.le_of_ble_eq_true rfl) (Nat.le_of_ble_eq_true rfl) dX6_init_15 (fun H hP hS => ?_)
  refine pn_put hx hb hE hts iX6 tyX6_ok nmX6 hown hP hS rfl 2 (by decide) e15 hin rfl rfl rfl (Nat.le_of_ble_eq_true rfl) (fs' := [.null, .ref (E.2.1 97), .ref (E.2.1 98)]) rfl dX6_init_17 (fun H locs hP hS => ?_)
  refine lv_aload_n hx hb dX6_init_20 rfl (lv_at hl 0 rfl) ?_
  refine lv_aload_n hx hb dX6_init_21 rfl (lv_at hl 1 rfl) ?_
  refine pn_put hx hb hE hts iX6 tyX6_ok nmX6 hown hP hS rfl 0 (by decide) e18 hin rfl rfl rfl (Nat.le_of_ble_eq_true rfl) (fs' := [.ref (E.2.1 1), .ref (E.2.1 97), .ref (E.2.1 98)]) rfl dX6_init_22 (fun H locs hP hS => ?_)
  have hR := hP.done rfl
  exact hQ _ _ _ _ hR hS dX6_init_25
abbrev rmX9_init : Room := { frames := 1, cells := 22, slots := 4422, locals := 23 }
set_option maxHeartbeats 4000000 in
set_option maxRecDepth 100000 in
theorem kX9_init (l : Launch) (E : Ev) (hE : ∀ k, E.2.1 k = E.2.1 0 + k) (q : Unit × Wd) (h : fX9_layGround (4 : Int32) (4 : Int32) w0 = some q) : CtN l yX9_init wsX9_init rmX9_init E 99 122 9 [.int 0, .int 0, .null, .null, .null, .null, .null, .null, .null, .null, .null, .int 0, .int 0, .null, .null, .null, .null, .null, .null, .null, .null, .null, .null, .null, .null, .null] [.ref (E.2.1 99)] q.2 22 4422 := by
  refine mkN (cc := cX9_init) (maxL := 1) (by decide) rfl (Nat.le_of_ble_eq_true rfl) rfl ?_
  intro p e s m args below meth c Q S hin hPN hP hQ ls hl
  obtain ⟨hx, hb, hml, hown, hts⟩ := id S
  have hP0 := hP
  have hS : va_S (up0 E 99) s.heap s.heap [] := va_S.rf
  have hl : lv_has ls 1 [(0, .ref (E.2.1 99))] := hl
  have iX9 : ∀ w ∈ wsX90, w ∈ wsX9_init := by decide +kernel
  have e7 := hts (.fieldLink RX9 7 "CubeHeapsModel" "heap" "[I") (by decide +kernel)
  have e13 := hts (.fieldLink RX9 13 "CubeHeapsModel" "fronts" "[I") (by decide +kernel)
  have e16 := hts (.fieldLink RX9 16 "CubeHeapsModel" "sides" "[I") (by decide +kernel)
  have e19 := hts (.fieldLink RX9 19 "CubeHeapsModel" "tops" "[I") (by decide +kernel)
  have e22 := hts (.fieldLink RX9 22 "CubeHeapsModel" "columnSum" "[I") (by decide +kernel)
  have e25 := hts (.fieldLink RX9 25 "CubeHeapsModel" "rowSum" "[I") (by decide +kernel)
  have e28 := hts (.fieldLink RX9 28 "CubeHeapsModel" "mark" "[I") (by decide +kernel)
  have e31 := hts (.fieldLink RX9 31 "CubeHeapsModel" "ways" "[J") (by decide +kernel)
  have e35 := hts (.fieldLink RX9 35 "CubeHeapsModel" "best" "[I") (by decide +kernel)
  have e38 := hts (.fieldLink RX9 38 "CubeHeapsModel" "onlyCell" "I") (by decide +kernel)
  have e42 := hts (.fieldLink RX9 42 "CubeHeapsModel" "low" "[I") (by decide +kernel)
  have e45 := hts (.fieldLink RX9 45 "CubeHeapsModel" "high" "[I") (by decide +kernel)
  have e48 := hts (.fieldLink RX9 48 "CubeHeapsModel" "flow" "[I") (by decide +kernel)
  have e51 := hts (.fieldLink RX9 51 "CubeHeapsModel" "leftColumn" "[I") (by decide +kernel)
  have e54 := hts (.fieldLink RX9 54 "CubeHeapsModel" "leftRow" "[I") (by decide +kernel)
  have e57 := hts (.fieldLink RX9 57 "CubeHeapsModel" "came" "[I") (by decide +kernel)
  have e60 := hts (.fieldLink RX9 60 "CubeHeapsModel" "spare" "[I") (by decide +kernel)
  have e63 := hts (.fieldLink RX9 63 "CubeHeapsModel" "lack" "[I") (by decide +kernel)
  have e66 := hts (.fieldLink RX9 66 "CubeHeapsModel" "carried" "[I") (by decide +kernel)
  have e69 := hts (.fieldLink RX9 69 "CubeHeapsModel" "far" "[I") (by decide +kernel)
  have e72 := hts (.fieldLink RX9 72 "CubeHeapsModel" "by" "[I") (by decide +kernel)
  have e75 := hts (.fieldLink RX9 75 "CubeHeapsModel" "turned" "[I") (by decide +kernel)
  have e78 := hts (.fieldLink RX9 78 "CubeHeapsModel" "leastHeap" "[I") (by decide +kernel)
  refine lv_aload_n hx hb dX9_init_0 rfl (lv_at hl 0 rfl) ?_
  refine W.objInit hx hb hown (hts (.methodLink RX9 1 objectInit) (by decide +kernel)) (hts (.instanceMethod objectInit) (by decide +kernel)) (hts (.code objectInit ⟨#[0xb1]⟩ 1 none) (by decide +kernel)) rfl (by rw [hml]; exact hl.1) rfl dX9_init_1 (Nat.le_of_ble_eq_true rfl) (Nat.le_of_ble_eq_true rfl) ?_
  refine W.eq (g2 := F0 m 4 ls []) rfl ?_
  refine lv_aload_n hx hb dX9_init_4 rfl (lv_at hl 0 rfl) ?_
  refine lv_bipush (v := (100 : Int32)) hx hb dX9_init_5 (by decide) ?_
  refine pn_newI (N := 100) (N' := 100) hx hb hE (by decide) (hts (.arrayClass .int) (by decide +kernel)) hP hS rfl (by decide) (by decide) (by decide) (Nat.le_of_ble_eq_true rfl) (Nat.le_of_ble_eq_true rfl) dX9_init_7 (fun H hP hS => ?_)
  refine pn_put hx hb hE hts iX9 tyX9_ok nmX9 hown hP hS rfl 2 (by decide) e7 hin rfl rfl rfl (Nat.le_of_ble_eq_true rfl) (fs' := [.int 0, .int 0, .ref (E.2.1 100), .null, .null, .null, .null, .null, .null, .null, .null, .int 0, .int 0, .null, .null, .null, .null, .null, .null, .null, .null, .null, .null, .null, .null, .null]) rfl dX9_init_9 (fun H locs hP hS => ?_)
  refine lv_aload_n hx hb dX9_init_12 rfl (lv_at hl 0 rfl) ?_
  refine lv_iconst (v := (5 : Int32)) hx hb dX9_init_13 (by decide) ?_
  refine pn_newI (N := 5) (N' := 5) hx hb hE (by decide) (hts (.arrayClass .int) (by decide +kernel)) hP hS rfl (by decide) (by decide) (by decide) (Nat.le_of_ble_eq_true rfl) (Nat.le_of_ble_eq_true rfl) dX9_init_14 (fun H hP hS => ?_)
  refine pn_put hx hb hE hts iX9 tyX9_ok nmX9 hown hP hS rfl 3 (by decide) e13 hin rfl rfl rfl (Nat.le_of_ble_eq_true rfl) (fs' := [.int 0, .int 0, .ref (E.2.1 100), .ref (E.2.1 101), .null, .null, .null, .null, .null, .null, .null, .int 0, .int 0, .null, .null, .null, .null, .null, .null, .null, .null, .null, .null, .null, .null, .null]) rfl dX9_init_16 (fun H locs hP hS => ?_)
  refine lv_aload_n hx hb dX9_init_19 rfl (lv_at hl 0 rfl) ?_
  refine lv_iconst (v := (5 : Int32)) hx hb dX9_init_20 (by decide) ?_
  refine pn_newI (N := 5) (N' := 5) hx hb hE (by decide) (hts (.arrayClass .int) (by decide +kernel)) hP hS rfl (by decide) (by decide) (by decide) (Nat.le_of_ble_eq_true rfl) (Nat.le_of_ble_eq_true rfl) dX9_init_21 (fun H hP hS => ?_)
  refine pn_put hx hb hE hts iX9 tyX9_ok nmX9 hown hP hS rfl 4 (by decide) e16 hin rfl rfl rfl (Nat.le_of_ble_eq_true rfl) (fs' := [.int 0, .int 0, .ref (E.2.1 100), .ref (E.2.1 101), .ref (E.2.1 102), .null, .null, .null, .null, .null, .null, .int 0, .int 0, .null, .null, .null, .null, .null, .null, .null, .null, .null, .null, .null, .null, .null]) rfl dX9_init_23 (fun H locs hP hS => ?_)
  refine lv_aload_n hx hb dX9_init_26 rfl (lv_at hl 0 rfl) ?_
  refine lv_bipush (v := (25 : Int32)) hx hb dX9_init_27 (by decide) ?_
  refine pn_newI (N := 25) (N' := 25) hx hb hE (by decide) (hts (.arrayClass .int) (by decide +kernel)) hP hS rfl (by decide) (by decide) (by decide) (Nat.le_of_ble_eq_true rfl) (Nat.le_of_ble_eq_true rfl) dX9_init_29 (fun H hP hS => ?_)
  refine pn_put hx hb hE hts iX9 tyX9_ok nmX9 hown hP hS rfl 5 (by decide) e19 hin rfl rfl rfl (Nat.le_of_ble_eq_true rfl) (fs' := [.int 0, .int 0, .ref (E.2.1 100), .ref (E.2.1 101), .ref (E.2.1 102), .ref (E.2.1 103), .null, .null, .null, .null, .null, .int 0, .int 0, .null, .null, .null, .null, .null, .null, .null, .null, .null, .null, .null, .null, .null]) rfl dX9_init_31 (fun H locs hP hS => ?_)
  refine lv_aload_n hx hb dX9_init_34 rfl (lv_at hl 0 rfl) ?_
  refine lv_iconst (v := (5 : Int32)) hx hb dX9_init_35 (by decide) ?_
  refine pn_newI (N := 5) (N' := 5) hx hb hE (by decide) (hts (.arrayClass .int) (by decide +kernel)) hP hS rfl (by decide) (by decide) (by decide) (Nat.le_of_ble_eq_true rfl) (Nat.le_of_ble_eq_true rfl) dX9_init_36 (fun H hP hS => ?_)
  refine pn_put hx hb hE hts iX9 tyX9_ok nmX9 hown hP hS rfl 6 (by decide) e22 hin rfl rfl rfl (Nat.le_of_ble_eq_true rfl) (fs' := [.int 0, .int 0, .ref (E.2.1 100), .ref (E.2.1 101), .ref (E.2.1 102), .ref (E.2.1 103), .ref (E.2.1 104), .null, .null, .null, .null, .int 0, .int 0, .null, .null, .null, .null, .null, .null, .null, .null, .null, .null, .null, .null, .null]) rfl dX9_init_38 (fun H locs hP hS => ?_)
  refine lv_aload_n hx hb dX9_init_41 rfl (lv_at hl 0 rfl) ?_
  refine lv_iconst (v := (5 : Int32)) hx hb dX9_init_42 (by decide) ?_
  refine pn_newI (N := 5) (N' := 5) hx hb hE (by decide) (hts (.arrayClass .int) (by decide +kernel)) hP hS rfl (by decide) (by decide) (by decide) (Nat.le_of_ble_eq_true rfl) (Nat.le_of_ble_eq_true rfl) dX9_init_43 (fun H hP hS => ?_)
  refine pn_put hx hb hE hts iX9 tyX9_ok nmX9 hown hP hS rfl 7 (by decide) e25 hin rfl rfl rfl (Nat.le_of_ble_eq_true rfl) (fs' := [.int 0, .int 0, .ref (E.2.1 100), .ref (E.2.1 101), .ref (E.2.1 102), .ref (E.2.1 103), .ref (E.2.1 104), .ref (E.2.1 105), .null, .null, .null, .int 0, .int 0, .null, .null, .null, .null, .null, .null, .null, .null, .null, .null, .null, .null, .null]) rfl dX9_init_45 (fun H locs hP hS => ?_)
  refine lv_aload_n hx hb dX9_init_48 rfl (lv_at hl 0 rfl) ?_
  refine lv_bipush (v := (25 : Int32)) hx hb dX9_init_49 (by decide) ?_
  refine pn_newI (N := 25) (N' := 25) hx hb hE (by decide) (hts (.arrayClass .int) (by decide +kernel)) hP hS rfl (by decide) (by decide) (by decide) (Nat.le_of_ble_eq_true rfl) (Nat.le_of_ble_eq_true rfl) dX9_init_51 (fun H hP hS => ?_)
  refine pn_put hx hb hE hts iX9 tyX9_ok nmX9 hown hP hS rfl 8 (by decide) e28 hin rfl rfl rfl (Nat.le_of_ble_eq_true rfl) (fs' := [.int 0, .int 0, .ref (E.2.1 100), .ref (E.2.1 101), .ref (E.2.1 102), .ref (E.2.1 103), .ref (E.2.1 104), .ref (E.2.1 105), .ref (E.2.1 106), .null, .null, .int 0, .int 0, .null, .null, .null, .null, .null, .null, .null, .null, .null, .null, .null, .null, .null]) rfl dX9_init_53 (fun H locs hP hS => ?_)
  refine lv_aload_n hx hb dX9_init_56 rfl (lv_at hl 0 rfl) ?_
  refine lv_sipush (v := (1664 : Int32)) hx hb dX9_init_57 (by decide) ?_
  refine pn_newL (N := 1664) (N' := 1664) hx hb hE (by decide) (hts (.arrayClass .long) (by decide +kernel)) hP hS rfl (by decide) (by decide) (by decide) (Nat.le_of_ble_eq_true rfl) (Nat.le_of_ble_eq_true rfl) dX9_init_60 (fun H hP hS => ?_)
  refine pn_put hx hb hE hts iX9 tyX9_ok nmX9 hown hP hS rfl 9 (by decide) e31 hin rfl rfl rfl (Nat.le_of_ble_eq_true rfl) (fs' := [.int 0, .int 0, .ref (E.2.1 100), .ref (E.2.1 101), .ref (E.2.1 102), .ref (E.2.1 103), .ref (E.2.1 104), .ref (E.2.1 105), .ref (E.2.1 106), .ref (E.2.1 107), .null, .int 0, .int 0, .null, .null, .null, .null, .null, .null, .null, .null, .null, .null, .null, .null, .null]) rfl dX9_init_62 (fun H locs hP hS => ?_)
  refine lv_aload_n hx hb dX9_init_65 rfl (lv_at hl 0 rfl) ?_
  refine lv_sipush (v := (1664 : Int32)) hx hb dX9_init_66 (by decide) ?_
  refine pn_newI (N := 1664) (N' := 1664) hx hb hE (by decide) (hts (.arrayClass .int) (by decide +kernel)) hP hS rfl (by decide) (by decide) (by decide) (Nat.le_of_ble_eq_true rfl) (Nat.le_of_ble_eq_true rfl) dX9_init_69 (fun H hP hS => ?_)
  refine pn_put hx hb hE hts iX9 tyX9_ok nmX9 hown hP hS rfl 10 (by decide) e35 hin rfl rfl rfl (Nat.le_of_ble_eq_true rfl) (fs' := [.int 0, .int 0, .ref (E.2.1 100), .ref (E.2.1 101), .ref (E.2.1 102), .ref (E.2.1 103), .ref (E.2.1 104), .ref (E.2.1 105), .ref (E.2.1 106), .ref (E.2.1 107), .ref (E.2.1 108), .int 0, .int 0, .null, .null, .null, .null, .null, .null, .null, .null, .null, .null, .null, .null, .null]) rfl dX9_init_71 (fun H locs hP hS => ?_)
  refine lv_aload_n hx hb dX9_init_74 rfl (lv_at hl 0 rfl) ?_
  refine lv_bipush (v := (-9 : Int32)) hx hb dX9_init_75 (by decide) ?_
  refine pn_put hx hb hE hts iX9 tyX9_ok nmX9 hown hP hS rfl 11 (by decide) e38 hin rfl rfl rfl (Nat.le_of_ble_eq_true rfl) (fs' := [.int 0, .int 0, .ref (E.2.1 100), .ref (E.2.1 101), .ref (E.2.1 102), .ref (E.2.1 103), .ref (E.2.1 104), .ref (E.2.1 105), .ref (E.2.1 106), .ref (E.2.1 107), .ref (E.2.1 108), .int (-9 : Int32), .int 0, .null, .null, .null, .null, .null, .null, .null, .null, .null, .null, .null, .null, .null]) rfl dX9_init_77 (fun H locs hP hS => ?_)
  refine lv_aload_n hx hb dX9_init_80 rfl (lv_at hl 0 rfl) ?_
  refine lv_bipush (v := (25 : Int32)) hx hb dX9_init_81 (by decide) ?_
  refine pn_newI (N := 25) (N' := 25) hx hb hE (by decide) (hts (.arrayClass .int) (by decide +kernel)) hP hS rfl (by decide) (by decide) (by decide) (Nat.le_of_ble_eq_true rfl) (Nat.le_of_ble_eq_true rfl) dX9_init_83 (fun H hP hS => ?_)
  refine pn_put hx hb hE hts iX9 tyX9_ok nmX9 hown hP hS rfl 13 (by decide) e42 hin rfl rfl rfl (Nat.le_of_ble_eq_true rfl) (fs' := [.int 0, .int 0, .ref (E.2.1 100), .ref (E.2.1 101), .ref (E.2.1 102), .ref (E.2.1 103), .ref (E.2.1 104), .ref (E.2.1 105), .ref (E.2.1 106), .ref (E.2.1 107), .ref (E.2.1 108), .int (-9 : Int32), .int 0, .ref (E.2.1 109), .null, .null, .null, .null, .null, .null, .null, .null, .null, .null, .null, .null]) rfl dX9_init_85 (fun H locs hP hS => ?_)
  refine lv_aload_n hx hb dX9_init_88 rfl (lv_at hl 0 rfl) ?_
  refine lv_bipush (v := (25 : Int32)) hx hb dX9_init_89 (by decide) ?_
  refine pn_newI (N := 25) (N' := 25) hx hb hE (by decide) (hts (.arrayClass .int) (by decide +kernel)) hP hS rfl (by decide) (by decide) (by decide) (Nat.le_of_ble_eq_true rfl) (Nat.le_of_ble_eq_true rfl) dX9_init_91 (fun H hP hS => ?_)
  refine pn_put hx hb hE hts iX9 tyX9_ok nmX9 hown hP hS rfl 14 (by decide) e45 hin rfl rfl rfl (Nat.le_of_ble_eq_true rfl) (fs' := [.int 0, .int 0, .ref (E.2.1 100), .ref (E.2.1 101), .ref (E.2.1 102), .ref (E.2.1 103), .ref (E.2.1 104), .ref (E.2.1 105), .ref (E.2.1 106), .ref (E.2.1 107), .ref (E.2.1 108), .int (-9 : Int32), .int 0, .ref (E.2.1 109), .ref (E.2.1 110), .null, .null, .null, .null, .null, .null, .null, .null, .null, .null, .null]) rfl dX9_init_93 (fun H locs hP hS => ?_)
  refine lv_aload_n hx hb dX9_init_96 rfl (lv_at hl 0 rfl) ?_
  refine lv_bipush (v := (25 : Int32)) hx hb dX9_init_97 (by decide) ?_
  refine pn_newI (N := 25) (N' := 25) hx hb hE (by decide) (hts (.arrayClass .int) (by decide +kernel)) hP hS rfl (by decide) (by decide) (by decide) (Nat.le_of_ble_eq_true rfl) (Nat.le_of_ble_eq_true rfl) dX9_init_99 (fun H hP hS => ?_)
  refine pn_put hx hb hE hts iX9 tyX9_ok nmX9 hown hP hS rfl 15 (by decide) e48 hin rfl rfl rfl (Nat.le_of_ble_eq_true rfl) (fs' := [.int 0, .int 0, .ref (E.2.1 100), .ref (E.2.1 101), .ref (E.2.1 102), .ref (E.2.1 103), .ref (E.2.1 104), .ref (E.2.1 105), .ref (E.2.1 106), .ref (E.2.1 107), .ref (E.2.1 108), .int (-9 : Int32), .int 0, .ref (E.2.1 109), .ref (E.2.1 110), .ref (E.2.1 111), .null, .null, .null, .null, .null, .null, .null, .null, .null, .null]) rfl dX9_init_101 (fun H locs hP hS => ?_)
  refine lv_aload_n hx hb dX9_init_104 rfl (lv_at hl 0 rfl) ?_
  refine lv_iconst (v := (5 : Int32)) hx hb dX9_init_105 (by decide) ?_
  refine pn_newI (N := 5) (N' := 5) hx hb hE (by decide) (hts (.arrayClass .int) (by decide +kernel)) hP hS rfl (by decide) (by decide) (by decide) (Nat.le_of_ble_eq_true rfl) (Nat.le_of_ble_eq_true rfl) dX9_init_106 (fun H hP hS => ?_)
  refine pn_put hx hb hE hts iX9 tyX9_ok nmX9 hown hP hS rfl 16 (by decide) e51 hin rfl rfl rfl (Nat.le_of_ble_eq_true rfl) (fs' := [.int 0, .int 0, .ref (E.2.1 100), .ref (E.2.1 101), .ref (E.2.1 102), .ref (E.2.1 103), .ref (E.2.1 104), .ref (E.2.1 105), .ref (E.2.1 106), .ref (E.2.1 107), .ref (E.2.1 108), .int (-9 : Int32), .int 0, .ref (E.2.1 109), .ref (E.2.1 110), .ref (E.2.1 111), .ref (E.2.1 112), .null, .null, .null, .null, .null, .null, .null, .null, .null]) rfl dX9_init_108 (fun H locs hP hS => ?_)
  refine lv_aload_n hx hb dX9_init_111 rfl (lv_at hl 0 rfl) ?_
  refine lv_iconst (v := (5 : Int32)) hx hb dX9_init_112 (by decide) ?_
  refine pn_newI (N := 5) (N' := 5) hx hb hE (by decide) (hts (.arrayClass .int) (by decide +kernel)) hP hS rfl (by decide) (by decide) (by decide) (Nat.le_of_ble_eq_true rfl) (Nat.le_of_ble_eq_true rfl) dX9_init_113 (fun H hP hS => ?_)
  refine pn_put hx hb hE hts iX9 tyX9_ok nmX9 hown hP hS rfl 17 (by decide) e54 hin rfl rfl rfl (Nat.le_of_ble_eq_true rfl) (fs' := [.int 0, .int 0, .ref (E.2.1 100), .ref (E.2.1 101), .ref (E.2.1 102), .ref (E.2.1 103), .ref (E.2.1 104), .ref (E.2.1 105), .ref (E.2.1 106), .ref (E.2.1 107), .ref (E.2.1 108), .int (-9 : Int32), .int 0, .ref (E.2.1 109), .ref (E.2.1 110), .ref (E.2.1 111), .ref (E.2.1 112), .ref (E.2.1 113), .null, .null, .null, .null, .null, .null, .null, .null]) rfl dX9_init_115 (fun H locs hP hS => ?_)
  refine lv_aload_n hx hb dX9_init_118 rfl (lv_at hl 0 rfl) ?_
  refine lv_bipush (v := (10 : Int32)) hx hb dX9_init_119 (by decide) ?_
  refine pn_newI (N := 10) (N' := 10) hx hb hE (by decide) (hts (.arrayClass .int) (by decide +kernel)) hP hS rfl (by decide) (by decide) (by decide) (Nat.le_of_ble_eq_true rfl) (Nat.le_of_ble_eq_true rfl) dX9_init_121 (fun H hP hS => ?_)
  refine pn_put hx hb hE hts iX9 tyX9_ok nmX9 hown hP hS rfl 18 (by decide) e57 hin rfl rfl rfl (Nat.le_of_ble_eq_true rfl) (fs' := [.int 0, .int 0, .ref (E.2.1 100), .ref (E.2.1 101), .ref (E.2.1 102), .ref (E.2.1 103), .ref (E.2.1 104), .ref (E.2.1 105), .ref (E.2.1 106), .ref (E.2.1 107), .ref (E.2.1 108), .int (-9 : Int32), .int 0, .ref (E.2.1 109), .ref (E.2.1 110), .ref (E.2.1 111), .ref (E.2.1 112), .ref (E.2.1 113), .ref (E.2.1 114), .null, .null, .null, .null, .null, .null, .null]) rfl dX9_init_123 (fun H locs hP hS => ?_)
  refine lv_aload_n hx hb dX9_init_126 rfl (lv_at hl 0 rfl) ?_
  refine lv_bipush (v := (25 : Int32)) hx hb dX9_init_127 (by decide) ?_
  refine pn_newI (N := 25) (N' := 25) hx hb hE (by decide) (hts (.arrayClass .int) (by decide +kernel)) hP hS rfl (by decide) (by decide) (by decide) (Nat.le_of_ble_eq_true rfl) (Nat.le_of_ble_eq_true rfl) dX9_init_129 (fun H hP hS => ?_)
  refine pn_put hx hb hE hts iX9 tyX9_ok nmX9 hown hP hS rfl 19 (by decide) e60 hin rfl rfl rfl (Nat.le_of_ble_eq_true rfl) (fs' := [.int 0, .int 0, .ref (E.2.1 100), .ref (E.2.1 101), .ref (E.2.1 102), .ref (E.2.1 103), .ref (E.2.1 104), .ref (E.2.1 105), .ref (E.2.1 106), .ref (E.2.1 107), .ref (E.2.1 108), .int (-9 : Int32), .int 0, .ref (E.2.1 109), .ref (E.2.1 110), .ref (E.2.1 111), .ref (E.2.1 112), .ref (E.2.1 113), .ref (E.2.1 114), .ref (E.2.1 115), .null, .null, .null, .null, .null, .null]) rfl dX9_init_131 (fun H locs hP hS => ?_)
  refine lv_aload_n hx hb dX9_init_134 rfl (lv_at hl 0 rfl) ?_
  refine lv_bipush (v := (25 : Int32)) hx hb dX9_init_135 (by decide) ?_
  refine pn_newI (N := 25) (N' := 25) hx hb hE (by decide) (hts (.arrayClass .int) (by decide +kernel)) hP hS rfl (by decide) (by decide) (by decide) (Nat.le_of_ble_eq_true rfl) (Nat.le_of_ble_eq_true rfl) dX9_init_137 (fun H hP hS => ?_)
  refine pn_put hx hb hE hts iX9 tyX9_ok nmX9 hown hP hS rfl 20 (by decide) e63 hin rfl rfl rfl (Nat.le_of_ble_eq_true rfl) (fs' := [.int 0, .int 0, .ref (E.2.1 100), .ref (E.2.1 101), .ref (E.2.1 102), .ref (E.2.1 103), .ref (E.2.1 104), .ref (E.2.1 105), .ref (E.2.1 106), .ref (E.2.1 107), .ref (E.2.1 108), .int (-9 : Int32), .int 0, .ref (E.2.1 109), .ref (E.2.1 110), .ref (E.2.1 111), .ref (E.2.1 112), .ref (E.2.1 113), .ref (E.2.1 114), .ref (E.2.1 115), .ref (E.2.1 116), .null, .null, .null, .null, .null]) rfl dX9_init_139 (fun H locs hP hS => ?_)
  refine lv_aload_n hx hb dX9_init_142 rfl (lv_at hl 0 rfl) ?_
  refine lv_sipush (v := (625 : Int32)) hx hb dX9_init_143 (by decide) ?_
  refine pn_newI (N := 625) (N' := 625) hx hb hE (by decide) (hts (.arrayClass .int) (by decide +kernel)) hP hS rfl (by decide) (by decide) (by decide) (Nat.le_of_ble_eq_true rfl) (Nat.le_of_ble_eq_true rfl) dX9_init_146 (fun H hP hS => ?_)
  refine pn_put hx hb hE hts iX9 tyX9_ok nmX9 hown hP hS rfl 21 (by decide) e66 hin rfl rfl rfl (Nat.le_of_ble_eq_true rfl) (fs' := [.int 0, .int 0, .ref (E.2.1 100), .ref (E.2.1 101), .ref (E.2.1 102), .ref (E.2.1 103), .ref (E.2.1 104), .ref (E.2.1 105), .ref (E.2.1 106), .ref (E.2.1 107), .ref (E.2.1 108), .int (-9 : Int32), .int 0, .ref (E.2.1 109), .ref (E.2.1 110), .ref (E.2.1 111), .ref (E.2.1 112), .ref (E.2.1 113), .ref (E.2.1 114), .ref (E.2.1 115), .ref (E.2.1 116), .ref (E.2.1 117), .null, .null, .null, .null]) rfl dX9_init_148 (fun H locs hP hS => ?_)
  refine lv_aload_n hx hb dX9_init_151 rfl (lv_at hl 0 rfl) ?_
  refine lv_bipush (v := (52 : Int32)) hx hb dX9_init_152 (by decide) ?_
  refine pn_newI (N := 52) (N' := 52) hx hb hE (by decide) (hts (.arrayClass .int) (by decide +kernel)) hP hS rfl (by decide) (by decide) (by decide) (Nat.le_of_ble_eq_true rfl) (Nat.le_of_ble_eq_true rfl) dX9_init_154 (fun H hP hS => ?_)
  refine pn_put hx hb hE hts iX9 tyX9_ok nmX9 hown hP hS rfl 22 (by decide) e69 hin rfl rfl rfl (Nat.le_of_ble_eq_true rfl) (fs' := [.int 0, .int 0, .ref (E.2.1 100), .ref (E.2.1 101), .ref (E.2.1 102), .ref (E.2.1 103), .ref (E.2.1 104), .ref (E.2.1 105), .ref (E.2.1 106), .ref (E.2.1 107), .ref (E.2.1 108), .int (-9 : Int32), .int 0, .ref (E.2.1 109), .ref (E.2.1 110), .ref (E.2.1 111), .ref (E.2.1 112), .ref (E.2.1 113), .ref (E.2.1 114), .ref (E.2.1 115), .ref (E.2.1 116), .ref (E.2.1 117), .ref (E.2.1 118), .null, .null, .null]) rfl dX9_init_156 (fun H locs hP hS => ?_)
  refine lv_aload_n hx hb dX9_init_159 rfl (lv_at hl 0 rfl) ?_
  refine lv_bipush (v := (52 : Int32)) hx hb dX9_init_160 (by decide) ?_
  refine pn_newI (N := 52) (N' := 52) hx hb hE (by decide) (hts (.arrayClass .int) (by decide +kernel)) hP hS rfl (by decide) (by decide) (by decide) (Nat.le_of_ble_eq_true rfl) (Nat.le_of_ble_eq_true rfl) dX9_init_162 (fun H hP hS => ?_)
  refine pn_put hx hb hE hts iX9 tyX9_ok nmX9 hown hP hS rfl 23 (by decide) e72 hin rfl rfl rfl (Nat.le_of_ble_eq_true rfl) (fs' := [.int 0, .int 0, .ref (E.2.1 100), .ref (E.2.1 101), .ref (E.2.1 102), .ref (E.2.1 103), .ref (E.2.1 104), .ref (E.2.1 105), .ref (E.2.1 106), .ref (E.2.1 107), .ref (E.2.1 108), .int (-9 : Int32), .int 0, .ref (E.2.1 109), .ref (E.2.1 110), .ref (E.2.1 111), .ref (E.2.1 112), .ref (E.2.1 113), .ref (E.2.1 114), .ref (E.2.1 115), .ref (E.2.1 116), .ref (E.2.1 117), .ref (E.2.1 118), .ref (E.2.1 119), .null, .null]) rfl dX9_init_164 (fun H locs hP hS => ?_)
  refine lv_aload_n hx hb dX9_init_167 rfl (lv_at hl 0 rfl) ?_
  refine lv_bipush (v := (25 : Int32)) hx hb dX9_init_168 (by decide) ?_
  refine pn_newI (N := 25) (N' := 25) hx hb hE (by decide) (hts (.arrayClass .int) (by decide +kernel)) hP hS rfl (by decide) (by decide) (by decide) (Nat.le_of_ble_eq_true rfl) (Nat.le_of_ble_eq_true rfl) dX9_init_170 (fun H hP hS => ?_)
  refine pn_put hx hb hE hts iX9 tyX9_ok nmX9 hown hP hS rfl 24 (by decide) e75 hin rfl rfl rfl (Nat.le_of_ble_eq_true rfl) (fs' := [.int 0, .int 0, .ref (E.2.1 100), .ref (E.2.1 101), .ref (E.2.1 102), .ref (E.2.1 103), .ref (E.2.1 104), .ref (E.2.1 105), .ref (E.2.1 106), .ref (E.2.1 107), .ref (E.2.1 108), .int (-9 : Int32), .int 0, .ref (E.2.1 109), .ref (E.2.1 110), .ref (E.2.1 111), .ref (E.2.1 112), .ref (E.2.1 113), .ref (E.2.1 114), .ref (E.2.1 115), .ref (E.2.1 116), .ref (E.2.1 117), .ref (E.2.1 118), .ref (E.2.1 119), .ref (E.2.1 120), .null]) rfl dX9_init_172 (fun H locs hP hS => ?_)
  refine lv_aload_n hx hb dX9_init_175 rfl (lv_at hl 0 rfl) ?_
  refine lv_bipush (v := (25 : Int32)) hx hb dX9_init_176 (by decide) ?_
  refine pn_newI (N := 25) (N' := 25) hx hb hE (by decide) (hts (.arrayClass .int) (by decide +kernel)) hP hS rfl (by decide) (by decide) (by decide) (Nat.le_of_ble_eq_true rfl) (Nat.le_of_ble_eq_true rfl) dX9_init_178 (fun H hP hS => ?_)
  refine pn_put hx hb hE hts iX9 tyX9_ok nmX9 hown hP hS rfl 25 (by decide) e78 hin rfl rfl rfl (Nat.le_of_ble_eq_true rfl) (fs' := [.int 0, .int 0, .ref (E.2.1 100), .ref (E.2.1 101), .ref (E.2.1 102), .ref (E.2.1 103), .ref (E.2.1 104), .ref (E.2.1 105), .ref (E.2.1 106), .ref (E.2.1 107), .ref (E.2.1 108), .int (-9 : Int32), .int 0, .ref (E.2.1 109), .ref (E.2.1 110), .ref (E.2.1 111), .ref (E.2.1 112), .ref (E.2.1 113), .ref (E.2.1 114), .ref (E.2.1 115), .ref (E.2.1 116), .ref (E.2.1 117), .ref (E.2.1 118), .ref (E.2.1 119), .ref (E.2.1 120), .ref (E.2.1 121)]) rfl dX9_init_180 (fun H locs hP hS => ?_)
  refine lv_aload_n hx hb dX9_init_183 rfl (lv_at hl 0 rfl) ?_
  refine lv_iconst (v := (4 : Int32)) hx hb dX9_init_184 (by decide) ?_
  refine lv_iconst (v := (4 : Int32)) hx hb dX9_init_185 (by decide) ?_
  have hR := hP.done rfl
  refine pn_meth (As := [.int (4 : Int32), .int (4 : Int32)]) (rest := []) hE S hR (by decide) (by rw [hP0.1, hE 100, hE 122]) hS (kX9_layGround l E (fun k => 99 ≤ k ∧ k < 122) ((by decide : ∀ k ∈ ([99, 100, 101, 102, 103, 104, 105] : List Nat), 99 ≤ k ∧ k < 122)) (4 : Int32) (4 : Int32) w0 q h) (cwV 2 hts gX9_init_X9_layGround rfl rfl rfl hdX9_layGround ⟨Nat.le_of_ble_eq_true rfl, Nat.le_of_ble_eq_true rfl⟩) rfl rfl rfl rfl hl.1 rfl (Nat.le_of_ble_eq_true rfl) ⟨Nat.le_of_ble_eq_true rfl, Nat.le_of_ble_eq_true rfl⟩ dX9_init_186 (fun H locs hR hS => ?_)
  exact hQ _ _ _ _ hR hS dX9_init_189
abbrev rmX8_init : Room := { frames := 5, cells := 98, slots := 4369, locals := 114 }
set_option maxHeartbeats 4000000 in
set_option maxRecDepth 100000 in
theorem kX8_init (l : Launch) (E : Ev) (hE : ∀ k, E.2.1 k = E.2.1 0 + k) (qX2 : Unit × Wd) (hqX2 : fX2_become (4 : Int32) (4 : Int32) w0 = some qX2) (qX5 : Unit × Wd) (hqX5 : fX5_forget w0 = some qX5) : CtN l yX8_init wsX8_init rmX8_init E 0 99 8 [.null, .null, .null, .null, .null, .null, .null, .null] [.ref (E.2.1 0)] (mixW 96 99 (mixW 90 96 (mixW 79 90 (mixW 19 79 (mixW 14 19 (mixW 10 14 (mixW 1 5 w0 qX2.2) w0) qX5.2) w0) w0) w0) w0) 98 4369 := by
  refine mkN (cc := cX8_init) (maxL := 1) (by decide) rfl (Nat.le_of_ble_eq_true rfl) rfl ?_
  intro p e s m args below meth c Q S hin hPN hP hQ ls hl
  obtain ⟨hx, hb, hml, hown, hts⟩ := id S
  have hP0 := hP
  have hS : va_S (up0 E 0) s.heap s.heap [] := va_S.rf
  have hl : lv_has ls 1 [(0, .ref (E.2.1 0))] := hl
  have iX0 : ∀ w ∈ wsX00, w ∈ wsX8_init := by decide +kernel
  have iX1 : ∀ w ∈ wsX10, w ∈ wsX8_init := by decide +kernel
  have iX2 : ∀ w ∈ wsX20, w ∈ wsX8_init := by decide +kernel
  have iX4 : ∀ w ∈ wsX40, w ∈ wsX8_init := by decide +kernel
  have iX5 : ∀ w ∈ wsX50, w ∈ wsX8_init := by decide +kernel
  have iX6 : ∀ w ∈ wsX60, w ∈ wsX8_init := by decide +kernel
  have iX7 : ∀ w ∈ wsX70, w ∈ wsX8_init := by decide +kernel
  have iX8 : ∀ w ∈ wsX80, w ∈ wsX8_init := by decide +kernel
  have e14 := hts (.fieldLink RX8 14 "CubeHeaps" "ground" "LCubeHeaps$Ground;") (by decide +kernel)
  have e20 := hts (.fieldLink RX8 20 "CubeHeaps" "slots" "[[I") (by decide +kernel)
  have e28 := hts (.fieldLink RX8 28 "CubeHeaps" "view" "LCubeHeaps$View;") (by decide +kernel)
  have e37 := hts (.fieldLink RX8 37 "CubeHeaps" "told" "LCubeHeaps$Told;") (by decide +kernel)
  have e46 := hts (.fieldLink RX8 46 "CubeHeaps" "fitting" "LCubeHeaps$Fitting;") (by decide +kernel)
  have e53 := hts (.fieldLink RX8 53 "CubeHeaps" "sums" "LCubeHeaps$Sums;") (by decide +kernel)
  have e60 := hts (.fieldLink RX8 60 "CubeHeaps" "carrying" "LCubeHeaps$Carrying;") (by decide +kernel)
  have e67 := hts (.fieldLink RX8 67 "CubeHeaps" "turning" "LCubeHeaps$Turning;") (by decide +kernel)
  refine lv_aload_n hx hb dX8_init_0 rfl (lv_at hl 0 rfl) ?_
  refine W.objInit hx hb hown (hts (.methodLink RX8 3 objectInit) (by decide +kernel)) (hts (.instanceMethod objectInit) (by decide +kernel)) (hts (.code objectInit ⟨#[0xb1]⟩ 1 none) (by decide +kernel)) rfl (by rw [hml]; exact hl.1) rfl dX8_init_1 (Nat.le_of_ble_eq_true rfl) (Nat.le_of_ble_eq_true rfl) ?_
  refine W.eq (g2 := F0 m 4 ls []) rfl ?_
  refine lv_aload_n hx hb dX8_init_4 rfl (lv_at hl 0 rfl) ?_
  refine pn_new (n := 1) (gs := [.null, .null, .null, .int 0, .int 0]) (cj := 2) hx hb hE hts iX2 tyX2_ok hown (hts (.classLink RX8 9 RX2) (by decide +kernel)) (hts (.instantiable RX2 5) (by decide +kernel)) (hts (.initialized RX2) (by decide +kernel)) hP.2.2.2.1 hP.1 hP.2.2.2.2 hS rfl (fun j hj => match j, hj with
      | 0, _ => rfl
      | 1, _ => rfl
      | 2, _ => rfl
      | 3, _ => rfl
      | 4, _ => rfl
      | j + 5, h => absurd h (by omega)) (by rw [hE 0, hE 1]; omega) (Nat.le_of_ble_eq_true rfl) (Nat.le_of_ble_eq_true rfl) dX8_init_5 (fun H1 hN ho hS => ?_)
  refine lv_dup hx hb dX8_init_8 rfl ?_
  refine lv_iconst (v := (4 : Int32)) hx hb dX8_init_9 (by decide) ?_
  refine lv_iconst (v := (4 : Int32)) hx hb dX8_init_10 (by decide) ?_
  refine pn_call (As := [.int (4 : Int32), .int (4 : Int32)]) (rest := [.ref (E.2.1 1), .ref (E.2.1 0)]) S hN hPN hS (fun q z => Nat.le_trans (by rw [hE 0, hE 1]; omega) z) (kX2_init l E hE (4 : Int32) (4 : Int32) qX2 hqX2) (cwI 2 hts gX8_init_X2_init rfl rfl rfl (hts (.initialized RX2) (by decide +kernel)) (hts (.methodLink RX8 11 yX2_init) (by decide +kernel)) (hts (.instanceMethod yX2_init) (by decide +kernel)) rfl (by decide +kernel) ⟨Nat.le_of_ble_eq_true rfl, Nat.le_of_ble_eq_true rfl⟩) rfl hl.1 rfl (Nat.le_of_ble_eq_true rfl) ⟨Nat.le_of_ble_eq_true rfl, Nat.le_of_ble_eq_true rfl⟩ dX8_init_11 (fun H2 locs hR ho2 hS => ?_)
  have hP := pn_join hE (by decide) hP (fun q hq => (ho2 q hq).trans (ho q hq)) hR
  refine pn_put hx hb hE hts iX8 tyX8_ok nmX8 hown hP hS rfl 0 (by decide) e14 hin rfl rfl rfl (Nat.le_of_ble_eq_true rfl) (fs' := [.ref (E.2.1 1), .null, .null, .null, .null, .null, .null, .null]) rfl dX8_init_14 (fun H locs hP hS => ?_)
  refine lv_aload_n hx hb dX8_init_17 rfl (lv_at hl 0 rfl) ?_
  refine lv_iconst (v := (4 : Int32)) hx hb dX8_init_18 (by decide) ?_
  refine lv_bipush (v := (25 : Int32)) hx hb dX8_init_19 (by decide) ?_
  refine pn_mna (ty := .int) (t := 0) (N := 4) (K := 25) (N' := 4) (K' := 25) (z := (25, .inl (fun _ => 0))) (own := RX8) (index := 18) hx hb hE (by decide) hown (hts (.classLink RX8 18 "[[I") (by decide +kernel)) hPN.2.2.1 (hts (.arrayClass .int) (by decide +kernel)) hP hS (hP.2.2.2.1.2 0 _ rfl).2 rfl (hP.2.2.2.1.2 2 _ rfl).2 rfl (by decide) (by decide) (by decide) (by decide) rfl (fun i hi => match i, hi with
      | 0, _ => rfl
      | 1, _ => rfl
      | 2, _ => rfl
      | 3, _ => rfl
      | i + 4, h => absurd h (by omega)) (by decide) (by decide) (by decide) (by decide) (by decide) (Nat.le_of_ble_eq_true rfl) (Nat.le_of_ble_eq_true rfl) (fun c => by rw [vp_cell_i, ← arrV_new]; rfl) dX8_init_21 (fun H hP hS => ?_)
  refine pn_put hx hb hE hts iX8 tyX8_ok nmX8 hown hP hS rfl 1 (by decide) e20 hin rfl rfl rfl (Nat.le_of_ble_eq_true rfl) (fs' := [.ref (E.2.1 1), .ref (E.2.1 5), .null, .null, .null, .null, .null, .null]) rfl dX8_init_25 (fun H locs hP hS => ?_)
  refine lv_aload_n hx hb dX8_init_28 rfl (lv_at hl 0 rfl) ?_
  refine pn_new (n := 10) (gs := [.null, .null, .null, .null]) (cj := 7) hx hb hE hts iX7 tyX7_ok hown (hts (.classLink RX8 23 RX7) (by decide +kernel)) (hts (.instantiable RX7 4) (by decide +kernel)) (hts (.initialized RX7) (by decide +kernel)) hP.2.2.2.1 hP.1 hP.2.2.2.2 hS rfl (fun j hj => match j, hj with
      | 0, _ => rfl
      | 1, _ => rfl
      | 2, _ => rfl
      | 3, _ => rfl
      | j + 4, h => absurd h (by omega)) (by rw [hE 0, hE 10]; omega) (Nat.le_of_ble_eq_true rfl) (Nat.le_of_ble_eq_true rfl) dX8_init_29 (fun H1 hN ho hS => ?_)
  refine lv_dup hx hb dX8_init_32 rfl ?_
  refine lv_aload_n hx hb dX8_init_33 rfl (lv_at hl 0 rfl) ?_
  refine pn_get (fs := [.ref (E.2.1 1), .ref (E.2.1 5), .null, .null, .null, .null, .null, .null]) hx hb hts iX8 hown hN.2.2.2.1 (hP.2.2.1.kept (ho _ (hE_lt hE (by decide)))) rfl 0 (by decide) e14 rfl dX8_init_34 ?_
  refine pn_call (As := [.ref (E.2.1 1)]) (rest := [.ref (E.2.1 10), .ref (E.2.1 0)]) S hN hPN hS (fun q z => Nat.le_trans (by rw [hE 0, hE 10]; omega) z) (kX7_init l E hE) (cwI 1 hts gX8_init_X7_init rfl rfl rfl (hts (.initialized RX7) (by decide +kernel)) (hts (.methodLink RX8 25 yX7_init) (by decide +kernel)) (hts (.instanceMethod yX7_init) (by decide +kernel)) rfl (by decide +kernel) ⟨Nat.le_of_ble_eq_true rfl, Nat.le_of_ble_eq_true rfl⟩) rfl hl.1 rfl (Nat.le_of_ble_eq_true rfl) ⟨Nat.le_of_ble_eq_true rfl, Nat.le_of_ble_eq_true rfl⟩ dX8_init_37 (fun H2 locs hR ho2 hS => ?_)
  have hP := pn_join hE (by decide) hP (fun q hq => (ho2 q hq).trans (ho q hq)) hR
  refine pn_put hx hb hE hts iX8 tyX8_ok nmX8 hown hP hS rfl 2 (by decide) e28 hin rfl rfl rfl (Nat.le_of_ble_eq_true rfl) (fs' := [.ref (E.2.1 1), .ref (E.2.1 5), .ref (E.2.1 10), .null, .null, .null, .null, .null]) rfl dX8_init_40 (fun H locs hP hS => ?_)
  refine lv_aload_n hx hb dX8_init_43 rfl (lv_at hl 0 rfl) ?_
  refine pn_new (n := 14) (gs := [.null, .null, .null, .null, .int 0]) (cj := 5) hx hb hE hts iX5 tyX5_ok hown (hts (.classLink RX8 32 RX5) (by decide +kernel)) (hts (.instantiable RX5 5) (by decide +kernel)) (hts (.initialized RX5) (by decide +kernel)) hP.2.2.2.1 hP.1 hP.2.2.2.2 hS rfl (fun j hj => match j, hj with
      | 0, _ => rfl
      | 1, _ => rfl
      | 2, _ => rfl
      | 3, _ => rfl
      | 4, _ => rfl
      | j + 5, h => absurd h (by omega)) (by rw [hE 0, hE 14]; omega) (Nat.le_of_ble_eq_true rfl) (Nat.le_of_ble_eq_true rfl) dX8_init_44 (fun H1 hN ho hS => ?_)
  refine lv_dup hx hb dX8_init_47 rfl ?_
  refine lv_aload_n hx hb dX8_init_48 rfl (lv_at hl 0 rfl) ?_
  refine pn_get (fs := [.ref (E.2.1 1), .ref (E.2.1 5), .ref (E.2.1 10), .null, .null, .null, .null, .null]) hx hb hts iX8 hown hN.2.2.2.1 (hP.2.2.1.kept (ho _ (hE_lt hE (by decide)))) rfl 0 (by decide) e14 rfl dX8_init_49 ?_
  refine lv_aload_n hx hb dX8_init_52 rfl (lv_at hl 0 rfl) ?_
  refine pn_get (fs := [.ref (E.2.1 1), .ref (E.2.1 5), .ref (E.2.1 10), .null, .null, .null, .null, .null]) hx hb hts iX8 hown hN.2.2.2.1 (hP.2.2.1.kept (ho _ (hE_lt hE (by decide)))) rfl 2 (by decide) e28 rfl dX8_init_53 ?_
  refine pn_call (As := [.ref (E.2.1 1), .ref (E.2.1 10)]) (rest := [.ref (E.2.1 14), .ref (E.2.1 0)]) S hN hPN hS (fun q z => Nat.le_trans (by rw [hE 0, hE 14]; omega) z) (kX5_init l E hE  qX5 hqX5) (cwI 2 hts gX8_init_X5_init rfl rfl rfl (hts (.initialized RX5) (by decide +kernel)) (hts (.methodLink RX8 34 yX5_init) (by decide +kernel)) (hts (.instanceMethod yX5_init) (by decide +kernel)) rfl (by decide +kernel) ⟨Nat.le_of_ble_eq_true rfl, Nat.le_of_ble_eq_true rfl⟩) rfl hl.1 rfl (Nat.le_of_ble_eq_true rfl) ⟨Nat.le_of_ble_eq_true rfl, Nat.le_of_ble_eq_true rfl⟩ dX8_init_56 (fun H2 locs hR ho2 hS => ?_)
  have hP := pn_join hE (by decide) hP (fun q hq => (ho2 q hq).trans (ho q hq)) hR
  refine pn_put hx hb hE hts iX8 tyX8_ok nmX8 hown hP hS rfl 3 (by decide) e37 hin rfl rfl rfl (Nat.le_of_ble_eq_true rfl) (fs' := [.ref (E.2.1 1), .ref (E.2.1 5), .ref (E.2.1 10), .ref (E.2.1 14), .null, .null, .null, .null]) rfl dX8_init_59 (fun H locs hP hS => ?_)
  refine lv_aload_n hx hb dX8_init_62 rfl (lv_at hl 0 rfl) ?_
  refine pn_new (n := 19) (gs := [.null, .null, .null, .null, .null, .null, .null, .null, .null, .int 0]) (cj := 1) hx hb hE hts iX1 tyX1_ok hown (hts (.classLink RX8 41 RX1) (by decide +kernel)) (hts (.instantiable RX1 10) (by decide +kernel)) (hts (.initialized RX1) (by decide +kernel)) hP.2.2.2.1 hP.1 hP.2.2.2.2 hS rfl (fun j hj => match j, hj with
      | 0, _ => rfl
      | 1, _ => rfl
      | 2, _ => rfl
      | 3, _ => rfl
      | 4, _ => rfl
      | 5, _ => rfl
      | 6, _ => rfl
      | 7, _ => rfl
      | 8, _ => rfl
      | 9, _ => rfl
      | j + 10, h => absurd h (by omega)) (by rw [hE 0, hE 19]; omega) (Nat.le_of_ble_eq_true rfl) (Nat.le_of_ble_eq_true rfl) dX8_init_63 (fun H1 hN ho hS => ?_)
  refine lv_dup hx hb dX8_init_66 rfl ?_
  refine lv_aload_n hx hb dX8_init_67 rfl (lv_at hl 0 rfl) ?_
  refine pn_get (fs := [.ref (E.2.1 1), .ref (E.2.1 5), .ref (E.2.1 10), .ref (E.2.1 14), .null, .null, .null, .null]) hx hb hts iX8 hown hN.2.2.2.1 (hP.2.2.1.kept (ho _ (hE_lt hE (by decide)))) rfl 0 (by decide) e14 rfl dX8_init_68 ?_
  refine lv_aload_n hx hb dX8_init_71 rfl (lv_at hl 0 rfl) ?_
  refine pn_get (fs := [.ref (E.2.1 1), .ref (E.2.1 5), .ref (E.2.1 10), .ref (E.2.1 14), .null, .null, .null, .null]) hx hb hts iX8 hown hN.2.2.2.1 (hP.2.2.1.kept (ho _ (hE_lt hE (by decide)))) rfl 3 (by decide) e37 rfl dX8_init_72 ?_
  refine pn_call (As := [.ref (E.2.1 1), .ref (E.2.1 14)]) (rest := [.ref (E.2.1 19), .ref (E.2.1 0)]) S hN hPN hS (fun q z => Nat.le_trans (by rw [hE 0, hE 19]; omega) z) (kX1_init l E hE) (cwI 2 hts gX8_init_X1_init rfl rfl rfl (hts (.initialized RX1) (by decide +kernel)) (hts (.methodLink RX8 43 yX1_init) (by decide +kernel)) (hts (.instanceMethod yX1_init) (by decide +kernel)) rfl (by decide +kernel) ⟨Nat.le_of_ble_eq_true rfl, Nat.le_of_ble_eq_true rfl⟩) rfl hl.1 rfl (Nat.le_of_ble_eq_true rfl) ⟨Nat.le_of_ble_eq_true rfl, Nat.le_of_ble_eq_true rfl⟩ dX8_init_75 (fun H2 locs hR ho2 hS => ?_)
  have hP := pn_join hE (by decide) hP (fun q hq => (ho2 q hq).trans (ho q hq)) hR
  refine pn_put hx hb hE hts iX8 tyX8_ok nmX8 hown hP hS rfl 4 (by decide) e46 hin rfl rfl rfl (Nat.le_of_ble_eq_true rfl) (fs' := [.ref (E.2.1 1), .ref (E.2.1 5), .ref (E.2.1 10), .ref (E.2.1 14), .ref (E.2.1 19), .null, .null, .null]) rfl dX8_init_78 (fun H locs hP hS => ?_)
  refine lv_aload_n hx hb dX8_init_81 rfl (lv_at hl 0 rfl) ?_
  refine pn_new (n := 79) (gs := [.null, .null, .null, .null, .null, .null, .null, .null, .null, .null]) (cj := 4) hx hb hE hts iX4 tyX4_ok hown (hts (.classLink RX8 50 RX4) (by decide +kernel)) (hts (.instantiable RX4 10) (by decide +kernel)) (hts (.initialized RX4) (by decide +kernel)) hP.2.2.2.1 hP.1 hP.2.2.2.2 hS rfl (fun j hj => match j, hj with
      | 0, _ => rfl
      | 1, _ => rfl
      | 2, _ => rfl
      | 3, _ => rfl
      | 4, _ => rfl
      | 5, _ => rfl
      | 6, _ => rfl
      | 7, _ => rfl
      | 8, _ => rfl
      | 9, _ => rfl
      | j + 10, h => absurd h (by omega)) (by rw [hE 0, hE 79]; omega) (Nat.le_of_ble_eq_true rfl) (Nat.le_of_ble_eq_true rfl) dX8_init_82 (fun H1 hN ho hS => ?_)
  refine lv_dup hx hb dX8_init_85 rfl ?_
  refine lv_aload_n hx hb dX8_init_86 rfl (lv_at hl 0 rfl) ?_
  refine pn_get (fs := [.ref (E.2.1 1), .ref (E.2.1 5), .ref (E.2.1 10), .ref (E.2.1 14), .ref (E.2.1 19), .null, .null, .null]) hx hb hts iX8 hown hN.2.2.2.1 (hP.2.2.1.kept (ho _ (hE_lt hE (by decide)))) rfl 0 (by decide) e14 rfl dX8_init_87 ?_
  refine lv_aload_n hx hb dX8_init_90 rfl (lv_at hl 0 rfl) ?_
  refine pn_get (fs := [.ref (E.2.1 1), .ref (E.2.1 5), .ref (E.2.1 10), .ref (E.2.1 14), .ref (E.2.1 19), .null, .null, .null]) hx hb hts iX8 hown hN.2.2.2.1 (hP.2.2.1.kept (ho _ (hE_lt hE (by decide)))) rfl 3 (by decide) e37 rfl dX8_init_91 ?_
  refine pn_call (As := [.ref (E.2.1 1), .ref (E.2.1 14)]) (rest := [.ref (E.2.1 79), .ref (E.2.1 0)]) S hN hPN hS (fun q z => Nat.le_trans (by rw [hE 0, hE 79]; omega) z) (kX4_init l E hE) (cwI 2 hts gX8_init_X4_init rfl rfl rfl (hts (.initialized RX4) (by decide +kernel)) (hts (.methodLink RX8 52 yX4_init) (by decide +kernel)) (hts (.instanceMethod yX4_init) (by decide +kernel)) rfl (by decide +kernel) ⟨Nat.le_of_ble_eq_true rfl, Nat.le_of_ble_eq_true rfl⟩) rfl hl.1 rfl (Nat.le_of_ble_eq_true rfl) ⟨Nat.le_of_ble_eq_true rfl, Nat.le_of_ble_eq_true rfl⟩ dX8_init_94 (fun H2 locs hR ho2 hS => ?_)
  have hP := pn_join hE (by decide) hP (fun q hq => (ho2 q hq).trans (ho q hq)) hR
  refine pn_put hx hb hE hts iX8 tyX8_ok nmX8 hown hP hS rfl 5 (by decide) e53 hin rfl rfl rfl (Nat.le_of_ble_eq_true rfl) (fs' := [.ref (E.2.1 1), .ref (E.2.1 5), .ref (E.2.1 10), .ref (E.2.1 14), .ref (E.2.1 19), .ref (E.2.1 79), .null, .null]) rfl dX8_init_97 (fun H locs hP hS => ?_)
  refine lv_aload_n hx hb dX8_init_100 rfl (lv_at hl 0 rfl) ?_
  refine pn_new (n := 90) (gs := [.null, .null, .null, .null, .null, .null]) (cj := 0) hx hb hE hts iX0 tyX0_ok hown (hts (.classLink RX8 57 RX0) (by decide +kernel)) (hts (.instantiable RX0 6) (by decide +kernel)) (hts (.initialized RX0) (by decide +kernel)) hP.2.2.2.1 hP.1 hP.2.2.2.2 hS rfl (fun j hj => match j, hj with
      | 0, _ => rfl
      | 1, _ => rfl
      | 2, _ => rfl
      | 3, _ => rfl
      | 4, _ => rfl
      | 5, _ => rfl
      | j + 6, h => absurd h (by omega)) (by rw [hE 0, hE 90]; omega) (Nat.le_of_ble_eq_true rfl) (Nat.le_of_ble_eq_true rfl) dX8_init_101 (fun H1 hN ho hS => ?_)
  refine lv_dup hx hb dX8_init_104 rfl ?_
  refine lv_aload_n hx hb dX8_init_105 rfl (lv_at hl 0 rfl) ?_
  refine pn_get (fs := [.ref (E.2.1 1), .ref (E.2.1 5), .ref (E.2.1 10), .ref (E.2.1 14), .ref (E.2.1 19), .ref (E.2.1 79), .null, .null]) hx hb hts iX8 hown hN.2.2.2.1 (hP.2.2.1.kept (ho _ (hE_lt hE (by decide)))) rfl 0 (by decide) e14 rfl dX8_init_106 ?_
  refine pn_call (As := [.ref (E.2.1 1)]) (rest := [.ref (E.2.1 90), .ref (E.2.1 0)]) S hN hPN hS (fun q z => Nat.le_trans (by rw [hE 0, hE 90]; omega) z) (kX0_init l E hE) (cwI 1 hts gX8_init_X0_init rfl rfl rfl (hts (.initialized RX0) (by decide +kernel)) (hts (.methodLink RX8 59 yX0_init) (by decide +kernel)) (hts (.instanceMethod yX0_init) (by decide +kernel)) rfl (by decide +kernel) ⟨Nat.le_of_ble_eq_true rfl, Nat.le_of_ble_eq_true rfl⟩) rfl hl.1 rfl (Nat.le_of_ble_eq_true rfl) ⟨Nat.le_of_ble_eq_true rfl, Nat.le_of_ble_eq_true rfl⟩ dX8_init_109 (fun H2 locs hR ho2 hS => ?_)
  have hP := pn_join hE (by decide) hP (fun q hq => (ho2 q hq).trans (ho q hq)) hR
  refine pn_put hx hb hE hts iX8 tyX8_ok nmX8 hown hP hS rfl 6 (by decide) e60 hin rfl rfl rfl (Nat.le_of_ble_eq_true rfl) (fs' := [.ref (E.2.1 1), .ref (E.2.1 5), .ref (E.2.1 10), .ref (E.2.1 14), .ref (E.2.1 19), .ref (E.2.1 79), .ref (E.2.1 90), .null]) rfl dX8_init_112 (fun H locs hP hS => ?_)
  refine lv_aload_n hx hb dX8_init_115 rfl (lv_at hl 0 rfl) ?_
  refine pn_new (n := 96) (gs := [.null, .null, .null]) (cj := 6) hx hb hE hts iX6 tyX6_ok hown (hts (.classLink RX8 64 RX6) (by decide +kernel)) (hts (.instantiable RX6 3) (by decide +kernel)) (hts (.initialized RX6) (by decide +kernel)) hP.2.2.2.1 hP.1 hP.2.2.2.2 hS rfl (fun j hj => match j, hj with
      | 0, _ => rfl
      | 1, _ => rfl
      | 2, _ => rfl
      | j + 3, h => absurd h (by omega)) (by rw [hE 0, hE 96]; omega) (Nat.le_of_ble_eq_true rfl) (Nat.le_of_ble_eq_true rfl) dX8_init_116 (fun H1 hN ho hS => ?_)
  refine lv_dup hx hb dX8_init_119 rfl ?_
  refine lv_aload_n hx hb dX8_init_120 rfl (lv_at hl 0 rfl) ?_
  refine pn_get (fs := [.ref (E.2.1 1), .ref (E.2.1 5), .ref (E.2.1 10), .ref (E.2.1 14), .ref (E.2.1 19), .ref (E.2.1 79), .ref (E.2.1 90), .null]) hx hb hts iX8 hown hN.2.2.2.1 (hP.2.2.1.kept (ho _ (hE_lt hE (by decide)))) rfl 0 (by decide) e14 rfl dX8_init_121 ?_
  refine pn_call (As := [.ref (E.2.1 1)]) (rest := [.ref (E.2.1 96), .ref (E.2.1 0)]) S hN hPN hS (fun q z => Nat.le_trans (by rw [hE 0, hE 96]; omega) z) (kX6_init l E hE) (cwI 1 hts gX8_init_X6_init rfl rfl rfl (hts (.initialized RX6) (by decide +kernel)) (hts (.methodLink RX8 66 yX6_init) (by decide +kernel)) (hts (.instanceMethod yX6_init) (by decide +kernel)) rfl (by decide +kernel) ⟨Nat.le_of_ble_eq_true rfl, Nat.le_of_ble_eq_true rfl⟩) rfl hl.1 rfl (Nat.le_of_ble_eq_true rfl) ⟨Nat.le_of_ble_eq_true rfl, Nat.le_of_ble_eq_true rfl⟩ dX8_init_124 (fun H2 locs hR ho2 hS => ?_)
  have hP := pn_join hE (by decide) hP (fun q hq => (ho2 q hq).trans (ho q hq)) hR
  refine pn_put hx hb hE hts iX8 tyX8_ok nmX8 hown hP hS rfl 7 (by decide) e67 hin rfl rfl rfl (Nat.le_of_ble_eq_true rfl) (fs' := [.ref (E.2.1 1), .ref (E.2.1 5), .ref (E.2.1 10), .ref (E.2.1 14), .ref (E.2.1 19), .ref (E.2.1 79), .ref (E.2.1 90), .ref (E.2.1 96)]) rfl dX8_init_127 (fun H locs hP hS => ?_)
  have hR := hP.done rfl
  exact hQ _ _ _ _ hR hS dX8_init_130
