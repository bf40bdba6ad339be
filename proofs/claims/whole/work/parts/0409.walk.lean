noncomputable def fX9_fits (p1 : Int32) (w : Wd) : Option (Int32 × Wd) :=
  bnd (fX9_isSlot p1 w) fun x1 w2 => if x1 = 0 then some ((-1 : Int32), w2) else bnd (fX9_isFit p1 w2) fun x3 w4 => if x3 = 0 then some ((0 : Int32), w4) else some ((1 : Int32), w4)
abbrev rmX9_fits : Room := { frames := 3, cells := 0, slots := 0, locals := 72 }
set_option maxHeartbeats 4000000 in
set_option maxRecDepth 100000 in
theorem kX9_fits (l : Launch) (E : Ev) (p1 : Int32) (w : Wd) (q : Int32 × Wd) (h : fX9_fits p1 w = some q) : CtI l yX9_fits wsX9_fits rmX9_fits E full [.ref (E.2.1 99), .int p1] w q := by
  refine mkI (cc := cX9_fits) (maxL := 2) (by decide) rfl (Nat.le_of_ble_eq_true rfl) ?_
  intro p e s m args below meth c Q S hW hQ ls hl
  obtain ⟨hx, hb, hml, hown, hts⟩ := id S
  have hW0 := hW
  have hS : va_S (wA E full) s.heap s.heap [] := va_S.rf
  have hl : lv_has ls 2 [(0, .ref (E.2.1 99)), (1, .int p1)] := hl
  unfold fX9_fits at h
  refine lv_iload_n hx hb dX9_fits_0 rfl (lv_at hl 1 rfl) ?_
  refine rc_Si (As := [.int p1]) (rest := []) S hW hS h (kX9_isSlot l E p1 w) (va_cwS 1 hts gX9_fits_X9_isSlot rfl rfl rfl hdX9_isSlot ⟨Nat.le_of_ble_eq_true rfl, Nat.le_of_ble_eq_true rfl⟩) rfl hl.1 rfl (Nat.le_of_ble_eq_true rfl) ⟨Nat.zero_le _, Nat.zero_le _⟩ dX9_fits_1 (fun x1 w2 H locs h hW hS => ?_)
  refine rb_if_ne (tgt := 11) hx hb h dX9_fits_4 (by decide) (fun h => ?_) (fun h => ?_)
  · refine lv_aload_n hx hb dX9_fits_11 rfl (lv_at hl 0 rfl) ?_
    refine lv_iload_n hx hb dX9_fits_12 rfl (lv_at hl 1 rfl) ?_
    refine rc_Vi (k := 99) (As := [.int p1]) (rest := []) S hW hS h (kX9_isFit l E p1 w2) (cwV 1 hts gX9_fits_X9_isFit rfl rfl rfl hdX9_isFit ⟨Nat.le_of_ble_eq_true rfl, Nat.le_of_ble_eq_true rfl⟩) (fl 99 rfl) rfl rfl rfl rfl hl.1 rfl (Nat.le_of_ble_eq_true rfl) ⟨Nat.zero_le _, Nat.zero_le _⟩ dX9_fits_13 (fun x3 w4 H locs h hW hS => ?_)
    refine rb_if_eq (tgt := 23) hx hb h dX9_fits_16 (by decide) (fun h => ?_) (fun h => ?_)
    · refine lv_iconst (v := (0 : Int32)) hx hb dX9_fits_23 (by decide) ?_
      exact rrI hQ hW hS h dX9_fits_24
    · refine lv_iconst (v := (1 : Int32)) hx hb dX9_fits_19 (by decide) ?_
      refine lv_goto (tgt := 24) hx hb dX9_fits_20 (by decide) ?_
      exact rrI hQ hW hS h dX9_fits_24
  · refine lv_iconst (v := (-1 : Int32)) hx hb dX9_fits_7 (by decide) ?_
    refine lv_goto (tgt := 24) hx hb dX9_fits_8 (by decide) ?_
    exact rrI hQ hW hS h dX9_fits_24
noncomputable def jX9_then_252 (p1 : Int32) (p2 : Int32) (p3 : Int32) (v7 : Int32) (v8 : Int32) (s0 : Int32)  (w : Wd) : Option (Int32 × Wd) :=
  if s0 = 0 then some ((((2 : Int32) * v7) + v8), w) else some ((-9 : Int32), w)
noncomputable def jX9_then_247 (p1 : Int32) (p2 : Int32) (p3 : Int32) (v7 : Int32) (v8 : Int32)  (w : Wd) : Option (Int32 × Wd) :=
  jX9_then_252 p1 p2 p3 v7 v8 (1 : Int32) w
noncomputable def jX9_then_251 (p1 : Int32) (p2 : Int32) (p3 : Int32) (v7 : Int32) (v8 : Int32)  (w : Wd) : Option (Int32 × Wd) :=
  jX9_then_252 p1 p2 p3 v7 v8 (0 : Int32) w
noncomputable def jX9_then_226 (p1 : Int32) (p2 : Int32) (p3 : Int32) (v4 : Int32) (v5 : Int32) (v7 : Int32) (v8 : Int32)  (w : Wd) : Option (Int32 × Wd) :=
  if v5 = ((w.1 99 1) - (1 : Int32)) then if ((v7 >>> (v4 &&& 31)) &&& (1 : Int32)) = 0 then jX9_then_247 p1 p2 p3 v7 v8 w else jX9_then_251 p1 p2 p3 v7 v8 w else jX9_then_251 p1 p2 p3 v7 v8 w
noncomputable def jX9_then_207 (p1 : Int32) (p2 : Int32) (p3 : Int32) (v4 : Int32) (v5 : Int32) (v7 : Int32) (s0 : Int32) (s1 : Int32)  (w : Wd) : Option (Int32 × Wd) :=
  if v4 = ((w.1 99 0) - (1 : Int32)) then if (s1 ||| s0) = 0 then jX9_then_247 p1 p2 p3 v7 (s1 ||| s0) w else jX9_then_226 p1 p2 p3 v4 v5 v7 (s1 ||| s0) w else jX9_then_226 p1 p2 p3 v4 v5 v7 (s1 ||| s0) w
noncomputable def jX9_then_202 (p1 : Int32) (p2 : Int32) (p3 : Int32) (v4 : Int32) (v5 : Int32) (v7 : Int32) (s0 : Int32)  (w : Wd) : Option (Int32 × Wd) :=
  jX9_then_207 p1 p2 p3 v4 v5 v7 (1 : Int32) s0 w
noncomputable def jX9_then_174 (p1 : Int32) (p2 : Int32) (p3 : Int32) (v4 : Int32) (v5 : Int32) (v8 : Int32) (s0 : Int32) (s1 : Int32)  (w : Wd) : Option (Int32 × Wd) :=
  (gI w 102 v5).bind fun x13 => if x13 = (-9 : Int32) then jX9_then_202 p1 p2 p3 v4 v5 (s1 ||| s0) v8 w else (gI w 102 v5).bind fun x14 => if x14 = p3 then jX9_then_202 p1 p2 p3 v4 v5 (s1 ||| s0) v8 w else jX9_then_207 p1 p2 p3 v4 v5 (s1 ||| s0) (0 : Int32) v8 w
noncomputable def jX9_then_166 (p1 : Int32) (p2 : Int32) (p3 : Int32) (v4 : Int32) (v5 : Int32) (v8 : Int32) (s0 : Int32)  (w : Wd) : Option (Int32 × Wd) :=
  jX9_then_174 p1 p2 p3 v4 v5 v8 ((1 : Int32) <<< (v4 &&& 31)) s0 w
noncomputable def jX9_then_139 (p1 : Int32) (p2 : Int32) (p3 : Int32) (v4 : Int32) (v5 : Int32) (v7 : Int32) (s0 : Int32)  (w : Wd) : Option (Int32 × Wd) :=
  (gI w 101 v4).bind fun x11 => if x11 = (-9 : Int32) then jX9_then_166 p1 p2 p3 v4 v5 s0 v7 w else (gI w 101 v4).bind fun x12 => if x12 = p3 then jX9_then_166 p1 p2 p3 v4 v5 s0 v7 w else jX9_then_174 p1 p2 p3 v4 v5 s0 (0 : Int32) v7 w
noncomputable def jX9_then_112 (p1 : Int32) (p2 : Int32) (p3 : Int32) (v4 : Int32) (v5 : Int32) (s0 : Int32)  (w : Wd) : Option (Int32 × Wd) :=
  if s0 = 0 then some ((-9 : Int32), w) else (dvI p2 (2 : Int32)).bind fun x9 => if v4 = 0 then jX9_then_139 p1 p2 p3 v4 v5 x9 (0 : Int32) w else (rmI p2 (2 : Int32)).bind fun x10 => jX9_then_139 p1 p2 p3 v4 v5 x9 x10 w
noncomputable def jX9_then_111 (p1 : Int32) (p2 : Int32) (p3 : Int32) (v4 : Int32) (v5 : Int32)  (w : Wd) : Option (Int32 × Wd) :=
  jX9_then_112 p1 p2 p3 v4 v5 (0 : Int32) w
noncomputable def jX9_then_107 (p1 : Int32) (p2 : Int32) (p3 : Int32) (v4 : Int32) (v5 : Int32)  (w : Wd) : Option (Int32 × Wd) :=
  jX9_then_112 p1 p2 p3 v4 v5 (1 : Int32) w
noncomputable def jX9_then_91 (p1 : Int32) (p2 : Int32) (p3 : Int32) (v4 : Int32) (v5 : Int32)  (w : Wd) : Option (Int32 × Wd) :=
  if (w.1 99 11) = p1 then if (w.1 99 12) = p3 then jX9_then_107 p1 p2 p3 v4 v5 w else jX9_then_111 p1 p2 p3 v4 v5 w else jX9_then_107 p1 p2 p3 v4 v5 w
noncomputable def jX9_then_88 (p1 : Int32) (p2 : Int32) (p3 : Int32) (v4 : Int32) (v5 : Int32) (s0 : Int32) (s1 : Int32)  (w : Wd) : Option (Int32 × Wd) :=
  if s1 = s0 then jX9_then_91 p1 p2 p3 v4 v5 w else jX9_then_111 p1 p2 p3 v4 v5 w
noncomputable def jX9_then_62 (p1 : Int32) (p2 : Int32) (p3 : Int32) (v4 : Int32) (v5 : Int32)  (w : Wd) : Option (Int32 × Wd) :=
  (gI w 103 p1).bind fun x7 => if x7 = (-9 : Int32) then jX9_then_91 p1 p2 p3 v4 v5 w else (gI w 103 p1).bind fun x8 => if p3 ≤ 0 then jX9_then_88 p1 p2 p3 v4 v5 (0 : Int32) x8 w else jX9_then_88 p1 p2 p3 v4 v5 (1 : Int32) x8 w
noncomputable def jX9_then_39 (p1 : Int32) (p2 : Int32) (p3 : Int32) (v4 : Int32) (v5 : Int32)  (w : Wd) : Option (Int32 × Wd) :=
  (gI w 102 v5).bind fun x5 => if x5 = (-9 : Int32) then jX9_then_62 p1 p2 p3 v4 v5 w else (gI w 102 v5).bind fun x6 => if x6 < p3 then jX9_then_111 p1 p2 p3 v4 v5 w else jX9_then_62 p1 p2 p3 v4 v5 w
noncomputable def fX9_then (p1 : Int32) (p2 : Int32) (p3 : Int32) (w : Wd) : Option (Int32 × Wd) :=
  (rmI p1 (w.1 99 0)).bind fun x1 => (dvI p1 (w.1 99 0)).bind fun x2 => (gI w 101 x1).bind fun x3 => if x3 = (-9 : Int32) then jX9_then_39 p1 p2 p3 x1 x2 w else (gI w 101 x1).bind fun x4 => if x4 < p3 then jX9_then_111 p1 p2 p3 x1 x2 w else jX9_then_39 p1 p2 p3 x1 x2 w
abbrev rmX9_then : Room := { frames := 0, cells := 0, slots := 0, locals := 0 }
set_option maxHeartbeats 4000000 in
set_option maxRecDepth 100000 in
theorem kX9_then (l : Launch) (E : Ev) (p1 : Int32) (p2 : Int32) (p3 : Int32) (w : Wd) (q : Int32 × Wd) (h : fX9_then p1 p2 p3 w = some q) : CtI l yX9_then wsX9_then rmX9_then E full [.ref (E.2.1 99), .int p1, .int p2, .int p3] w q := by
  refine mkI (cc := cX9_then) (maxL := 10) (by decide) rfl (Nat.le_of_ble_eq_true rfl) ?_
  intro p e s m args below meth c Q S hW hQ ls hl
  obtain ⟨hx, hb, hml, hown, hts⟩ := id S
  have hW0 := hW
  have hS : va_S (wA E full) s.heap s.heap [] := va_S.rf
  have hl : lv_has ls 10 [(0, .ref (E.2.1 99)), (1, .int p1), (2, .int p2), (3, .int p3)] := hl
  have iX9 : ∀ w ∈ wsX90, w ∈ wsX9_then := by decide +kernel
  have e13 := hts (.fieldLink RX9 13 "CubeHeapsModel" "fronts" "[I") (by decide +kernel)
  have e16 := hts (.fieldLink RX9 16 "CubeHeapsModel" "sides" "[I") (by decide +kernel)
  have e19 := hts (.fieldLink RX9 19 "CubeHeapsModel" "tops" "[I") (by decide +kernel)
  have e38 := hts (.fieldLink RX9 38 "CubeHeapsModel" "onlyCell" "I") (by decide +kernel)
  have e85 := hts (.fieldLink RX9 85 "CubeHeapsModel" "wide" "I") (by decide +kernel)
  have e88 := hts (.fieldLink RX9 88 "CubeHeapsModel" "tall" "I") (by decide +kernel)
  have e149 := hts (.fieldLink RX9 149 "CubeHeapsModel" "onlyHeight" "I") (by decide +kernel)
  have J252 : ∀ (v7 : Int32) (v8 : Int32) (s0 : Int32) (w : Wd) (H : Heap) (locs : List Loc) (ls : Array Slot), jX9_then_252 p1 p2 p3 v7 v8 s0 w = some q → World E full w s H → va_S (wA E full) s.heap H locs → lv_has ls 10 [(7, .int v7), (8, .int v8)] → W p l e rmX9_then s m args below meth c H locs 0 0 Q (F0 m 252 ls [.int s0]) := by
    intro v7 v8 s0 w H locs ls h hW hS hl
    unfold jX9_then_252 at h
    refine lv_istore (lv' := [(9, .int s0), (7, .int v7), (8, .int v8)]) hx hb dX9_then_252 hl (by decide) rfl (fun ls hl => ?_)
    refine lv_iload hx hb dX9_then_254 (lv_at hl 0 rfl) ?_
    refine rb_if_eq (tgt := 264) hx hb h dX9_then_256 (by decide) (fun h => ?_) (fun h => ?_)
    · refine lv_iconst (v := (2 : Int32)) hx hb dX9_then_264 (by decide) ?_
      refine lv_iload hx hb dX9_then_265 (lv_at hl 1 rfl) ?_
      refine lv_imul hx hb dX9_then_267 ?_
      refine lv_iload hx hb dX9_then_268 (lv_at hl 2 rfl) ?_
      refine lv_iadd hx hb dX9_then_270 ?_
      exact rrI hQ hW hS h dX9_then_271
    · refine lv_bipush (v := (-9 : Int32)) hx hb dX9_then_259 (by decide) ?_
      refine lv_goto (tgt := 271) hx hb dX9_then_261 (by decide) ?_
      exact rrI hQ hW hS h dX9_then_271
  have J247 : ∀ (v7 : Int32) (v8 : Int32) (w : Wd) (H : Heap) (locs : List Loc) (ls : Array Slot), jX9_then_247 p1 p2 p3 v7 v8 w = some q → World E full w s H → va_S (wA E full) s.heap H locs → lv_has ls 10 [(7, .int v7), (8, .int v8)] → W p l e rmX9_then s m args below meth c H locs 0 0 Q (F0 m 247 ls []) := by
    intro v7 v8 w H locs ls h hW hS hl
    unfold jX9_then_247 at h
    refine lv_iconst (v := (1 : Int32)) hx hb dX9_then_247 (by decide) ?_
    refine lv_goto (tgt := 252) hx hb dX9_then_248 (by decide) ?_
    exact J252 _ _ _ _ _ _ _ h hW hS (hl)
  have J251 : ∀ (v7 : Int32) (v8 : Int32) (w : Wd) (H : Heap) (locs : List Loc) (ls : Array Slot), jX9_then_251 p1 p2 p3 v7 v8 w = some q → World E full w s H → va_S (wA E full) s.heap H locs → lv_has ls 10 [(7, .int v7), (8, .int v8)] → W p l e rmX9_then s m args below meth c H locs 0 0 Q (F0 m 251 ls []) := by
    intro v7 v8 w H locs ls h hW hS hl
    unfold jX9_then_251 at h
    refine lv_iconst (v := (0 : Int32)) hx hb dX9_then_251 (by decide) ?_
    exact J252 _ _ _ _ _ _ _ h hW hS (hl)
  have J226 : ∀ (v4 : Int32) (v5 : Int32) (v7 : Int32) (v8 : Int32) (w : Wd) (H : Heap) (locs : List Loc) (ls : Array Slot), jX9_then_226 p1 p2 p3 v4 v5 v7 v8 w = some q → World E full w s H → va_S (wA E full) s.heap H locs → lv_has ls 10 [(0, .ref (E.2.1 99)), (4, .int v4), (5, .int v5), (7, .int v7), (8, .int v8)] → W p l e rmX9_then s m args below meth c H locs 0 0 Q (F0 m 226 ls []) := by
    intro v4 v5 v7 v8 w H locs ls h hW hS hl
    unfold jX9_then_226 at h
    refine lv_iload hx hb dX9_then_226 (lv_at hl 2 rfl) ?_
    refine lv_aload_n hx hb dX9_then_228 rfl (lv_at hl 0 rfl) ?_
    refine rw_get hx hb hts iX9 hown hW (fl 99 rfl) rfl rfl 1 (by decide) e88 rfl (v := .int (w.1 99 1)) rfl dX9_then_229 ?_
    refine lv_iconst (v := (1 : Int32)) hx hb dX9_then_232 (by decide) ?_
    refine lv_isub hx hb dX9_then_233 ?_
    refine rb_icmp_ne (tgt := 251) hx hb h dX9_then_234 (by decide) (fun h => ?_) (fun h => ?_)
    · exact J251 _ _ _ _ _ _ h hW hS (lv_sub hl [3, 4] rfl)
    · refine lv_iload hx hb dX9_then_237 (lv_at hl 3 rfl) ?_
      refine lv_iload hx hb dX9_then_239 (lv_at hl 1 rfl) ?_
      refine lv_ishr hx hb dX9_then_241 ?_
      refine lv_iconst (v := (1 : Int32)) hx hb dX9_then_242 (by decide) ?_
      refine lv_iand hx hb dX9_then_243 ?_
      refine rb_if_ne (tgt := 251) hx hb h dX9_then_244 (by decide) (fun h => ?_) (fun h => ?_)
      · exact J251 _ _ _ _ _ _ h hW hS (lv_sub hl [3, 4] rfl)
      · exact J247 _ _ _ _ _ _ h hW hS (lv_sub hl [3, 4] rfl)
  have J207 : ∀ (v4 : Int32) (v5 : Int32) (v7 : Int32) (s0 : Int32) (s1 : Int32) (w : Wd) (H : Heap) (locs : List Loc) (ls : Array Slot), jX9_then_207 p1 p2 p3 v4 v5 v7 s0 s1 w = some q → World E full w s H → va_S (wA E full) s.heap H locs → lv_has ls 10 [(0, .ref (E.2.1 99)), (4, .int v4), (5, .int v5), (7, .int v7)] → W p l e rmX9_then s m args below meth c H locs 0 0 Q (F0 m 207 ls [.int s0, .int s1]) := by
    intro v4 v5 v7 s0 s1 w H locs ls h hW hS hl
    unfold jX9_then_207 at h
    refine lv_ior hx hb dX9_then_207 ?_
    refine lv_istore (lv' := [(8, .int (s1 ||| s0)), (0, .ref (E.2.1 99)), (4, .int v4), (5, .int v5), (7, .int v7)]) hx hb dX9_then_208 hl (by decide) rfl (fun ls hl => ?_)
    refine lv_iload hx hb dX9_then_210 (lv_at hl 2 rfl) ?_
    refine lv_aload_n hx hb dX9_then_212 rfl (lv_at hl 1 rfl) ?_
    refine rw_get hx hb hts iX9 hown hW (fl 99 rfl) rfl rfl 0 (by decide) e85 rfl (v := .int (w.1 99 0)) rfl dX9_then_213 ?_
    refine lv_iconst (v := (1 : Int32)) hx hb dX9_then_216 (by decide) ?_
    refine lv_isub hx hb dX9_then_217 ?_
    refine rb_icmp_ne (tgt := 226) hx hb h dX9_then_218 (by decide) (fun h => ?_) (fun h => ?_)
    · exact J226 _ _ _ _ _ _ _ _ h hW hS (lv_sub hl [1, 2, 3, 4, 0] rfl)
    · refine lv_iload hx hb dX9_then_221 (lv_at hl 0 rfl) ?_
      refine rb_if_eq (tgt := 247) hx hb h dX9_then_223 (by decide) (fun h => ?_) (fun h => ?_)
      · exact J247 _ _ _ _ _ _ h hW hS (lv_sub hl [4, 0] rfl)
      · exact J226 _ _ _ _ _ _ _ _ h hW hS (lv_sub hl [1, 2, 3, 4, 0] rfl)
  have J202 : ∀ (v4 : Int32) (v5 : Int32) (v7 : Int32) (s0 : Int32) (w : Wd) (H : Heap) (locs : List Loc) (ls : Array Slot), jX9_then_202 p1 p2 p3 v4 v5 v7 s0 w = some q → World E full w s H → va_S (wA E full) s.heap H locs → lv_has ls 10 [(0, .ref (E.2.1 99)), (4, .int v4), (5, .int v5), (7, .int v7)] → W p l e rmX9_then s m args below meth c H locs 0 0 Q (F0 m 202 ls [.int s0]) := by
    intro v4 v5 v7 s0 w H locs ls h hW hS hl
    unfold jX9_then_202 at h
    refine lv_iconst (v := (1 : Int32)) hx hb dX9_then_202 (by decide) ?_
    refine lv_goto (tgt := 207) hx hb dX9_then_203 (by decide) ?_
    exact J207 _ _ _ _ _ _ _ _ _ h hW hS (hl)
  have J174 : ∀ (v4 : Int32) (v5 : Int32) (v8 : Int32) (s0 : Int32) (s1 : Int32) (w : Wd) (H : Heap) (locs : List Loc) (ls : Array Slot), jX9_then_174 p1 p2 p3 v4 v5 v8 s0 s1 w = some q → World E full w s H → va_S (wA E full) s.heap H locs → lv_has ls 10 [(0, .ref (E.2.1 99)), (3, .int p3), (4, .int v4), (5, .int v5), (8, .int v8)] → W p l e rmX9_then s m args below meth c H locs 0 0 Q (F0 m 174 ls [.int s0, .int s1]) := by
    intro v4 v5 v8 s0 s1 w H locs ls h hW hS hl
    unfold jX9_then_174 at h
    refine lv_ior hx hb dX9_then_174 ?_
    refine lv_istore (lv' := [(7, .int (s1 ||| s0)), (0, .ref (E.2.1 99)), (3, .int p3), (4, .int v4), (5, .int v5), (8, .int v8)]) hx hb dX9_then_175 hl (by decide) rfl (fun ls hl => ?_)
    refine lv_iload hx hb dX9_then_177 (lv_at hl 5 rfl) ?_
    refine lv_aload_n hx hb dX9_then_179 rfl (lv_at hl 1 rfl) ?_
    refine rw_get hx hb hts iX9 hown hW (fl 99 rfl) rfl rfl 4 (by decide) e16 rfl (v := .ref (E.2.1 102)) rfl dX9_then_180 ?_
    refine lv_iload hx hb dX9_then_183 (lv_at hl 4 rfl) ?_
    refine rw_iald hx hb hW (fun _ => (fl 102 rfl)) h dX9_then_185 (fun x13 h => ?_)
    refine lv_bipush (v := (-9 : Int32)) hx hb dX9_then_186 (by decide) ?_
    refine rb_icmp_eq (tgt := 202) hx hb h dX9_then_188 (by decide) (fun h => ?_) (fun h => ?_)
    · exact J202 _ _ _ _ _ _ _ _ h hW hS (lv_sub hl [1, 3, 4, 0] rfl)
    · refine lv_aload_n hx hb dX9_then_191 rfl (lv_at hl 1 rfl) ?_
      refine rw_get hx hb hts iX9 hown hW (fl 99 rfl) rfl rfl 4 (by decide) e16 rfl (v := .ref (E.2.1 102)) rfl dX9_then_192 ?_
      refine lv_iload hx hb dX9_then_195 (lv_at hl 4 rfl) ?_
      refine rw_iald hx hb hW (fun _ => (fl 102 rfl)) h dX9_then_197 (fun x14 h => ?_)
      refine lv_iload_n hx hb dX9_then_198 rfl (lv_at hl 2 rfl) ?_
      refine rb_icmp_ne (tgt := 206) hx hb h dX9_then_199 (by decide) (fun h => ?_) (fun h => ?_)
      · refine lv_iconst (v := (0 : Int32)) hx hb dX9_then_206 (by decide) ?_
        exact J207 _ _ _ _ _ _ _ _ _ h hW hS (lv_sub hl [1, 3, 4, 0] rfl)
      · exact J202 _ _ _ _ _ _ _ _ h hW hS (lv_sub hl [1, 3, 4, 0] rfl)
  have J166 : ∀ (v4 : Int32) (v5 : Int32) (v8 : Int32) (s0 : Int32) (w : Wd) (H : Heap) (locs : List Loc) (ls : Array Slot), jX9_then_166 p1 p2 p3 v4 v5 v8 s0 w = some q → World E full w s H → va_S (wA E full) s.heap H locs → lv_has ls 10 [(0, .ref (E.2.1 99)), (3, .int p3), (4, .int v4), (5, .int v5), (8, .int v8)] → W p l e rmX9_then s m args below meth c H locs 0 0 Q (F0 m 166 ls [.int s0]) := by
    intro v4 v5 v8 s0 w H locs ls h hW hS hl
    unfold jX9_then_166 at h
    refine lv_iconst (v := (1 : Int32)) hx hb dX9_then_166 (by decide) ?_
    refine lv_iload hx hb dX9_then_167 (lv_at hl 2 rfl) ?_
    refine lv_ishl hx hb dX9_then_169 ?_
    refine lv_goto (tgt := 174) hx hb dX9_then_170 (by decide) ?_
    exact J174 _ _ _ _ _ _ _ _ _ h hW hS (hl)
  have J139 : ∀ (v4 : Int32) (v5 : Int32) (v7 : Int32) (s0 : Int32) (w : Wd) (H : Heap) (locs : List Loc) (ls : Array Slot), jX9_then_139 p1 p2 p3 v4 v5 v7 s0 w = some q → World E full w s H → va_S (wA E full) s.heap H locs → lv_has ls 10 [(0, .ref (E.2.1 99)), (3, .int p3), (4, .int v4), (5, .int v5), (7, .int v7)] → W p l e rmX9_then s m args below meth c H locs 0 0 Q (F0 m 139 ls [.int s0]) := by
    intro v4 v5 v7 s0 w H locs ls h hW hS hl
    unfold jX9_then_139 at h
    refine lv_istore (lv' := [(8, .int s0), (0, .ref (E.2.1 99)), (3, .int p3), (4, .int v4), (5, .int v5), (7, .int v7)]) hx hb dX9_then_139 hl (by decide) rfl (fun ls hl => ?_)
    refine lv_iload hx hb dX9_then_141 (lv_at hl 5 rfl) ?_
    refine lv_aload_n hx hb dX9_then_143 rfl (lv_at hl 1 rfl) ?_
    refine rw_get hx hb hts iX9 hown hW (fl 99 rfl) rfl rfl 3 (by decide) e13 rfl (v := .ref (E.2.1 101)) rfl dX9_then_144 ?_
    refine lv_iload hx hb dX9_then_147 (lv_at hl 3 rfl) ?_
    refine rw_iald hx hb hW (fun _ => (fl 101 rfl)) h dX9_then_149 (fun x11 h => ?_)
    refine lv_bipush (v := (-9 : Int32)) hx hb dX9_then_150 (by decide) ?_
    refine rb_icmp_eq (tgt := 166) hx hb h dX9_then_152 (by decide) (fun h => ?_) (fun h => ?_)
    · exact J166 _ _ _ _ _ _ _ _ h hW hS (lv_sub hl [1, 2, 3, 4, 0] rfl)
    · refine lv_aload_n hx hb dX9_then_155 rfl (lv_at hl 1 rfl) ?_
      refine rw_get hx hb hts iX9 hown hW (fl 99 rfl) rfl rfl 3 (by decide) e13 rfl (v := .ref (E.2.1 101)) rfl dX9_then_156 ?_
      refine lv_iload hx hb dX9_then_159 (lv_at hl 3 rfl) ?_
      refine rw_iald hx hb hW (fun _ => (fl 101 rfl)) h dX9_then_161 (fun x12 h => ?_)
      refine lv_iload_n hx hb dX9_then_162 rfl (lv_at hl 2 rfl) ?_
      refine rb_icmp_ne (tgt := 173) hx hb h dX9_then_163 (by decide) (fun h => ?_) (fun h => ?_)
      · refine lv_iconst (v := (0 : Int32)) hx hb dX9_then_173 (by decide) ?_
        exact J174 _ _ _ _ _ _ _ _ _ h hW hS (lv_sub hl [1, 2, 3, 4, 0] rfl)
      · exact J166 _ _ _ _ _ _ _ _ h hW hS (lv_sub hl [1, 2, 3, 4, 0] rfl)
  have J112 : ∀ (v4 : Int32) (v5 : Int32) (s0 : Int32) (w : Wd) (H : Heap) (locs : List Loc) (ls : Array Slot), jX9_then_112 p1 p2 p3 v4 v5 s0 w = some q → World E full w s H → va_S (wA E full) s.heap H locs → lv_has ls 10 [(0, .ref (E.2.1 99)), (2, .int p2), (3, .int p3), (4, .int v4), (5, .int v5)] → W p l e rmX9_then s m args below meth c H locs 0 0 Q (F0 m 112 ls [.int s0]) := by
    intro v4 v5 s0 w H locs ls h hW hS hl
    unfold jX9_then_112 at h
    refine lv_istore (lv' := [(6, .int s0), (0, .ref (E.2.1 99)), (2, .int p2), (3, .int p3), (4, .int v4), (5, .int v5)]) hx hb dX9_then_112 hl (by decide) rfl (fun ls hl => ?_)
    refine lv_iload hx hb dX9_then_114 (lv_at hl 0 rfl) ?_
    refine rb_if_ne (tgt := 122) hx hb h dX9_then_116 (by decide) (fun h => ?_) (fun h => ?_)
    · refine lv_iload_n hx hb dX9_then_122 rfl (lv_at hl 2 rfl) ?_
      refine lv_iconst (v := (2 : Int32)) hx hb dX9_then_123 (by decide) ?_
      refine rb_div hx hb h dX9_then_124 (fun x9 h => ?_)
      refine lv_istore (lv' := [(7, .int x9), (6, .int s0), (0, .ref (E.2.1 99)), (2, .int p2), (3, .int p3), (4, .int v4), (5, .int v5)]) hx hb dX9_then_125 hl (by decide) rfl (fun ls hl => ?_)
      refine lv_iload hx hb dX9_then_127 (lv_at hl 5 rfl) ?_
      refine rb_if_ne (tgt := 136) hx hb h dX9_then_129 (by decide) (fun h => ?_) (fun h => ?_)
      · refine lv_iload_n hx hb dX9_then_136 rfl (lv_at hl 3 rfl) ?_
        refine lv_iconst (v := (2 : Int32)) hx hb dX9_then_137 (by decide) ?_
        refine rb_rem hx hb h dX9_then_138 (fun x10 h => ?_)
        exact J139 _ _ _ _ _ _ _ _ h hW hS (lv_sub hl [2, 4, 5, 6, 0] rfl)
      · refine lv_iconst (v := (0 : Int32)) hx hb dX9_then_132 (by decide) ?_
        refine lv_goto (tgt := 139) hx hb dX9_then_133 (by decide) ?_
        exact J139 _ _ _ _ _ _ _ _ h hW hS (lv_sub hl [2, 4, 5, 6, 0] rfl)
    · refine lv_bipush (v := (-9 : Int32)) hx hb dX9_then_119 (by decide) ?_
      exact rrI hQ hW hS h dX9_then_121
  have J111 : ∀ (v4 : Int32) (v5 : Int32) (w : Wd) (H : Heap) (locs : List Loc) (ls : Array Slot), jX9_then_111 p1 p2 p3 v4 v5 w = some q → World E full w s H → va_S (wA E full) s.heap H locs → lv_has ls 10 [(0, .ref (E.2.1 99)), (2, .int p2), (3, .int p3), (4, .int v4), (5, .int v5)] → W p l e rmX9_then s m args below meth c H locs 0 0 Q (F0 m 111 ls []) := by
    intro v4 v5 w H locs ls h hW hS hl
    unfold jX9_then_111 at h
    refine lv_iconst (v := (0 : Int32)) hx hb dX9_then_111 (by decide) ?_
    exact J112 _ _ _ _ _ _ _ h hW hS (hl)
  have J107 : ∀ (v4 : Int32) (v5 : Int32) (w : Wd) (H : Heap) (locs : List Loc) (ls : Array Slot), jX9_then_107 p1 p2 p3 v4 v5 w = some q → World E full w s H → va_S (wA E full) s.heap H locs → lv_has ls 10 [(0, .ref (E.2.1 99)), (2, .int p2), (3, .int p3), (4, .int v4), (5, .int v5)] → W p l e rmX9_then s m args below meth c H locs 0 0 Q (F0 m 107 ls []) := by
    intro v4 v5 w H locs ls h hW hS hl
    unfold jX9_then_107 at h
    refine lv_iconst (v := (1 : Int32)) hx hb dX9_then_107 (by decide) ?_
    refine lv_goto (tgt := 112) hx hb dX9_then_108 (by decide) ?_
    exact J112 _ _ _ _ _ _ _ h hW hS (hl)
  have J91 : ∀ (v4 : Int32) (v5 : Int32) (w : Wd) (H : Heap) (locs : List Loc) (ls : Array Slot), jX9_then_91 p1 p2 p3 v4 v5 w = some q → World E full w s H → va_S (wA E full) s.heap H locs → lv_has ls 10 [(0, .ref (E.2.1 99)), (1, .int p1), (2, .int p2), (3, .int p3), (4, .int v4), (5, .int v5)] → W p l e rmX9_then s m args below meth c H locs 0 0 Q (F0 m 91 ls []) := by
    intro v4 v5 w H locs ls h hW hS hl
    unfold jX9_then_91 at h
    refine lv_aload_n hx hb dX9_then_91 rfl (lv_at hl 0 rfl) ?_
    refine rw_get hx hb hts iX9 hown hW (fl 99 rfl) rfl rfl 11 (by decide) e38 rfl (v := .int (w.1 99 11)) rfl dX9_then_92 ?_
    refine lv_iload_n hx hb dX9_then_95 rfl (lv_at hl 1 rfl) ?_
    refine rb_icmp_ne (tgt := 107) hx hb h dX9_then_96 (by decide) (fun h => ?_) (fun h => ?_)
    · exact J107 _ _ _ _ _ _ h hW hS (lv_sub hl [0, 2, 3, 4, 5] rfl)
    · refine lv_aload_n hx hb dX9_then_99 rfl (lv_at hl 0 rfl) ?_
      refine rw_get hx hb hts iX9 hown hW (fl 99 rfl) rfl rfl 12 (by decide) e149 rfl (v := .int (w.1 99 12)) rfl dX9_then_100 ?_
      refine lv_iload_n hx hb dX9_then_103 rfl (lv_at hl 3 rfl) ?_
      refine rb_icmp_ne (tgt := 111) hx hb h dX9_then_104 (by decide) (fun h => ?_) (fun h => ?_)
      · exact J111 _ _ _ _ _ _ h hW hS (lv_sub hl [0, 2, 3, 4, 5] rfl)
      · exact J107 _ _ _ _ _ _ h hW hS (lv_sub hl [0, 2, 3, 4, 5] rfl)
  have J88 : ∀ (v4 : Int32) (v5 : Int32) (s0 : Int32) (s1 : Int32) (w : Wd) (H : Heap) (locs : List Loc) (ls : Array Slot), jX9_then_88 p1 p2 p3 v4 v5 s0 s1 w = some q → World E full w s H → va_S (wA E full) s.heap H locs → lv_has ls 10 [(0, .ref (E.2.1 99)), (1, .int p1), (2, .int p2), (3, .int p3), (4, .int v4), (5, .int v5)] → W p l e rmX9_then s m args below meth c H locs 0 0 Q (F0 m 88 ls [.int s0, .int s1]) := by
    intro v4 v5 s0 s1 w H locs ls h hW hS hl
    unfold jX9_then_88 at h
    refine rb_icmp_ne (tgt := 111) hx hb h dX9_then_88 (by decide) (fun h => ?_) (fun h => ?_)
    · exact J111 _ _ _ _ _ _ h hW hS (lv_sub hl [0, 2, 3, 4, 5] rfl)
    · exact J91 _ _ _ _ _ _ h hW hS (hl)
  have J62 : ∀ (v4 : Int32) (v5 : Int32) (w : Wd) (H : Heap) (locs : List Loc) (ls : Array Slot), jX9_then_62 p1 p2 p3 v4 v5 w = some q → World E full w s H → va_S (wA E full) s.heap H locs → lv_has ls 10 [(0, .ref (E.2.1 99)), (1, .int p1), (2, .int p2), (3, .int p3), (4, .int v4), (5, .int v5)] → W p l e rmX9_then s m args below meth c H locs 0 0 Q (F0 m 62 ls []) := by
    intro v4 v5 w H locs ls h hW hS hl
    unfold jX9_then_62 at h
    refine lv_aload_n hx hb dX9_then_62 rfl (lv_at hl 0 rfl) ?_
    refine rw_get hx hb hts iX9 hown hW (fl 99 rfl) rfl rfl 5 (by decide) e19 rfl (v := .ref (E.2.1 103)) rfl dX9_then_63 ?_
    refine lv_iload_n hx hb dX9_then_66 rfl (lv_at hl 1 rfl) ?_
    refine rw_iald hx hb hW (fun _ => (fl 103 rfl)) h dX9_then_67 (fun x7 h => ?_)
    refine lv_bipush (v := (-9 : Int32)) hx hb dX9_then_68 (by decide) ?_
    refine rb_icmp_eq (tgt := 91) hx hb h dX9_then_70 (by decide) (fun h => ?_) (fun h => ?_)
    · exact J91 _ _ _ _ _ _ h hW hS (hl)
    · refine lv_aload_n hx hb dX9_then_73 rfl (lv_at hl 0 rfl) ?_
      refine rw_get hx hb hts iX9 hown hW (fl 99 rfl) rfl rfl 5 (by decide) e19 rfl (v := .ref (E.2.1 103)) rfl dX9_then_74 ?_
      refine lv_iload_n hx hb dX9_then_77 rfl (lv_at hl 1 rfl) ?_
      refine rw_iald hx hb hW (fun _ => (fl 103 rfl)) h dX9_then_78 (fun x8 h => ?_)
      refine lv_iload_n hx hb dX9_then_79 rfl (lv_at hl 3 rfl) ?_
      refine rb_if_le (tgt := 87) hx hb h dX9_then_80 (by decide) (fun h => ?_) (fun h => ?_)
      · refine lv_iconst (v := (0 : Int32)) hx hb dX9_then_87 (by decide) ?_
        exact J88 _ _ _ _ _ _ _ _ h hW hS (hl)
      · refine lv_iconst (v := (1 : Int32)) hx hb dX9_then_83 (by decide) ?_
        refine lv_goto (tgt := 88) hx hb dX9_then_84 (by decide) ?_
        exact J88 _ _ _ _ _ _ _ _ h hW hS (hl)
  have J39 : ∀ (v4 : Int32) (v5 : Int32) (w : Wd) (H : Heap) (locs : List Loc) (ls : Array Slot), jX9_then_39 p1 p2 p3 v4 v5 w = some q → World E full w s H → va_S (wA E full) s.heap H locs → lv_has ls 10 [(0, .ref (E.2.1 99)), (1, .int p1), (2, .int p2), (3, .int p3), (4, .int v4), (5, .int v5)] → W p l e rmX9_then s m args below meth c H locs 0 0 Q (F0 m 39 ls []) := by
    intro v4 v5 w H locs ls h hW hS hl
    unfold jX9_then_39 at h
    refine lv_aload_n hx hb dX9_then_39 rfl (lv_at hl 0 rfl) ?_
    refine rw_get hx hb hts iX9 hown hW (fl 99 rfl) rfl rfl 4 (by decide) e16 rfl (v := .ref (E.2.1 102)) rfl dX9_then_40 ?_
    refine lv_iload hx hb dX9_then_43 (lv_at hl 5 rfl) ?_
    refine rw_iald hx hb hW (fun _ => (fl 102 rfl)) h dX9_then_45 (fun x5 h => ?_)
    refine lv_bipush (v := (-9 : Int32)) hx hb dX9_then_46 (by decide) ?_
    refine rb_icmp_eq (tgt := 62) hx hb h dX9_then_48 (by decide) (fun h => ?_) (fun h => ?_)
    · exact J62 _ _ _ _ _ _ h hW hS (hl)
    · refine lv_iload_n hx hb dX9_then_51 rfl (lv_at hl 3 rfl) ?_
      refine lv_aload_n hx hb dX9_then_52 rfl (lv_at hl 0 rfl) ?_
      refine rw_get hx hb hts iX9 hown hW (fl 99 rfl) rfl rfl 4 (by decide) e16 rfl (v := .ref (E.2.1 102)) rfl dX9_then_53 ?_
      refine lv_iload hx hb dX9_then_56 (lv_at hl 5 rfl) ?_
      refine rw_iald hx hb hW (fun _ => (fl 102 rfl)) h dX9_then_58 (fun x6 h => ?_)
      refine rb_icmp_gt (tgt := 111) hx hb h dX9_then_59 (by decide) (fun h => ?_) (fun h => ?_)
      · exact J111 _ _ _ _ _ _ h hW hS (lv_sub hl [0, 2, 3, 4, 5] rfl)
      · exact J62 _ _ _ _ _ _ h hW hS (hl)
  unfold fX9_then at h
  refine lv_iload_n hx hb dX9_then_0 rfl (lv_at hl 1 rfl) ?_
  refine lv_aload_n hx hb dX9_then_1 rfl (lv_at hl 0 rfl) ?_
  refine rw_get hx hb hts iX9 hown hW (fl 99 rfl) rfl rfl 0 (by decide) e85 rfl (v := .int (w.1 99 0)) rfl dX9_then_2 ?_
  refine rb_rem hx hb h dX9_then_5 (fun x1 h => ?_)
  refine lv_istore (lv' := [(4, .int x1), (0, .ref (E.2.1 99)), (1, .int p1), (2, .int p2), (3, .int p3)]) hx hb dX9_then_6 hl (by decide) rfl (fun ls hl => ?_)
  refine lv_iload_n hx hb dX9_then_8 rfl (lv_at hl 2 rfl) ?_
  refine lv_aload_n hx hb dX9_then_9 rfl (lv_at hl 1 rfl) ?_
  refine rw_get hx hb hts iX9 hown hW (fl 99 rfl) rfl rfl 0 (by decide) e85 rfl (v := .int (w.1 99 0)) rfl dX9_then_10 ?_
  refine rb_div hx hb h dX9_then_13 (fun x2 h => ?_)
  refine lv_istore (lv' := [(5, .int x2), (4, .int x1), (0, .ref (E.2.1 99)), (1, .int p1), (2, .int p2), (3, .int p3)]) hx hb dX9_then_14 hl (by decide) rfl (fun ls hl => ?_)
  refine lv_aload_n hx hb dX9_then_16 rfl (lv_at hl 2 rfl) ?_
  refine rw_get hx hb hts iX9 hown hW (fl 99 rfl) rfl rfl 3 (by decide) e13 rfl (v := .ref (E.2.1 101)) rfl dX9_then_17 ?_
  refine lv_iload hx hb dX9_then_20 (lv_at hl 1 rfl) ?_
  refine rw_iald hx hb hW (fun _ => (fl 101 rfl)) h dX9_then_22 (fun x3 h => ?_)
  refine lv_bipush (v := (-9 : Int32)) hx hb dX9_then_23 (by decide) ?_
  refine rb_icmp_eq (tgt := 39) hx hb h dX9_then_25 (by decide) (fun h => ?_) (fun h => ?_)
  · exact J39 _ _ _ _ _ _ h hW hS (lv_sub hl [2, 3, 4, 5, 1, 0] rfl)
  · refine lv_iload_n hx hb dX9_then_28 rfl (lv_at hl 5 rfl) ?_
    refine lv_aload_n hx hb dX9_then_29 rfl (lv_at hl 2 rfl) ?_
    refine rw_get hx hb hts iX9 hown hW (fl 99 rfl) rfl rfl 3 (by decide) e13 rfl (v := .ref (E.2.1 101)) rfl dX9_then_30 ?_
    refine lv_iload hx hb dX9_then_33 (lv_at hl 1 rfl) ?_
    refine rw_iald hx hb hW (fun _ => (fl 101 rfl)) h dX9_then_35 (fun x4 h => ?_)
    refine rb_icmp_gt (tgt := 111) hx hb h dX9_then_36 (by decide) (fun h => ?_) (fun h => ?_)
    · exact J111 _ _ _ _ _ _ h hW hS (lv_sub hl [2, 4, 5, 1, 0] rfl)
    · exact J39 _ _ _ _ _ _ h hW hS (lv_sub hl [2, 3, 4, 5, 1, 0] rfl)
noncomputable def jX9_layWays_96 (k36 : Int32 → Wd → Option (Unit × Wd)) (k42 : Int32 → Int32 → Wd → Option (Unit × Wd)) (k53 : Int32 → Int32 → Int64 → Int32 → Wd → Option (Unit × Wd)) (v1 : Int32) (v2 : Int32) (v5 : Int32) (s0 : Int64) (s1 : Int64)  (w : Wd) : Option (Unit × Wd) :=
  k53 v1 v2 (s1 + s0) (v5 + (1 : Int32)) w
noncomputable def bX9_layWays_53 (k36 : Int32 → Wd → Option (Unit × Wd)) (k42 : Int32 → Int32 → Wd → Option (Unit × Wd)) (k53 : Int32 → Int32 → Int64 → Int32 → Wd → Option (Unit × Wd)) (v1 : Int32) (v2 : Int32) (v3 : Int64) (v5 : Int32)  (w : Wd) : Option (Unit × Wd) :=
  if (5 : Int32) ≤ v5 then (sL w 107 (((64 : Int32) * v1) + v2) v3).bind fun w6 => k42 v1 (v2 + (1 : Int32)) w6 else bnd (fX9_then v1 v2 v5 w) fun x7 w8 => if x7 = (-9 : Int32) then jX9_layWays_96 k36 k42 k53 v1 v2 v5 (0 : Int64) v3 w8 else (gL w8 107 ((((64 : Int32) * v1) + (64 : Int32)) + x7)).bind fun x9 => jX9_layWays_96 k36 k42 k53 v1 v2 v5 x9 v3 w8
noncomputable def bX9_layWays_42 (k36 : Int32 → Wd → Option (Unit × Wd)) (k42 : Int32 → Int32 → Wd → Option (Unit × Wd)) (v1 : Int32) (v2 : Int32)  (w : Wd) : Option (Unit × Wd) :=
  if (64 : Int32) ≤ v2 then k36 (v1 + (-1 : Int32)) w else lp (fun _ _ _ _ _ => none) (bX9_layWays_53 k36 k42) G v1 v2 (0 : Int64) (0 : Int32) w
noncomputable def bX9_layWays_36 (k36 : Int32 → Wd → Option (Unit × Wd)) (v1 : Int32)  (w : Wd) : Option (Unit × Wd) :=
  if v1 < 0 then some ((), w) else lp (fun _ _ _ => none) (bX9_layWays_42 k36) G v1 (0 : Int32) w
noncomputable def bX9_layWays_2 (k2 : Int32 → Wd → Option (Unit × Wd)) (v1 : Int32)  (w : Wd) : Option (Unit × Wd) :=
  if (64 : Int32) ≤ v1 then bnd (fX9_cells w) fun x1 w2 => lp (fun _ _ => none) (bX9_layWays_36) G (x1 - (1 : Int32)) w2 else bnd (fX9_cells w) fun x3 w4 => (sL w4 107 (((64 : Int32) * x3) + v1) (1 : Int64)).bind fun w5 => k2 (v1 + (1 : Int32)) w5
noncomputable def fX9_layWays  (w : Wd) : Option (Unit × Wd) :=
  lp (fun _ _ => none) (bX9_layWays_2) G (0 : Int32) w
abbrev rmX9_layWays : Room := { frames := 1, cells := 0, slots := 0, locals := 29 }
set_option maxHeartbeats 4000000 in
set_option maxRecDepth 100000 in
theorem kX9_layWays (l : Launch) (E : Ev)  (w : Wd) (q : Unit × Wd) (h : fX9_layWays w = some q) : CtV l yX9_layWays wsX9_layWays rmX9_layWays E full [.ref (E.2.1 99)] w q := by
  refine mkV (cc := cX9_layWays) (maxL := 7) (by decide) rfl (Nat.le_of_ble_eq_true rfl) ?_
  intro p e s m args below meth c Q S hW hQ ls hl
  obtain ⟨hx, hb, hml, hown, hts⟩ := id S
  have hW0 := hW
  have hS : va_S (wA E full) s.heap s.heap [] := va_S.rf
  have hl : lv_has ls 7 [(0, .ref (E.2.1 99))] := hl
  have iX9 : ∀ w ∈ wsX90, w ∈ wsX9_layWays := by decide +kernel
  have e31 := hts (.fieldLink RX9 31 "CubeHeapsModel" "ways" "[J") (by decide +kernel)
  have J36 : ∀ (n : Nat) (v1 : Int32) (w : Wd) (H : Heap) (locs : List Loc) (ls : Array Slot), lp (fun _ _ => none) (bX9_layWays_36) n v1 w = some q → World E full w s H → va_S (wA E full) s.heap H locs → lv_has ls 7 [(0, .ref (E.2.1 99)), (1, .int v1)] → W p l e rmX9_layWays s m args below meth c H locs 0 0 Q (F0 m 36 ls []) := by
    intro n
    induction n with
    | zero =>
      intro v1 w H locs ls h hW hS hl
      exact absurd (show (none : Option (Unit × Wd)) = some q from h) (fun z => by cases z)
    | succ n ih36 =>
      intro v1 w H locs ls h hW hS hl
      have h : bX9_layWays_36 (lp (fun _ _ => none) (bX9_layWays_36) n) v1 w = some q := h
      generalize lp (fun _ _ => none) (bX9_layWays_36) n = k36 at h ih36
      have J42 : ∀ (n : Nat) (v1 : Int32) (v2 : Int32) (w : Wd) (H : Heap) (locs : List Loc) (ls : Array Slot), lp (fun _ _ _ => none) (bX9_layWays_42 k36) n v1 v2 w = some q → World E full w s H → va_S (wA E full) s.heap H locs → lv_has ls 7 [(0, .ref (E.2.1 99)), (1, .int v1), (2, .int v2)] → W p l e rmX9_layWays s m args below meth c H locs 0 0 Q (F0 m 42 ls []) := by
        intro n
        induction n with
        | zero =>
          intro v1 v2 w H locs ls h hW hS hl
          exact absurd (show (none : Option (Unit × Wd)) = some q from h) (fun z => by cases z)
        | succ n ih42 =>
          intro v1 v2 w H locs ls h hW hS hl
          have h : bX9_layWays_42 k36 (lp (fun _ _ _ => none) (bX9_layWays_42 k36) n) v1 v2 w = some q := h
          generalize lp (fun _ _ _ => none) (bX9_layWays_42 k36) n = k42 at h ih42
          have J53 : ∀ (n : Nat) (v1 : Int32) (v2 : Int32) (v3 : Int64) (v5 : Int32) (w : Wd) (H : Heap) (locs : List Loc) (ls : Array Slot), lp (fun _ _ _ _ _ => none) (bX9_layWays_53 k36 k42) n v1 v2 v3 v5 w = some q → World E full w s H → va_S (wA E full) s.heap H locs → lv_has ls 7 [(0, .ref (E.2.1 99)), (1, .int v1), (2, .int v2), (3, .long v3), (5, .int v5)] → W p l e rmX9_layWays s m args below meth c H locs 0 0 Q (F0 m 53 ls []) := by
            intro n
            induction n with
            | zero =>
              intro v1 v2 v3 v5 w H locs ls h hW hS hl
              exact absurd (show (none : Option (Unit × Wd)) = some q from h) (fun z => by cases z)
            | succ n ih53 =>
              intro v1 v2 v3 v5 w H locs ls h hW hS hl
              have h : bX9_layWays_53 k36 k42 (lp (fun _ _ _ _ _ => none) (bX9_layWays_53 k36 k42) n) v1 v2 v3 v5 w = some q := h
              generalize lp (fun _ _ _ _ _ => none) (bX9_layWays_53 k36 k42) n = k53 at h ih53
              have J96 : ∀ (v1 : Int32) (v2 : Int32) (v5 : Int32) (s0 : Int64) (s1 : Int64) (w : Wd) (H : Heap) (locs : List Loc) (ls : Array Slot), jX9_layWays_96 k36 k42 k53 v1 v2 v5 s0 s1 w = some q → World E full w s H → va_S (wA E full) s.heap H locs → lv_has ls 7 [(0, .ref (E.2.1 99)), (1, .int v1), (2, .int v2), (5, .int v5)] → W p l e rmX9_layWays s m args below meth c H locs 0 0 Q (F0 m 96 ls [.long s0, .long s1]) := by
                intro v1 v2 v5 s0 s1 w H locs ls h hW hS hl
                unfold jX9_layWays_96 at h
                refine lv_ladd hx hb dX9_layWays_96 ?_
                refine lv_lstore_n (lv' := [(3, .long (s1 + s0)), (0, .ref (E.2.1 99)), (1, .int v1), (2, .int v2), (5, .int v5)]) hx hb dX9_layWays_97 rfl hl (by decide) rfl (fun ls hl => ?_)
                refine lv_iinc (v := (v5 + (1 : Int32))) (lv' := [(5, .int (v5 + (1 : Int32))), (3, .long (s1 + s0)), (0, .ref (E.2.1 99)), (1, .int v1), (2, .int v2)]) hx hb dX9_layWays_98 hl (k := 4) rfl rfl (by decide) rfl (fun ls hl => ?_)
                refine lv_goto (tgt := 53) hx hb dX9_layWays_101 (by decide) ?_
                exact ih53 _ _ _ _ _ _ _ _ h hW hS (lv_sub hl [2, 3, 4, 1, 0] rfl)
              unfold bX9_layWays_53 at h
              refine lv_iload hx hb dX9_layWays_53 (lv_at hl 4 rfl) ?_
              refine lv_iconst (v := (5 : Int32)) hx hb dX9_layWays_55 (by decide) ?_
              refine rb_icmp_ge (tgt := 104) hx hb h dX9_layWays_56 (by decide) (fun h => ?_) (fun h => ?_)
              · refine lv_aload_n hx hb dX9_layWays_104 rfl (lv_at hl 0 rfl) ?_
                refine rw_get hx hb hts iX9 hown hW (fl 99 rfl) rfl rfl 9 (by decide) e31 rfl (v := .ref (E.2.1 107)) rfl dX9_layWays_105 ?_
                refine lv_bipush (v := (64 : Int32)) hx hb dX9_layWays_108 (by decide) ?_
                refine lv_iload_n hx hb dX9_layWays_110 rfl (lv_at hl 1 rfl) ?_
                refine lv_imul hx hb dX9_layWays_111 ?_
                refine lv_iload_n hx hb dX9_layWays_112 rfl (lv_at hl 2 rfl) ?_
                refine lv_iadd hx hb dX9_layWays_113 ?_
                refine lv_lload_n hx hb dX9_layWays_114 rfl (lv_at hl 3 rfl) ?_
                refine rw_last hx hb hW hS (fun _ => (fl 107 rfl)) h dX9_layWays_115 (fun w6 H locs h hW hS => ?_)
                refine lv_iinc (v := (v2 + (1 : Int32))) (lv' := [(2, .int (v2 + (1 : Int32))), (0, .ref (E.2.1 99)), (1, .int v1), (3, .long v3), (5, .int v5)]) hx hb dX9_layWays_116 hl (k := 2) rfl rfl (by decide) rfl (fun ls hl => ?_)
                refine lv_goto (tgt := 42) hx hb dX9_layWays_119 (by decide) ?_
                exact ih42 _ _ _ _ _ _ h hW hS (lv_sub hl [1, 2, 0] rfl)
              · refine lv_aload_n hx hb dX9_layWays_59 rfl (lv_at hl 0 rfl) ?_
                refine lv_iload_n hx hb dX9_layWays_60 rfl (lv_at hl 1 rfl) ?_
                refine lv_iload_n hx hb dX9_layWays_61 rfl (lv_at hl 2 rfl) ?_
                refine lv_iload hx hb dX9_layWays_62 (lv_at hl 4 rfl) ?_
                refine rc_Vi (k := 99) (As := [.int v1, .int v2, .int v5]) (rest := []) S hW hS h (kX9_then l E v1 v2 v5 w) (cwV 3 hts gX9_layWays_X9_then rfl rfl rfl hdX9_then ⟨Nat.le_of_ble_eq_true rfl, Nat.le_of_ble_eq_true rfl⟩) (fl 99 rfl) rfl rfl rfl rfl hl.1 rfl (Nat.le_of_ble_eq_true rfl) ⟨Nat.zero_le _, Nat.zero_le _⟩ dX9_layWays_64 (fun x7 w8 H locs h hW hS => ?_)
                refine lv_istore (lv' := [(6, .int x7), (0, .ref (E.2.1 99)), (1, .int v1), (2, .int v2), (3, .long v3), (5, .int v5)]) hx hb dX9_layWays_67 hl (by decide) rfl (fun ls hl => ?_)
                refine lv_lload_n hx hb dX9_layWays_69 rfl (lv_at hl 4 rfl) ?_
                refine lv_iload hx hb dX9_layWays_70 (lv_at hl 0 rfl) ?_
                refine lv_bipush (v := (-9 : Int32)) hx hb dX9_layWays_72 (by decide) ?_
                refine rb_icmp_ne (tgt := 81) hx hb h dX9_layWays_74 (by decide) (fun h => ?_) (fun h => ?_)
                · refine lv_aload_n hx hb dX9_layWays_81 rfl (lv_at hl 1 rfl) ?_
                  refine rw_get hx hb hts iX9 hown hW (fl 99 rfl) rfl rfl 9 (by decide) e31 rfl (v := .ref (E.2.1 107)) rfl dX9_layWays_82 ?_
                  refine lv_bipush (v := (64 : Int32)) hx hb dX9_layWays_85 (by decide) ?_
                  refine lv_iload_n hx hb dX9_layWays_87 rfl (lv_at hl 2 rfl) ?_
                  refine lv_imul hx hb dX9_layWays_88 ?_
                  refine lv_bipush (v := (64 : Int32)) hx hb dX9_layWays_89 (by decide) ?_
                  refine lv_iadd hx hb dX9_layWays_91 ?_
                  refine lv_iload hx hb dX9_layWays_92 (lv_at hl 0 rfl) ?_
                  refine lv_iadd hx hb dX9_layWays_94 ?_
                  refine rw_lald hx hb hW (fun _ => (fl 107 rfl)) h dX9_layWays_95 (fun x9 h => ?_)
                  exact J96 _ _ _ _ _ _ _ _ _ h hW hS (lv_sub hl [1, 2, 3, 5] rfl)
                · refine lv_lconst (v := (0 : Int64)) hx hb dX9_layWays_77 (by decide) ?_
                  refine lv_goto (tgt := 96) hx hb dX9_layWays_78 (by decide) ?_
                  exact J96 _ _ _ _ _ _ _ _ _ h hW hS (lv_sub hl [1, 2, 3, 5] rfl)
          unfold bX9_layWays_42 at h
          refine lv_iload_n hx hb dX9_layWays_42 rfl (lv_at hl 2 rfl) ?_
          refine lv_bipush (v := (64 : Int32)) hx hb dX9_layWays_43 (by decide) ?_
          refine rb_icmp_ge (tgt := 122) hx hb h dX9_layWays_45 (by decide) (fun h => ?_) (fun h => ?_)
          · refine lv_iinc (v := (v1 + (-1 : Int32))) (lv' := [(1, .int (v1 + (-1 : Int32))), (0, .ref (E.2.1 99)), (2, .int v2)]) hx hb dX9_layWays_122 hl (k := 1) rfl rfl (by decide) rfl (fun ls hl => ?_)
            refine lv_goto (tgt := 36) hx hb dX9_layWays_125 (by decide) ?_
            exact ih36 _ _ _ _ _ h hW hS (lv_sub hl [1, 0] rfl)
          · refine lv_lconst (v := (0 : Int64)) hx hb dX9_layWays_48 (by decide) ?_
            refine lv_lstore_n (lv' := [(3, .long (0 : Int64)), (0, .ref (E.2.1 99)), (1, .int v1), (2, .int v2)]) hx hb dX9_layWays_49 rfl hl (by decide) rfl (fun ls hl => ?_)
            refine lv_iconst (v := (0 : Int32)) hx hb dX9_layWays_50 (by decide) ?_
            refine lv_istore (lv' := [(5, .int (0 : Int32)), (3, .long (0 : Int64)), (0, .ref (E.2.1 99)), (1, .int v1), (2, .int v2)]) hx hb dX9_layWays_51 hl (by decide) rfl (fun ls hl => ?_)
            exact J53 _ _ _ _ _ _ _ _ _ h hW hS (lv_sub hl [2, 3, 4, 1, 0] rfl)
      unfold bX9_layWays_36 at h
      refine lv_iload_n hx hb dX9_layWays_36 rfl (lv_at hl 1 rfl) ?_
      refine rb_if_lt (tgt := 128) hx hb h dX9_layWays_37 (by decide) (fun h => ?_) (fun h => ?_)
      · exact rrV hQ hW hS h dX9_layWays_128
      · refine lv_iconst (v := (0 : Int32)) hx hb dX9_layWays_40 (by decide) ?_
        refine lv_istore_n (lv' := [(2, .int (0 : Int32)), (0, .ref (E.2.1 99)), (1, .int v1)]) hx hb dX9_layWays_41 rfl hl (by decide) rfl (fun ls hl => ?_)
        exact J42 _ _ _ _ _ _ _ h hW hS (lv_sub hl [1, 2, 0] rfl)
  have J2 : ∀ (n : Nat) (v1 : Int32) (w : Wd) (H : Heap) (locs : List Loc) (ls : Array Slot), lp (fun _ _ => none) (bX9_layWays_2) n v1 w = some q → World E full w s H → va_S (wA E full) s.heap H locs → lv_has ls 7 [(0, .ref (E.2.1 99)), (1, .int v1)] → W p l e rmX9_layWays s m args below meth c H locs 0 0 Q (F0 m 2 ls []) := by
    intro n
    induction n with
    | zero =>
      intro v1 w H locs ls h hW hS hl
      exact absurd (show (none : Option (Unit × Wd)) = some q from h) (fun z => by cases z)
    | succ n ih2 =>
      intro v1 w H locs ls h hW hS hl
      have h : bX9_layWays_2 (lp (fun _ _ => none) (bX9_layWays_2) n) v1 w = some q := h
      generalize lp (fun _ _ => none) (bX9_layWays_2) n = k2 at h ih2
      unfold bX9_layWays_2 at h
      refine lv_iload_n hx hb dX9_layWays_2 rfl (lv_at hl 1 rfl) ?_
      refine lv_bipush (v := (64 : Int32)) hx hb dX9_layWays_3 (by decide) ?_
      refine rb_icmp_ge (tgt := 29) hx hb h dX9_layWays_5 (by decide) (fun h => ?_) (fun h => ?_)
      · refine lv_aload_n hx hb dX9_layWays_29 rfl (lv_at hl 0 rfl) ?_
        refine rc_Vi (k := 99) (As := []) (rest := []) S hW hS h (kX9_cells l E  w) (cwV 0 hts gX9_layWays_X9_cells rfl rfl rfl hdX9_cells ⟨Nat.le_of_ble_eq_true rfl, Nat.le_of_ble_eq_true rfl⟩) (fl 99 rfl) rfl rfl rfl rfl hl.1 rfl (Nat.le_of_ble_eq_true rfl) ⟨Nat.zero_le _, Nat.zero_le _⟩ dX9_layWays_30 (fun x1 w2 H locs h hW hS => ?_)
        refine lv_iconst (v := (1 : Int32)) hx hb dX9_layWays_33 (by decide) ?_
        refine lv_isub hx hb dX9_layWays_34 ?_
        refine lv_istore_n (lv' := [(1, .int (x1 - (1 : Int32))), (0, .ref (E.2.1 99))]) hx hb dX9_layWays_35 rfl hl (by decide) rfl (fun ls hl => ?_)
        exact J36 _ _ _ _ _ _ h hW hS (lv_sub hl [1, 0] rfl)
      · refine lv_aload_n hx hb dX9_layWays_8 rfl (lv_at hl 0 rfl) ?_
        refine rw_get hx hb hts iX9 hown hW (fl 99 rfl) rfl rfl 9 (by decide) e31 rfl (v := .ref (E.2.1 107)) rfl dX9_layWays_9 ?_
        refine lv_bipush (v := (64 : Int32)) hx hb dX9_layWays_12 (by decide) ?_
        refine lv_aload_n hx hb dX9_layWays_14 rfl (lv_at hl 0 rfl) ?_
        refine rc_Vi (k := 99) (As := []) (rest := [.int (64 : Int32), .ref (E.2.1 107)]) S hW hS h (kX9_cells l E  w) (cwV 0 hts gX9_layWays_X9_cells rfl rfl rfl hdX9_cells ⟨Nat.le_of_ble_eq_true rfl, Nat.le_of_ble_eq_true rfl⟩) (fl 99 rfl) rfl rfl rfl rfl hl.1 rfl (Nat.le_of_ble_eq_true rfl) ⟨Nat.zero_le _, Nat.zero_le _⟩ dX9_layWays_15 (fun x3 w4 H locs h hW hS => ?_)
        refine lv_imul hx hb dX9_layWays_18 ?_
        refine lv_iload_n hx hb dX9_layWays_19 rfl (lv_at hl 1 rfl) ?_
        refine lv_iadd hx hb dX9_layWays_20 ?_
        refine lv_lconst (v := (1 : Int64)) hx hb dX9_layWays_21 (by decide) ?_
        refine rw_last hx hb hW hS (fun _ => (fl 107 rfl)) h dX9_layWays_22 (fun w5 H locs h hW hS => ?_)
        refine lv_iinc (v := (v1 + (1 : Int32))) (lv' := [(1, .int (v1 + (1 : Int32))), (0, .ref (E.2.1 99))]) hx hb dX9_layWays_23 hl (k := 1) rfl rfl (by decide) rfl (fun ls hl => ?_)
        refine lv_goto (tgt := 2) hx hb dX9_layWays_26 (by decide) ?_
        exact ih2 _ _ _ _ _ h hW hS (lv_sub hl [1, 0] rfl)
  unfold fX9_layWays at h
  refine lv_iconst (v := (0 : Int32)) hx hb dX9_layWays_0 (by decide) ?_
  refine lv_istore_n (lv' := [(1, .int (0 : Int32)), (0, .ref (E.2.1 99))]) hx hb dX9_layWays_1 rfl hl (by decide) rfl (fun ls hl => ?_)
  exact J2 _ _ _ _ _ _ h hW hS (lv_sub hl [1, 0] rfl)
noncomputable def fX9_heaps  (w : Wd) : Option (Int64 × Wd) :=
  bnd (fX9_layWays w) fun _ w1 => (gL w1 107 (0 : Int32)).bind fun x2 => some (x2, w1)
abbrev rmX9_heaps : Room := { frames := 2, cells := 0, slots := 0, locals := 55 }
set_option maxHeartbeats 4000000 in
set_option maxRecDepth 100000 in
theorem kX9_heaps (l : Launch) (E : Ev)  (w : Wd) (q : Int64 × Wd) (h : fX9_heaps w = some q) : CtL l yX9_heaps wsX9_heaps rmX9_heaps E full [.ref (E.2.1 99)] w q := by
  refine mkL (cc := cX9_heaps) (maxL := 1) (by decide) rfl (Nat.le_of_ble_eq_true rfl) ?_
  intro p e s m args below meth c Q S hW hQ ls hl
  obtain ⟨hx, hb, hml, hown, hts⟩ := id S
  have hW0 := hW
  have hS : va_S (wA E full) s.heap s.heap [] := va_S.rf
  have hl : lv_has ls 1 [(0, .ref (E.2.1 99))] := hl
  have iX9 : ∀ w ∈ wsX90, w ∈ wsX9_heaps := by decide +kernel
  have e31 := hts (.fieldLink RX9 31 "CubeHeapsModel" "ways" "[J") (by decide +kernel)
  unfold fX9_heaps at h
  refine lv_aload_n hx hb dX9_heaps_0 rfl (lv_at hl 0 rfl) ?_
  refine rc_Vv (k := 99) (As := []) (rest := []) S hW hS h (kX9_layWays l E  w) (cwV 0 hts gX9_heaps_X9_layWays rfl rfl rfl hdX9_layWays ⟨Nat.le_of_ble_eq_true rfl, Nat.le_of_ble_eq_true rfl⟩) (fl 99 rfl) rfl rfl rfl rfl hl.1 rfl (Nat.le_of_ble_eq_true rfl) ⟨Nat.zero_le _, Nat.zero_le _⟩ dX9_heaps_1 (fun _ w1 H locs h hW hS => ?_)
  refine lv_aload_n hx hb dX9_heaps_4 rfl (lv_at hl 0 rfl) ?_
  refine rw_get hx hb hts iX9 hown hW (fl 99 rfl) rfl rfl 9 (by decide) e31 rfl (v := .ref (E.2.1 107)) rfl dX9_heaps_5 ?_
  refine lv_iconst (v := (0 : Int32)) hx hb dX9_heaps_8 (by decide) ?_
  refine rw_lald hx hb hW (fun _ => (fl 107 rfl)) h dX9_heaps_9 (fun x2 h => ?_)
  exact rrL hQ hW hS h dX9_heaps_10
noncomputable def fX9_withHeight (p1 : Int32) (p2 : Int32) (w : Wd) : Option (Int64 × Wd) :=
  bnd (fX9_layWays (uI (uI w 99 11 p1) 99 12 p2)) fun _ w1 => (gL (uI w1 99 11 (-9 : Int32)) 107 (0 : Int32)).bind fun x2 => some (x2, (uI w1 99 11 (-9 : Int32)))
abbrev rmX9_withHeight : Room := { frames := 2, cells := 0, slots := 0, locals := 55 }
set_option maxHeartbeats 4000000 in
set_option maxRecDepth 100000 in
theorem kX9_withHeight (l : Launch) (E : Ev) (p1 : Int32) (p2 : Int32) (w : Wd) (q : Int64 × Wd) (h : fX9_withHeight p1 p2 w = some q) : CtL l yX9_withHeight wsX9_withHeight rmX9_withHeight E full [.ref (E.2.1 99), .int p1, .int p2] w q := by
  refine mkL (cc := cX9_withHeight) (maxL := 3) (by decide) rfl (Nat.le_of_ble_eq_true rfl) ?_
  intro p e s m args below meth c Q S hW hQ ls hl
  obtain ⟨hx, hb, hml, hown, hts⟩ := id S
  have hW0 := hW
  have hS : va_S (wA E full) s.heap s.heap [] := va_S.rf
  have hl : lv_has ls 3 [(0, .ref (E.2.1 99)), (1, .int p1), (2, .int p2)] := hl
  have iX9 : ∀ w ∈ wsX90, w ∈ wsX9_withHeight := by decide +kernel
  have e31 := hts (.fieldLink RX9 31 "CubeHeapsModel" "ways" "[J") (by decide +kernel)
  have e38 := hts (.fieldLink RX9 38 "CubeHeapsModel" "onlyCell" "I") (by decide +kernel)
  have e149 := hts (.fieldLink RX9 149 "CubeHeapsModel" "onlyHeight" "I") (by decide +kernel)
  unfold fX9_withHeight at h
  refine lv_aload_n hx hb dX9_withHeight_0 rfl (lv_at hl 0 rfl) ?_
  refine lv_iload_n hx hb dX9_withHeight_1 rfl (lv_at hl 1 rfl) ?_
  refine rw_put hx hb hts iX9 tyX9_ok nmX9 hown hW hS (fl 99 rfl) rfl rfl 11 (by decide) e38 rfl 11 p1 (L := [.int (w.1 99 0), .int (w.1 99 1), .ref (E.2.1 100), .ref (E.2.1 101), .ref (E.2.1 102), .ref (E.2.1 103), .ref (E.2.1 104), .ref (E.2.1 105), .ref (E.2.1 106), .ref (E.2.1 107), .ref (E.2.1 108), .int p1, .int (w.1 99 12), .ref (E.2.1 109), .ref (E.2.1 110), .ref (E.2.1 111), .ref (E.2.1 112), .ref (E.2.1 113), .ref (E.2.1 114), .ref (E.2.1 115), .ref (E.2.1 116), .ref (E.2.1 117), .ref (E.2.1 118), .ref (E.2.1 119), .ref (E.2.1 120), .ref (E.2.1 121)]) rfl rfl rfl rfl (by decide) dX9_withHeight_2 (fun H locs hW hS => ?_)
  refine lv_aload_n hx hb dX9_withHeight_5 rfl (lv_at hl 0 rfl) ?_
  refine lv_iload_n hx hb dX9_withHeight_6 rfl (lv_at hl 2 rfl) ?_
  refine rw_put hx hb hts iX9 tyX9_ok nmX9 hown hW hS (fl 99 rfl) rfl rfl 12 (by decide) e149 rfl 12 p2 (L := [.int ((uI w 99 11 p1).1 99 0), .int ((uI w 99 11 p1).1 99 1), .ref (E.2.1 100), .ref (E.2.1 101), .ref (E.2.1 102), .ref (E.2.1 103), .ref (E.2.1 104), .ref (E.2.1 105), .ref (E.2.1 106), .ref (E.2.1 107), .ref (E.2.1 108), .int ((uI w 99 11 p1).1 99 11), .int p2, .ref (E.2.1 109), .ref (E.2.1 110), .ref (E.2.1 111), .ref (E.2.1 112), .ref (E.2.1 113), .ref (E.2.1 114), .ref (E.2.1 115), .ref (E.2.1 116), .ref (E.2.1 117), .ref (E.2.1 118), .ref (E.2.1 119), .ref (E.2.1 120), .ref (E.2.1 121)]) rfl rfl rfl rfl (by decide) dX9_withHeight_7 (fun H locs hW hS => ?_)
  refine lv_aload_n hx hb dX9_withHeight_10 rfl (lv_at hl 0 rfl) ?_
  refine rc_Vv (k := 99) (As := []) (rest := []) S hW hS h (kX9_layWays l E  (uI (uI w 99 11 p1) 99 12 p2)) (cwV 0 hts gX9_withHeight_X9_layWays rfl rfl rfl hdX9_layWays ⟨Nat.le_of_ble_eq_true rfl, Nat.le_of_ble_eq_true rfl⟩) (fl 99 rfl) rfl rfl rfl rfl hl.1 rfl (Nat.le_of_ble_eq_true rfl) ⟨Nat.zero_le _, Nat.zero_le _⟩ dX9_withHeight_11 (fun _ w1 H locs h hW hS => ?_)
  refine lv_aload_n hx hb dX9_withHeight_14 rfl (lv_at hl 0 rfl) ?_
  refine lv_bipush (v := (-9 : Int32)) hx hb dX9_withHeight_15 (by decide) ?_
  refine rw_put hx hb hts iX9 tyX9_ok nmX9 hown hW hS (fl 99 rfl) rfl rfl 11 (by decide) e38 rfl 11 (-9 : Int32) (L := [.int (w1.1 99 0), .int (w1.1 99 1), .ref (E.2.1 100), .ref (E.2.1 101), .ref (E.2.1 102), .ref (E.2.1 103), .ref (E.2.1 104), .ref (E.2.1 105), .ref (E.2.1 106), .ref (E.2.1 107), .ref (E.2.1 108), .int (-9 : Int32), .int (w1.1 99 12), .ref (E.2.1 109), .ref (E.2.1 110), .ref (E.2.1 111), .ref (E.2.1 112), .ref (E.2.1 113), .ref (E.2.1 114), .ref (E.2.1 115), .ref (E.2.1 116), .ref (E.2.1 117), .ref (E.2.1 118), .ref (E.2.1 119), .ref (E.2.1 120), .ref (E.2.1 121)]) rfl rfl rfl rfl (by decide) dX9_withHeight_17 (fun H locs hW hS => ?_)
  refine lv_aload_n hx hb dX9_withHeight_20 rfl (lv_at hl 0 rfl) ?_
  refine rw_get hx hb hts iX9 hown hW (fl 99 rfl) rfl rfl 9 (by decide) e31 rfl (v := .ref (E.2.1 107)) rfl dX9_withHeight_21 ?_
  refine lv_iconst (v := (0 : Int32)) hx hb dX9_withHeight_24 (by decide) ?_
  refine rw_lald hx hb hW (fun _ => (fl 107 rfl)) h dX9_withHeight_25 (fun x2 h => ?_)
  exact rrL hQ hW hS h dX9_withHeight_26
noncomputable def fX9_with (p1 : Int32) (p2 : Int32) (w : Wd) : Option (Int64 × Wd) :=
  bnd (fX9_isCell p1 w) fun x1 w2 => if x1 = 0 then some ((-1 : Int64), w2) else bnd (fX9_in (p2.toInt64) (0 : Int64) (4 : Int64) w2) fun x3 w4 => if x3 = 0 then some ((-2 : Int64), w4) else bnd (fX9_withHeight p1 p2 w4) fun x5 w6 => some (x5, w6)
abbrev rmX9_with : Room := { frames := 3, cells := 0, slots := 0, locals := 77 }
set_option maxHeartbeats 4000000 in
set_option maxRecDepth 100000 in
theorem kX9_with (l : Launch) (E : Ev) (p1 : Int32) (p2 : Int32) (w : Wd) (q : Int64 × Wd) (h : fX9_with p1 p2 w = some q) : CtL l yX9_with wsX9_with rmX9_with E full [.ref (E.2.1 99), .int p1, .int p2] w q := by
  refine mkL (cc := cX9_with) (maxL := 3) (by decide) rfl (Nat.le_of_ble_eq_true rfl) ?_
  intro p e s m args below meth c Q S hW hQ ls hl
  obtain ⟨hx, hb, hml, hown, hts⟩ := id S
  have hW0 := hW
  have hS : va_S (wA E full) s.heap s.heap [] := va_S.rf
  have hl : lv_has ls 3 [(0, .ref (E.2.1 99)), (1, .int p1), (2, .int p2)] := hl
  unfold fX9_with at h
  refine lv_aload_n hx hb dX9_with_0 rfl (lv_at hl 0 rfl) ?_
  refine lv_iload_n hx hb dX9_with_1 rfl (lv_at hl 1 rfl) ?_
  refine rc_Vi (k := 99) (As := [.int p1]) (rest := []) S hW hS h (kX9_isCell l E p1 w) (cwV 1 hts gX9_with_X9_isCell rfl rfl rfl hdX9_isCell ⟨Nat.le_of_ble_eq_true rfl, Nat.le_of_ble_eq_true rfl⟩) (fl 99 rfl) rfl rfl rfl rfl hl.1 rfl (Nat.le_of_ble_eq_true rfl) ⟨Nat.zero_le _, Nat.zero_le _⟩ dX9_with_2 (fun x1 w2 H locs h hW hS => ?_)
  refine rb_if_ne (tgt := 12) hx hb h dX9_with_5 (by decide) (fun h => ?_) (fun h => ?_)
  · refine lv_iload_n hx hb dX9_with_12 rfl (lv_at hl 2 rfl) ?_
    refine lv_i2l (v := (p2.toInt64)) hx hb dX9_with_13 rfl ?_
    refine lv_lconst (v := (0 : Int64)) hx hb dX9_with_14 (by decide) ?_
    refine lv_ldc2 (own := RX9) (v := (4 : Int64)) hx hb hown (hts _ (by decide +kernel)) dX9_with_15 ?_
    refine rc_Si (As := [.long (p2.toInt64), .long (0 : Int64), .long (4 : Int64)]) (rest := []) S hW hS h (kX9_in l E (p2.toInt64) (0 : Int64) (4 : Int64) w2) (va_cwS 3 hts gX9_with_X9_in rfl rfl rfl hdX9_in ⟨Nat.le_of_ble_eq_true rfl, Nat.le_of_ble_eq_true rfl⟩) rfl hl.1 rfl (Nat.le_of_ble_eq_true rfl) ⟨Nat.zero_le _, Nat.zero_le _⟩ dX9_with_18 (fun x3 w4 H locs h hW hS => ?_)
    refine rb_if_eq (tgt := 33) hx hb h dX9_with_21 (by decide) (fun h => ?_) (fun h => ?_)
    · refine lv_ldc2 (own := RX9) (v := (-2 : Int64)) hx hb hown (hts _ (by decide +kernel)) dX9_with_33 ?_
      exact rrL hQ hW hS h dX9_with_36
    · refine lv_aload_n hx hb dX9_with_24 rfl (lv_at hl 0 rfl) ?_
      refine lv_iload_n hx hb dX9_with_25 rfl (lv_at hl 1 rfl) ?_
      refine lv_iload_n hx hb dX9_with_26 rfl (lv_at hl 2 rfl) ?_
      refine rc_Vl (k := 99) (As := [.int p1, .int p2]) (rest := []) S hW hS h (kX9_withHeight l E p1 p2 w4) (cwV 2 hts gX9_with_X9_withHeight rfl rfl rfl hdX9_withHeight ⟨Nat.le_of_ble_eq_true rfl, Nat.le_of_ble_eq_true rfl⟩) (fl 99 rfl) rfl rfl rfl rfl hl.1 rfl (Nat.le_of_ble_eq_true rfl) ⟨Nat.zero_le _, Nat.zero_le _⟩ dX9_with_27 (fun x5 w6 H locs h hW hS => ?_)
      refine lv_goto (tgt := 36) hx hb dX9_with_30 (by decide) ?_
      exact rrL hQ hW hS h dX9_with_36
  · refine lv_ldc2 (own := RX9) (v := (-1 : Int64)) hx hb hown (hts _ (by decide +kernel)) dX9_with_8 ?_
    exact rrL hQ hW hS h dX9_with_11
noncomputable def jX9_span_28 (p1 : Int32) (p2 : Int32) (k12 : Int32 → Wd → Option (Int32 × Wd)) (v3 : Int32) (s0 : Int32)  (w : Wd) : Option (Int32 × Wd) :=
  bnd (fX9_withHeight p1 s0 w) fun x3 w4 => if (0 : Int64) < x3 then some (s0, w4) else k12 (v3 + (1 : Int32)) w4
noncomputable def bX9_span_12 (p1 : Int32) (p2 : Int32) (k12 : Int32 → Wd → Option (Int32 × Wd)) (v3 : Int32)  (w : Wd) : Option (Int32 × Wd) :=
  if (5 : Int32) ≤ v3 then some ((-9 : Int32), w) else if p2 = 0 then jX9_span_28 p1 p2 k12 v3 v3 w else jX9_span_28 p1 p2 k12 v3 ((4 : Int32) - v3) w
noncomputable def fX9_span (p1 : Int32) (p2 : Int32) (w : Wd) : Option (Int32 × Wd) :=
  bnd (fX9_isCell p1 w) fun x1 w2 => if x1 = 0 then some ((-1 : Int32), w2) else lp (fun _ _ => none) (bX9_span_12 p1 p2) G (0 : Int32) w2
abbrev rmX9_span : Room := { frames := 3, cells := 0, slots := 0, locals := 77 }
set_option maxHeartbeats 4000000 in
set_option maxRecDepth 100000 in
theorem kX9_span (l : Launch) (E : Ev) (p1 : Int32) (p2 : Int32) (w : Wd) (q : Int32 × Wd) (h : fX9_span p1 p2 w = some q) : CtI l yX9_span wsX9_span rmX9_span E full [.ref (E.2.1 99), .int p1, .int p2] w q := by
  refine mkI (cc := cX9_span) (maxL := 5) (by decide) rfl (Nat.le_of_ble_eq_true rfl) ?_
  intro p e s m args below meth c Q S hW hQ ls hl
  obtain ⟨hx, hb, hml, hown, hts⟩ := id S
  have hW0 := hW
  have hS : va_S (wA E full) s.heap s.heap [] := va_S.rf
  have hl : lv_has ls 5 [(0, .ref (E.2.1 99)), (1, .int p1), (2, .int p2)] := hl
  have J12 : ∀ (n : Nat) (v3 : Int32) (w : Wd) (H : Heap) (locs : List Loc) (ls : Array Slot), lp (fun _ _ => none) (bX9_span_12 p1 p2) n v3 w = some q → World E full w s H → va_S (wA E full) s.heap H locs → lv_has ls 5 [(0, .ref (E.2.1 99)), (1, .int p1), (2, .int p2), (3, .int v3)] → W p l e rmX9_span s m args below meth c H locs 0 0 Q (F0 m 12 ls []) := by
    intro n
    induction n with
    | zero =>
      intro v3 w H locs ls h hW hS hl
      exact absurd (show (none : Option (Int32 × Wd)) = some q from h) (fun z => by cases z)
    | succ n ih12 =>
      intro v3 w H locs ls h hW hS hl
      have h : bX9_span_12 p1 p2 (lp (fun _ _ => none) (bX9_span_12 p1 p2) n) v3 w = some q := h
      generalize lp (fun _ _ => none) (bX9_span_12 p1 p2) n = k12 at h ih12
      have J28 : ∀ (v3 : Int32) (s0 : Int32) (w : Wd) (H : Heap) (locs : List Loc) (ls : Array Slot), jX9_span_28 p1 p2 k12 v3 s0 w = some q → World E full w s H → va_S (wA E full) s.heap H locs → lv_has ls 5 [(0, .ref (E.2.1 99)), (1, .int p1), (2, .int p2), (3, .int v3)] → W p l e rmX9_span s m args below meth c H locs 0 0 Q (F0 m 28 ls [.int s0]) := by
        intro v3 s0 w H locs ls h hW hS hl
        unfold jX9_span_28 at h
        refine lv_istore (lv' := [(4, .int s0), (0, .ref (E.2.1 99)), (1, .int p1), (2, .int p2), (3, .int v3)]) hx hb dX9_span_28 hl (by decide) rfl (fun ls hl => ?_)
        refine lv_aload_n hx hb dX9_span_30 rfl (lv_at hl 1 rfl) ?_
        refine lv_iload_n hx hb dX9_span_31 rfl (lv_at hl 2 rfl) ?_
        refine lv_iload hx hb dX9_span_32 (lv_at hl 0 rfl) ?_
        refine rc_Vl (k := 99) (As := [.int p1, .int s0]) (rest := []) S hW hS h (kX9_withHeight l E p1 s0 w) (cwV 2 hts gX9_span_X9_withHeight rfl rfl rfl hdX9_withHeight ⟨Nat.le_of_ble_eq_true rfl, Nat.le_of_ble_eq_true rfl⟩) (fl 99 rfl) rfl rfl rfl rfl hl.1 rfl (Nat.le_of_ble_eq_true rfl) ⟨Nat.zero_le _, Nat.zero_le _⟩ dX9_span_34 (fun x3 w4 H locs h hW hS => ?_)
        refine lv_lconst (v := (0 : Int64)) hx hb dX9_span_37 (by decide) ?_
        refine rb_lcmp_le (tgt := 45) hx hb h dX9_span_38 dX9_span_39 (by decide) (fun h => ?_) (fun h => ?_)
        · refine lv_iinc (v := (v3 + (1 : Int32))) (lv' := [(3, .int (v3 + (1 : Int32))), (4, .int s0), (0, .ref (E.2.1 99)), (1, .int p1), (2, .int p2)]) hx hb dX9_span_45 hl (k := 4) rfl rfl (by decide) rfl (fun ls hl => ?_)
          refine lv_goto (tgt := 12) hx hb dX9_span_48 (by decide) ?_
          exact ih12 _ _ _ _ _ h hW hS (lv_sub hl [2, 3, 4, 0] rfl)
        · refine lv_iload hx hb dX9_span_42 (lv_at hl 0 rfl) ?_
          exact rrI hQ hW hS h dX9_span_44
      unfold bX9_span_12 at h
      refine lv_iload_n hx hb dX9_span_12 rfl (lv_at hl 3 rfl) ?_
      refine lv_iconst (v := (5 : Int32)) hx hb dX9_span_13 (by decide) ?_
      refine rb_icmp_ge (tgt := 51) hx hb h dX9_span_14 (by decide) (fun h => ?_) (fun h => ?_)
      · refine lv_bipush (v := (-9 : Int32)) hx hb dX9_span_51 (by decide) ?_
        exact rrI hQ hW hS h dX9_span_53
      · refine lv_iload_n hx hb dX9_span_17 rfl (lv_at hl 2 rfl) ?_
        refine rb_if_eq (tgt := 27) hx hb h dX9_span_18 (by decide) (fun h => ?_) (fun h => ?_)
        · refine lv_iload_n hx hb dX9_span_27 rfl (lv_at hl 3 rfl) ?_
          exact J28 _ _ _ _ _ _ h hW hS (hl)
        · refine lv_iconst (v := (4 : Int32)) hx hb dX9_span_21 (by decide) ?_
          refine lv_iload_n hx hb dX9_span_22 rfl (lv_at hl 3 rfl) ?_
          refine lv_isub hx hb dX9_span_23 ?_
          refine lv_goto (tgt := 28) hx hb dX9_span_24 (by decide) ?_
          exact J28 _ _ _ _ _ _ h hW hS (hl)
  unfold fX9_span at h
  refine lv_aload_n hx hb dX9_span_0 rfl (lv_at hl 0 rfl) ?_
  refine lv_iload_n hx hb dX9_span_1 rfl (lv_at hl 1 rfl) ?_
  refine rc_Vi (k := 99) (As := [.int p1]) (rest := []) S hW hS h (kX9_isCell l E p1 w) (cwV 1 hts gX9_span_X9_isCell rfl rfl rfl hdX9_isCell ⟨Nat.le_of_ble_eq_true rfl, Nat.le_of_ble_eq_true rfl⟩) (fl 99 rfl) rfl rfl rfl rfl hl.1 rfl (Nat.le_of_ble_eq_true rfl) ⟨Nat.zero_le _, Nat.zero_le _⟩ dX9_span_2 (fun x1 w2 H locs h hW hS => ?_)
  refine rb_if_ne (tgt := 10) hx hb h dX9_span_5 (by decide) (fun h => ?_) (fun h => ?_)
  · refine lv_iconst (v := (0 : Int32)) hx hb dX9_span_10 (by decide) ?_
    refine lv_istore_n (lv' := [(3, .int (0 : Int32)), (0, .ref (E.2.1 99)), (1, .int p1), (2, .int p2)]) hx hb dX9_span_11 rfl hl (by decide) rfl (fun ls hl => ?_)
    exact J12 _ _ _ _ _ _ h hW hS (lv_sub hl [1, 2, 3, 0] rfl)
  · refine lv_iconst (v := (-1 : Int32)) hx hb dX9_span_8 (by decide) ?_
    exact rrI hQ hW hS h dX9_span_9
noncomputable def jX9_count_149 (p1 : Int32) (k36 : Int32 → Wd → Option (Int32 × Wd)) (k42 : Int32 → Int32 → Wd → Option (Int32 × Wd)) (k55 : Int32 → Int32 → Int32 → Int32 → Wd → Option (Int32 × Wd)) (v2 : Int32) (v3 : Int32) (v5 : Int32) (s0 : Int32)  (w : Wd) : Option (Int32 × Wd) :=
  k55 v2 v3 s0 (v5 + (1 : Int32)) w
noncomputable def jX9_count_147 (p1 : Int32) (k36 : Int32 → Wd → Option (Int32 × Wd)) (k42 : Int32 → Int32 → Wd → Option (Int32 × Wd)) (k55 : Int32 → Int32 → Int32 → Int32 → Wd → Option (Int32 × Wd)) (v2 : Int32) (v3 : Int32) (v4 : Int32) (v5 : Int32)  (w : Wd) : Option (Int32 × Wd) :=
  jX9_count_149 p1 k36 k42 k55 v2 v3 v5 v4 w
noncomputable def jX9_count_142 (p1 : Int32) (k36 : Int32 → Wd → Option (Int32 × Wd)) (k42 : Int32 → Int32 → Wd → Option (Int32 × Wd)) (k55 : Int32 → Int32 → Int32 → Int32 → Wd → Option (Int32 × Wd)) (v2 : Int32) (v3 : Int32) (v5 : Int32) (v8 : Int32)  (w : Wd) : Option (Int32 × Wd) :=
  jX9_count_149 p1 k36 k42 k55 v2 v3 v5 v8 w
noncomputable def jX9_count_98 (p1 : Int32) (k36 : Int32 → Wd → Option (Int32 × Wd)) (k42 : Int32 → Int32 → Wd → Option (Int32 × Wd)) (k55 : Int32 → Int32 → Int32 → Int32 → Wd → Option (Int32 × Wd)) (v2 : Int32) (v3 : Int32) (v4 : Int32) (v5 : Int32) (s0 : Int32)  (w : Wd) : Option (Int32 × Wd) :=
  if s0 = (-9 : Int32) then jX9_count_147 p1 k36 k42 k55 v2 v3 v4 v5 w else if v4 = (-9 : Int32) then jX9_count_142 p1 k36 k42 k55 v2 v3 v5 (s0 + v5) w else if p1 = 0 then if v4 ≤ (s0 + v5) then jX9_count_147 p1 k36 k42 k55 v2 v3 v4 v5 w else jX9_count_142 p1 k36 k42 k55 v2 v3 v5 (s0 + v5) w else if (s0 + v5) ≤ v4 then jX9_count_147 p1 k36 k42 k55 v2 v3 v4 v5 w else jX9_count_142 p1 k36 k42 k55 v2 v3 v5 (s0 + v5) w
noncomputable def bX9_count_55 (p1 : Int32) (k36 : Int32 → Wd → Option (Int32 × Wd)) (k42 : Int32 → Int32 → Wd → Option (Int32 × Wd)) (k55 : Int32 → Int32 → Int32 → Int32 → Wd → Option (Int32 × Wd)) (v2 : Int32) (v3 : Int32) (v4 : Int32) (v5 : Int32)  (w : Wd) : Option (Int32 × Wd) :=
  if (5 : Int32) ≤ v5 then (sI w 108 (((64 : Int32) * v2) + v3) v4).bind fun w7 => k42 v2 (v3 + (1 : Int32)) w7 else bnd (fX9_then v2 v3 v5 w) fun x8 w9 => if x8 = (-9 : Int32) then jX9_count_98 p1 k36 k42 k55 v2 v3 v4 v5 (-9 : Int32) w9 else (gI w9 108 ((((64 : Int32) * v2) + (64 : Int32)) + x8)).bind fun x10 => jX9_count_98 p1 k36 k42 k55 v2 v3 v4 v5 x10 w9
noncomputable def bX9_count_42 (p1 : Int32) (k36 : Int32 → Wd → Option (Int32 × Wd)) (k42 : Int32 → Int32 → Wd → Option (Int32 × Wd)) (v2 : Int32) (v3 : Int32)  (w : Wd) : Option (Int32 × Wd) :=
  if (64 : Int32) ≤ v3 then k36 (v2 + (-1 : Int32)) w else lp (fun _ _ _ _ _ => none) (bX9_count_55 p1 k36 k42) G v2 v3 (-9 : Int32) (0 : Int32) w
noncomputable def bX9_count_36 (p1 : Int32) (k36 : Int32 → Wd → Option (Int32 × Wd)) (v2 : Int32)  (w : Wd) : Option (Int32 × Wd) :=
  if v2 < 0 then (gI w 108 (0 : Int32)).bind fun x6 => some (x6, w) else lp (fun _ _ _ => none) (bX9_count_42 p1 k36) G v2 (0 : Int32) w
noncomputable def bX9_count_2 (p1 : Int32) (k2 : Int32 → Wd → Option (Int32 × Wd)) (v2 : Int32)  (w : Wd) : Option (Int32 × Wd) :=
  if (64 : Int32) ≤ v2 then bnd (fX9_cells w) fun x1 w2 => lp (fun _ _ => none) (bX9_count_36 p1) G (x1 - (1 : Int32)) w2 else bnd (fX9_cells w) fun x3 w4 => (sI w4 108 (((64 : Int32) * x3) + v2) (0 : Int32)).bind fun w5 => k2 (v2 + (1 : Int32)) w5
noncomputable def fX9_count (p1 : Int32) (w : Wd) : Option (Int32 × Wd) :=
  lp (fun _ _ => none) (bX9_count_2 p1) G (0 : Int32) w
abbrev rmX9_count : Room := { frames := 1, cells := 0, slots := 0, locals := 29 }
set_option maxHeartbeats 4000000 in
set_option maxRecDepth 100000 in
theorem kX9_count (l : Launch) (E : Ev) (p1 : Int32) (w : Wd) (q : Int32 × Wd) (h : fX9_count p1 w = some q) : CtI l yX9_count wsX9_count rmX9_count E full [.ref (E.2.1 99), .int p1] w q := by
  refine mkI (cc := cX9_count) (maxL := 9) (by decide) rfl (Nat.le_of_ble_eq_true rfl) ?_
  intro p e s m args below meth c Q S hW hQ ls hl
  obtain ⟨hx, hb, hml, hown, hts⟩ := id S
  have hW0 := hW
  have hS : va_S (wA E full) s.heap s.heap [] := va_S.rf
  have hl : lv_has ls 9 [(0, .ref (E.2.1 99)), (1, .int p1)] := hl
  have iX9 : ∀ w ∈ wsX90, w ∈ wsX9_count := by decide +kernel
  have e35 := hts (.fieldLink RX9 35 "CubeHeapsModel" "best" "[I") (by decide +kernel)
  have J36 : ∀ (n : Nat) (v2 : Int32) (w : Wd) (H : Heap) (locs : List Loc) (ls : Array Slot), lp (fun _ _ => none) (bX9_count_36 p1) n v2 w = some q → World E full w s H → va_S (wA E full) s.heap H locs → lv_has ls 9 [(0, .ref (E.2.1 99)), (1, .int p1), (2, .int v2)] → W p l e rmX9_count s m args below meth c H locs 0 0 Q (F0 m 36 ls []) := by
    intro n
    induction n with
    | zero =>
      intro v2 w H locs ls h hW hS hl
      exact absurd (show (none : Option (Int32 × Wd)) = some q from h) (fun z => by cases z)
    | succ n ih36 =>
      intro v2 w H locs ls h hW hS hl
      have h : bX9_count_36 p1 (lp (fun _ _ => none) (bX9_count_36 p1) n) v2 w = some q := h
      generalize lp (fun _ _ => none) (bX9_count_36 p1) n = k36 at h ih36
      have J42 : ∀ (n : Nat) (v2 : Int32) (v3 : Int32) (w : Wd) (H : Heap) (locs : List Loc) (ls : Array Slot), lp (fun _ _ _ => none) (bX9_count_42 p1 k36) n v2 v3 w = some q → World E full w s H → va_S (wA E full) s.heap H locs → lv_has ls 9 [(0, .ref (E.2.1 99)), (1, .int p1), (2, .int v2), (3, .int v3)] → W p l e rmX9_count s m args below meth c H locs 0 0 Q (F0 m 42 ls []) := by
        intro n
        induction n with
        | zero =>
          intro v2 v3 w H locs ls h hW hS hl
          exact absurd (show (none : Option (Int32 × Wd)) = some q from h) (fun z => by cases z)
        | succ n ih42 =>
          intro v2 v3 w H locs ls h hW hS hl
          have h : bX9_count_42 p1 k36 (lp (fun _ _ _ => none) (bX9_count_42 p1 k36) n) v2 v3 w = some q := h
          generalize lp (fun _ _ _ => none) (bX9_count_42 p1 k36) n = k42 at h ih42
          have J55 : ∀ (n : Nat) (v2 : Int32) (v3 : Int32) (v4 : Int32) (v5 : Int32) (w : Wd) (H : Heap) (locs : List Loc) (ls : Array Slot), lp (fun _ _ _ _ _ => none) (bX9_count_55 p1 k36 k42) n v2 v3 v4 v5 w = some q → World E full w s H → va_S (wA E full) s.heap H locs → lv_has ls 9 [(0, .ref (E.2.1 99)), (1, .int p1), (2, .int v2), (3, .int v3), (4, .int v4), (5, .int v5)] → W p l e rmX9_count s m args below meth c H locs 0 0 Q (F0 m 55 ls []) := by
            intro n
            induction n with
            | zero =>
              intro v2 v3 v4 v5 w H locs ls h hW hS hl
              exact absurd (show (none : Option (Int32 × Wd)) = some q from h) (fun z => by cases z)
            | succ n ih55 =>
              intro v2 v3 v4 v5 w H locs ls h hW hS hl
              have h : bX9_count_55 p1 k36 k42 (lp (fun _ _ _ _ _ => none) (bX9_count_55 p1 k36 k42) n) v2 v3 v4 v5 w = some q := h
              generalize lp (fun _ _ _ _ _ => none) (bX9_count_55 p1 k36 k42) n = k55 at h ih55
              have J149 : ∀ (v2 : Int32) (v3 : Int32) (v5 : Int32) (s0 : Int32) (w : Wd) (H : Heap) (locs : List Loc) (ls : Array Slot), jX9_count_149 p1 k36 k42 k55 v2 v3 v5 s0 w = some q → World E full w s H → va_S (wA E full) s.heap H locs → lv_has ls 9 [(0, .ref (E.2.1 99)), (1, .int p1), (2, .int v2), (3, .int v3), (5, .int v5)] → W p l e rmX9_count s m args below meth c H locs 0 0 Q (F0 m 149 ls [.int s0]) := by
                intro v2 v3 v5 s0 w H locs ls h hW hS hl
                unfold jX9_count_149 at h
                refine lv_istore (lv' := [(4, .int s0), (0, .ref (E.2.1 99)), (1, .int p1), (2, .int v2), (3, .int v3), (5, .int v5)]) hx hb dX9_count_149 hl (by decide) rfl (fun ls hl => ?_)
                refine lv_iinc (v := (v5 + (1 : Int32))) (lv' := [(5, .int (v5 + (1 : Int32))), (4, .int s0), (0, .ref (E.2.1 99)), (1, .int p1), (2, .int v2), (3, .int v3)]) hx hb dX9_count_151 hl (k := 5) rfl rfl (by decide) rfl (fun ls hl => ?_)
                refine lv_goto (tgt := 55) hx hb dX9_count_154 (by decide) ?_
                exact ih55 _ _ _ _ _ _ _ _ h hW hS (lv_sub hl [2, 3, 4, 5, 1, 0] rfl)
              have J147 : ∀ (v2 : Int32) (v3 : Int32) (v4 : Int32) (v5 : Int32) (w : Wd) (H : Heap) (locs : List Loc) (ls : Array Slot), jX9_count_147 p1 k36 k42 k55 v2 v3 v4 v5 w = some q → World E full w s H → va_S (wA E full) s.heap H locs → lv_has ls 9 [(0, .ref (E.2.1 99)), (1, .int p1), (2, .int v2), (3, .int v3), (4, .int v4), (5, .int v5)] → W p l e rmX9_count s m args below meth c H locs 0 0 Q (F0 m 147 ls []) := by
                intro v2 v3 v4 v5 w H locs ls h hW hS hl
                unfold jX9_count_147 at h
                refine lv_iload hx hb dX9_count_147 (lv_at hl 4 rfl) ?_
                exact J149 _ _ _ _ _ _ _ _ h hW hS (lv_sub hl [0, 1, 2, 3, 5] rfl)
              have J142 : ∀ (v2 : Int32) (v3 : Int32) (v5 : Int32) (v8 : Int32) (w : Wd) (H : Heap) (locs : List Loc) (ls : Array Slot), jX9_count_142 p1 k36 k42 k55 v2 v3 v5 v8 w = some q → World E full w s H → va_S (wA E full) s.heap H locs → lv_has ls 9 [(0, .ref (E.2.1 99)), (1, .int p1), (2, .int v2), (3, .int v3), (5, .int v5), (8, .int v8)] → W p l e rmX9_count s m args below meth c H locs 0 0 Q (F0 m 142 ls []) := by
                intro v2 v3 v5 v8 w H locs ls h hW hS hl
                unfold jX9_count_142 at h
                refine lv_iload hx hb dX9_count_142 (lv_at hl 5 rfl) ?_
                refine lv_goto (tgt := 149) hx hb dX9_count_144 (by decide) ?_
                exact J149 _ _ _ _ _ _ _ _ h hW hS (lv_sub hl [0, 1, 2, 3, 4] rfl)
              have J98 : ∀ (v2 : Int32) (v3 : Int32) (v4 : Int32) (v5 : Int32) (s0 : Int32) (w : Wd) (H : Heap) (locs : List Loc) (ls : Array Slot), jX9_count_98 p1 k36 k42 k55 v2 v3 v4 v5 s0 w = some q → World E full w s H → va_S (wA E full) s.heap H locs → lv_has ls 9 [(0, .ref (E.2.1 99)), (1, .int p1), (2, .int v2), (3, .int v3), (4, .int v4), (5, .int v5)] → W p l e rmX9_count s m args below meth c H locs 0 0 Q (F0 m 98 ls [.int s0]) := by
                intro v2 v3 v4 v5 s0 w H locs ls h hW hS hl
                unfold jX9_count_98 at h
                refine lv_istore (lv' := [(7, .int s0), (0, .ref (E.2.1 99)), (1, .int p1), (2, .int v2), (3, .int v3), (4, .int v4), (5, .int v5)]) hx hb dX9_count_98 hl (by decide) rfl (fun ls hl => ?_)
                refine lv_iload hx hb dX9_count_100 (lv_at hl 0 rfl) ?_
                refine lv_iload hx hb dX9_count_102 (lv_at hl 6 rfl) ?_
                refine lv_iadd hx hb dX9_count_104 ?_
                refine lv_istore (lv' := [(8, .int (s0 + v5)), (7, .int s0), (0, .ref (E.2.1 99)), (1, .int p1), (2, .int v2), (3, .int v3), (4, .int v4), (5, .int v5)]) hx hb dX9_count_105 hl (by decide) rfl (fun ls hl => ?_)
                refine lv_iload hx hb dX9_count_107 (lv_at hl 1 rfl) ?_
                refine lv_bipush (v := (-9 : Int32)) hx hb dX9_count_109 (by decide) ?_
                refine rb_icmp_eq (tgt := 147) hx hb h dX9_count_111 (by decide) (fun h => ?_) (fun h => ?_)
                · exact J147 _ _ _ _ _ _ _ _ h hW hS (lv_sub hl [2, 3, 4, 5, 6, 7] rfl)
                · refine lv_iload hx hb dX9_count_114 (lv_at hl 6 rfl) ?_
                  refine lv_bipush (v := (-9 : Int32)) hx hb dX9_count_116 (by decide) ?_
                  refine rb_icmp_eq (tgt := 142) hx hb h dX9_count_118 (by decide) (fun h => ?_) (fun h => ?_)
                  · exact J142 _ _ _ _ _ _ _ _ h hW hS (lv_sub hl [2, 3, 4, 5, 7, 0] rfl)
                  · refine lv_iload_n hx hb dX9_count_121 rfl (lv_at hl 3 rfl) ?_
                    refine rb_if_eq (tgt := 135) hx hb h dX9_count_122 (by decide) (fun h => ?_) (fun h => ?_)
                    · refine lv_iload hx hb dX9_count_135 (lv_at hl 0 rfl) ?_
                      refine lv_iload hx hb dX9_count_137 (lv_at hl 6 rfl) ?_
                      refine rb_icmp_ge (tgt := 147) hx hb h dX9_count_139 (by decide) (fun h => ?_) (fun h => ?_)
                      · exact J147 _ _ _ _ _ _ _ _ h hW hS (lv_sub hl [2, 3, 4, 5, 6, 7] rfl)
                      · exact J142 _ _ _ _ _ _ _ _ h hW hS (lv_sub hl [2, 3, 4, 5, 7, 0] rfl)
                    · refine lv_iload hx hb dX9_count_125 (lv_at hl 0 rfl) ?_
                      refine lv_iload hx hb dX9_count_127 (lv_at hl 6 rfl) ?_
                      refine rb_icmp_le (tgt := 147) hx hb h dX9_count_129 (by decide) (fun h => ?_) (fun h => ?_)
                      · exact J147 _ _ _ _ _ _ _ _ h hW hS (lv_sub hl [2, 3, 4, 5, 6, 7] rfl)
                      · refine lv_goto (tgt := 142) hx hb dX9_count_132 (by decide) ?_
                        exact J142 _ _ _ _ _ _ _ _ h hW hS (lv_sub hl [2, 3, 4, 5, 7, 0] rfl)
              unfold bX9_count_55 at h
              refine lv_iload hx hb dX9_count_55 (lv_at hl 5 rfl) ?_
              refine lv_iconst (v := (5 : Int32)) hx hb dX9_count_57 (by decide) ?_
              refine rb_icmp_ge (tgt := 157) hx hb h dX9_count_58 (by decide) (fun h => ?_) (fun h => ?_)
              · refine lv_aload_n hx hb dX9_count_157 rfl (lv_at hl 0 rfl) ?_
                refine rw_get hx hb hts iX9 hown hW (fl 99 rfl) rfl rfl 10 (by decide) e35 rfl (v := .ref (E.2.1 108)) rfl dX9_count_158 ?_
                refine lv_bipush (v := (64 : Int32)) hx hb dX9_count_161 (by decide) ?_
                refine lv_iload_n hx hb dX9_count_163 rfl (lv_at hl 2 rfl) ?_
                refine lv_imul hx hb dX9_count_164 ?_
                refine lv_iload_n hx hb dX9_count_165 rfl (lv_at hl 3 rfl) ?_
                refine lv_iadd hx hb dX9_count_166 ?_
                refine lv_iload hx hb dX9_count_167 (lv_at hl 4 rfl) ?_
                refine rw_iast hx hb hW hS (fun _ => (fl 108 rfl)) h dX9_count_169 (fun w7 H locs h hW hS => ?_)
                refine lv_iinc (v := (v3 + (1 : Int32))) (lv' := [(3, .int (v3 + (1 : Int32))), (0, .ref (E.2.1 99)), (1, .int p1), (2, .int v2), (4, .int v4), (5, .int v5)]) hx hb dX9_count_170 hl (k := 3) rfl rfl (by decide) rfl (fun ls hl => ?_)
                refine lv_goto (tgt := 42) hx hb dX9_count_173 (by decide) ?_
                exact ih42 _ _ _ _ _ _ h hW hS (lv_sub hl [1, 2, 3, 0] rfl)
              · refine lv_aload_n hx hb dX9_count_61 rfl (lv_at hl 0 rfl) ?_
                refine lv_iload_n hx hb dX9_count_62 rfl (lv_at hl 2 rfl) ?_
                refine lv_iload_n hx hb dX9_count_63 rfl (lv_at hl 3 rfl) ?_
                refine lv_iload hx hb dX9_count_64 (lv_at hl 5 rfl) ?_
                refine rc_Vi (k := 99) (As := [.int v2, .int v3, .int v5]) (rest := []) S hW hS h (kX9_then l E v2 v3 v5 w) (cwV 3 hts gX9_count_X9_then rfl rfl rfl hdX9_then ⟨Nat.le_of_ble_eq_true rfl, Nat.le_of_ble_eq_true rfl⟩) (fl 99 rfl) rfl rfl rfl rfl hl.1 rfl (Nat.le_of_ble_eq_true rfl) ⟨Nat.zero_le _, Nat.zero_le _⟩ dX9_count_66 (fun x8 w9 H locs h hW hS => ?_)
                refine lv_istore (lv' := [(6, .int x8), (0, .ref (E.2.1 99)), (1, .int p1), (2, .int v2), (3, .int v3), (4, .int v4), (5, .int v5)]) hx hb dX9_count_69 hl (by decide) rfl (fun ls hl => ?_)
                refine lv_iload hx hb dX9_count_71 (lv_at hl 0 rfl) ?_
                refine lv_bipush (v := (-9 : Int32)) hx hb dX9_count_73 (by decide) ?_
                refine rb_icmp_ne (tgt := 83) hx hb h dX9_count_75 (by decide) (fun h => ?_) (fun h => ?_)
                · refine lv_aload_n hx hb dX9_count_83 rfl (lv_at hl 1 rfl) ?_
                  refine rw_get hx hb hts iX9 hown hW (fl 99 rfl) rfl rfl 10 (by decide) e35 rfl (v := .ref (E.2.1 108)) rfl dX9_count_84 ?_
                  refine lv_bipush (v := (64 : Int32)) hx hb dX9_count_87 (by decide) ?_
                  refine lv_iload_n hx hb dX9_count_89 rfl (lv_at hl 3 rfl) ?_
                  refine lv_imul hx hb dX9_count_90 ?_
                  refine lv_bipush (v := (64 : Int32)) hx hb dX9_count_91 (by decide) ?_
                  refine lv_iadd hx hb dX9_count_93 ?_
                  refine lv_iload hx hb dX9_count_94 (lv_at hl 0 rfl) ?_
                  refine lv_iadd hx hb dX9_count_96 ?_
                  refine rw_iald hx hb hW (fun _ => (fl 108 rfl)) h dX9_count_97 (fun x10 h => ?_)
                  exact J98 _ _ _ _ _ _ _ _ _ h hW hS (lv_sub hl [1, 2, 3, 4, 5, 6] rfl)
                · refine lv_bipush (v := (-9 : Int32)) hx hb dX9_count_78 (by decide) ?_
                  refine lv_goto (tgt := 98) hx hb dX9_count_80 (by decide) ?_
                  exact J98 _ _ _ _ _ _ _ _ _ h hW hS (lv_sub hl [1, 2, 3, 4, 5, 6] rfl)
          unfold bX9_count_42 at h
          refine lv_iload_n hx hb dX9_count_42 rfl (lv_at hl 3 rfl) ?_
          refine lv_bipush (v := (64 : Int32)) hx hb dX9_count_43 (by decide) ?_
          refine rb_icmp_ge (tgt := 176) hx hb h dX9_count_45 (by decide) (fun h => ?_) (fun h => ?_)
          · refine lv_iinc (v := (v2 + (-1 : Int32))) (lv' := [(2, .int (v2 + (-1 : Int32))), (0, .ref (E.2.1 99)), (1, .int p1), (3, .int v3)]) hx hb dX9_count_176 hl (k := 2) rfl rfl (by decide) rfl (fun ls hl => ?_)
            refine lv_goto (tgt := 36) hx hb dX9_count_179 (by decide) ?_
            exact ih36 _ _ _ _ _ h hW hS (lv_sub hl [1, 2, 0] rfl)
          · refine lv_bipush (v := (-9 : Int32)) hx hb dX9_count_48 (by decide) ?_
            refine lv_istore (lv' := [(4, .int (-9 : Int32)), (0, .ref (E.2.1 99)), (1, .int p1), (2, .int v2), (3, .int v3)]) hx hb dX9_count_50 hl (by decide) rfl (fun ls hl => ?_)
            refine lv_iconst (v := (0 : Int32)) hx hb dX9_count_52 (by decide) ?_
            refine lv_istore (lv' := [(5, .int (0 : Int32)), (4, .int (-9 : Int32)), (0, .ref (E.2.1 99)), (1, .int p1), (2, .int v2), (3, .int v3)]) hx hb dX9_count_53 hl (by decide) rfl (fun ls hl => ?_)
            exact J55 _ _ _ _ _ _ _ _ _ h hW hS (lv_sub hl [2, 3, 4, 5, 1, 0] rfl)
      unfold bX9_count_36 at h
      refine lv_iload_n hx hb dX9_count_36 rfl (lv_at hl 2 rfl) ?_
      refine rb_if_lt (tgt := 182) hx hb h dX9_count_37 (by decide) (fun h => ?_) (fun h => ?_)
      · refine lv_aload_n hx hb dX9_count_182 rfl (lv_at hl 0 rfl) ?_
        refine rw_get hx hb hts iX9 hown hW (fl 99 rfl) rfl rfl 10 (by decide) e35 rfl (v := .ref (E.2.1 108)) rfl dX9_count_183 ?_
        refine lv_iconst (v := (0 : Int32)) hx hb dX9_count_186 (by decide) ?_
        refine rw_iald hx hb hW (fun _ => (fl 108 rfl)) h dX9_count_187 (fun x6 h => ?_)
        exact rrI hQ hW hS h dX9_count_188
      · refine lv_iconst (v := (0 : Int32)) hx hb dX9_count_40 (by decide) ?_
        refine lv_istore_n (lv' := [(3, .int (0 : Int32)), (0, .ref (E.2.1 99)), (1, .int p1), (2, .int v2)]) hx hb dX9_count_41 rfl hl (by decide) rfl (fun ls hl => ?_)
        exact J42 _ _ _ _ _ _ _ h hW hS (lv_sub hl [1, 2, 3, 0] rfl)
  have J2 : ∀ (n : Nat) (v2 : Int32) (w : Wd) (H : Heap) (locs : List Loc) (ls : Array Slot), lp (fun _ _ => none) (bX9_count_2 p1) n v2 w = some q → World E full w s H → va_S (wA E full) s.heap H locs → lv_has ls 9 [(0, .ref (E.2.1 99)), (1, .int p1), (2, .int v2)] → W p l e rmX9_count s m args below meth c H locs 0 0 Q (F0 m 2 ls []) := by
    intro n
    induction n with
    | zero =>
      intro v2 w H locs ls h hW hS hl
      exact absurd (show (none : Option (Int32 × Wd)) = some q from h) (fun z => by cases z)
    | succ n ih2 =>
      intro v2 w H locs ls h hW hS hl
      have h : bX9_count_2 p1 (lp (fun _ _ => none) (bX9_count_2 p1) n) v2 w = some q := h
      generalize lp (fun _ _ => none) (bX9_count_2 p1) n = k2 at h ih2
      unfold bX9_count_2 at h
      refine lv_iload_n hx hb dX9_count_2 rfl (lv_at hl 2 rfl) ?_
      refine lv_bipush (v := (64 : Int32)) hx hb dX9_count_3 (by decide) ?_
      refine rb_icmp_ge (tgt := 29) hx hb h dX9_count_5 (by decide) (fun h => ?_) (fun h => ?_)
      · refine lv_aload_n hx hb dX9_count_29 rfl (lv_at hl 0 rfl) ?_
        refine rc_Vi (k := 99) (As := []) (rest := []) S hW hS h (kX9_cells l E  w) (cwV 0 hts gX9_count_X9_cells rfl rfl rfl hdX9_cells ⟨Nat.le_of_ble_eq_true rfl, Nat.le_of_ble_eq_true rfl⟩) (fl 99 rfl) rfl rfl rfl rfl hl.1 rfl (Nat.le_of_ble_eq_true rfl) ⟨Nat.zero_le _, Nat.zero_le _⟩ dX9_count_30 (fun x1 w2 H locs h hW hS => ?_)
        refine lv_iconst (v := (1 : Int32)) hx hb dX9_count_33 (by decide) ?_
        refine lv_isub hx hb dX9_count_34 ?_
        refine lv_istore_n (lv' := [(2, .int (x1 - (1 : Int32))), (0, .ref (E.2.1 99)), (1, .int p1)]) hx hb dX9_count_35 rfl hl (by decide) rfl (fun ls hl => ?_)
        exact J36 _ _ _ _ _ _ h hW hS (lv_sub hl [1, 2, 0] rfl)
      · refine lv_aload_n hx hb dX9_count_8 rfl (lv_at hl 0 rfl) ?_
        refine rw_get hx hb hts iX9 hown hW (fl 99 rfl) rfl rfl 10 (by decide) e35 rfl (v := .ref (E.2.1 108)) rfl dX9_count_9 ?_
        refine lv_bipush (v := (64 : Int32)) hx hb dX9_count_12 (by decide) ?_
        refine lv_aload_n hx hb dX9_count_14 rfl (lv_at hl 0 rfl) ?_
        refine rc_Vi (k := 99) (As := []) (rest := [.int (64 : Int32), .ref (E.2.1 108)]) S hW hS h (kX9_cells l E  w) (cwV 0 hts gX9_count_X9_cells rfl rfl rfl hdX9_cells ⟨Nat.le_of_ble_eq_true rfl, Nat.le_of_ble_eq_true rfl⟩) (fl 99 rfl) rfl rfl rfl rfl hl.1 rfl (Nat.le_of_ble_eq_true rfl) ⟨Nat.zero_le _, Nat.zero_le _⟩ dX9_count_15 (fun x3 w4 H locs h hW hS => ?_)
        refine lv_imul hx hb dX9_count_18 ?_
        refine lv_iload_n hx hb dX9_count_19 rfl (lv_at hl 2 rfl) ?_
        refine lv_iadd hx hb dX9_count_20 ?_
        refine lv_iconst (v := (0 : Int32)) hx hb dX9_count_21 (by decide) ?_
        refine rw_iast hx hb hW hS (fun _ => (fl 108 rfl)) h dX9_count_22 (fun w5 H locs h hW hS => ?_)
        refine lv_iinc (v := (v2 + (1 : Int32))) (lv' := [(2, .int (v2 + (1 : Int32))), (0, .ref (E.2.1 99)), (1, .int p1)]) hx hb dX9_count_23 hl (k := 2) rfl rfl (by decide) rfl (fun ls hl => ?_)
        refine lv_goto (tgt := 2) hx hb dX9_count_26 (by decide) ?_
        exact ih2 _ _ _ _ _ h hW hS (lv_sub hl [1, 2, 0] rfl)
  unfold fX9_count at h
  refine lv_iconst (v := (0 : Int32)) hx hb dX9_count_0 (by decide) ?_
  refine lv_istore_n (lv' := [(2, .int (0 : Int32)), (0, .ref (E.2.1 99)), (1, .int p1)]) hx hb dX9_count_1 rfl hl (by decide) rfl (fun ls hl => ?_)
  exact J2 _ _ _ _ _ _ h hW hS (lv_sub hl [1, 2, 0] rfl)
noncomputable def jX9_lay_124 (p1 : Int32) (p2 : Int64) (k42 : Int64 → Int32 → Int32 → Wd → Option (Int32 × Wd)) (k66 : Int64 → Int32 → Int32 → Int32 → Int32 → Wd → Option (Int32 × Wd)) (v6 : Int32) (v7 : Int32) (v8 : Int32) (s0 : Int64) (s1 : Int64)  (w : Wd) : Option (Int32 × Wd) :=
  bnd (fX9_then v7 v6 (v8 + (1 : Int32)) w) fun x14 w15 => k66 (s1 - s0) v6 v7 (v8 + (1 : Int32)) x14 w15
noncomputable def jX9_lay_95 (p1 : Int32) (p2 : Int64) (k42 : Int64 → Int32 → Int32 → Wd → Option (Int32 × Wd)) (k66 : Int64 → Int32 → Int32 → Int32 → Int32 → Wd → Option (Int32 × Wd)) (v4 : Int64) (v6 : Int32) (v7 : Int32) (v8 : Int32) (v9 : Int32)  (w : Wd) : Option (Int32 × Wd) :=
  if v9 = (-9 : Int32) then jX9_lay_124 p1 p2 k42 k66 v6 v7 v8 (0 : Int64) v4 w else (gL w 107 ((((64 : Int32) * v7) + (64 : Int32)) + v9)).bind fun x13 => jX9_lay_124 p1 p2 k42 k66 v6 v7 v8 x13 v4 w
noncomputable def bX9_lay_66 (p1 : Int32) (p2 : Int64) (k42 : Int64 → Int32 → Int32 → Wd → Option (Int32 × Wd)) (k66 : Int64 → Int32 → Int32 → Int32 → Int32 → Wd → Option (Int32 × Wd)) (v4 : Int64) (v6 : Int32) (v7 : Int32) (v8 : Int32) (v9 : Int32)  (w : Wd) : Option (Int32 × Wd) :=
  if v9 = (-9 : Int32) then jX9_lay_95 p1 p2 k42 k66 v4 v6 v7 v8 v9 w else (gL w 107 ((((64 : Int32) * v7) + (64 : Int32)) + v9)).bind fun x11 => if v4 < x11 then (sI w 100 (((25 : Int32) * p1) + v7) v8).bind fun w12 => k42 v4 v9 (v7 + (1 : Int32)) w12 else jX9_lay_95 p1 p2 k42 k66 v4 v6 v7 v8 v9 w
noncomputable def bX9_lay_42 (p1 : Int32) (p2 : Int64) (k42 : Int64 → Int32 → Int32 → Wd → Option (Int32 × Wd)) (v4 : Int64) (v6 : Int32) (v7 : Int32)  (w : Wd) : Option (Int32 × Wd) :=
  bnd (fX9_cells w) fun x5 w6 => if x5 ≤ v7 then bnd (fX9_cubesOf p1 w6) fun x7 w8 => some (x7, w8) else bnd (fX9_then v7 v6 (0 : Int32) w6) fun x9 w10 => lp (fun _ _ _ _ _ _ => none) (bX9_lay_66 p1 p2 k42) G v4 v6 v7 (0 : Int32) x9 w10
noncomputable def fX9_lay (p1 : Int32) (p2 : Int64) (w : Wd) : Option (Int32 × Wd) :=
  bnd (fX9_isSlot p1 w) fun x1 w2 => if x1 = 0 then some ((-1 : Int32), w2) else bnd (fX9_layWays w2) fun _ w3 => if p2 < (0 : Int64) then some ((-2 : Int32), w3) else (gL w3 107 (0 : Int32)).bind fun x4 => if p2 < x4 then lp (fun _ _ _ _ => none) (bX9_lay_42 p1 p2) G p2 (0 : Int32) (0 : Int32) w3 else some ((-2 : Int32), w3)
abbrev rmX9_lay : Room := { frames := 2, cells := 0, slots := 0, locals := 55 }
set_option maxHeartbeats 4000000 in
set_option maxRecDepth 100000 in
theorem kX9_lay (l : Launch) (E : Ev) (p1 : Int32) (p2 : Int64) (w : Wd) (q : Int32 × Wd) (h : fX9_lay p1 p2 w = some q) : CtI l yX9_lay wsX9_lay rmX9_lay E full [.ref (E.2.1 99), .int p1, .long p2] w q := by
  refine mkI (cc := cX9_lay) (maxL := 10) (by decide) rfl (Nat.le_of_ble_eq_true rfl) ?_
  intro p e s m args below meth c Q S hW hQ ls hl
  obtain ⟨hx, hb, hml, hown, hts⟩ := id S
  have hW0 := hW
  have hS : va_S (wA E full) s.heap s.heap [] := va_S.rf
  have hl : lv_has ls 10 [(0, .ref (E.2.1 99)), (1, .int p1), (2, .long p2)] := hl
  have iX9 : ∀ w ∈ wsX90, w ∈ wsX9_lay := by decide +kernel
  have e7 := hts (.fieldLink RX9 7 "CubeHeapsModel" "heap" "[I") (by decide +kernel)
  have e31 := hts (.fieldLink RX9 31 "CubeHeapsModel" "ways" "[J") (by decide +kernel)
  have J42 : ∀ (n : Nat) (v4 : Int64) (v6 : Int32) (v7 : Int32) (w : Wd) (H : Heap) (locs : List Loc) (ls : Array Slot), lp (fun _ _ _ _ => none) (bX9_lay_42 p1 p2) n v4 v6 v7 w = some q → World E full w s H → va_S (wA E full) s.heap H locs → lv_has ls 10 [(0, .ref (E.2.1 99)), (1, .int p1), (4, .long v4), (6, .int v6), (7, .int v7)] → W p l e rmX9_lay s m args below meth c H locs 0 0 Q (F0 m 42 ls []) := by
    intro n
    induction n with
    | zero =>
      intro v4 v6 v7 w H locs ls h hW hS hl
      exact absurd (show (none : Option (Int32 × Wd)) = some q from h) (fun z => by cases z)
    | succ n ih42 =>
      intro v4 v6 v7 w H locs ls h hW hS hl
      have h : bX9_lay_42 p1 p2 (lp (fun _ _ _ _ => none) (bX9_lay_42 p1 p2) n) v4 v6 v7 w = some q := h
      generalize lp (fun _ _ _ _ => none) (bX9_lay_42 p1 p2) n = k42 at h ih42
      have J66 : ∀ (n : Nat) (v4 : Int64) (v6 : Int32) (v7 : Int32) (v8 : Int32) (v9 : Int32) (w : Wd) (H : Heap) (locs : List Loc) (ls : Array Slot), lp (fun _ _ _ _ _ _ => none) (bX9_lay_66 p1 p2 k42) n v4 v6 v7 v8 v9 w = some q → World E full w s H → va_S (wA E full) s.heap H locs → lv_has ls 10 [(0, .ref (E.2.1 99)), (1, .int p1), (4, .long v4), (6, .int v6), (7, .int v7), (8, .int v8), (9, .int v9)] → W p l e rmX9_lay s m args below meth c H locs 0 0 Q (F0 m 66 ls []) := by
        intro n
        induction n with
        | zero =>
          intro v4 v6 v7 v8 v9 w H locs ls h hW hS hl
          exact absurd (show (none : Option (Int32 × Wd)) = some q from h) (fun z => by cases z)
        | succ n ih66 =>
          intro v4 v6 v7 v8 v9 w H locs ls h hW hS hl
          have h : bX9_lay_66 p1 p2 k42 (lp (fun _ _ _ _ _ _ => none) (bX9_lay_66 p1 p2 k42) n) v4 v6 v7 v8 v9 w = some q := h
          generalize lp (fun _ _ _ _ _ _ => none) (bX9_lay_66 p1 p2 k42) n = k66 at h ih66
          have J124 : ∀ (v6 : Int32) (v7 : Int32) (v8 : Int32) (s0 : Int64) (s1 : Int64) (w : Wd) (H : Heap) (locs : List Loc) (ls : Array Slot), jX9_lay_124 p1 p2 k42 k66 v6 v7 v8 s0 s1 w = some q → World E full w s H → va_S (wA E full) s.heap H locs → lv_has ls 10 [(0, .ref (E.2.1 99)), (1, .int p1), (6, .int v6), (7, .int v7), (8, .int v8)] → W p l e rmX9_lay s m args below meth c H locs 0 0 Q (F0 m 124 ls [.long s0, .long s1]) := by
            intro v6 v7 v8 s0 s1 w H locs ls h hW hS hl
            unfold jX9_lay_124 at h
            refine lv_lsub hx hb dX9_lay_124 ?_
            refine lv_lstore (lv' := [(4, .long (s1 - s0)), (0, .ref (E.2.1 99)), (1, .int p1), (6, .int v6), (7, .int v7), (8, .int v8)]) hx hb dX9_lay_125 hl (by decide) rfl (fun ls hl => ?_)
            refine lv_iinc (v := (v8 + (1 : Int32))) (lv' := [(8, .int (v8 + (1 : Int32))), (4, .long (s1 - s0)), (0, .ref (E.2.1 99)), (1, .int p1), (6, .int v6), (7, .int v7)]) hx hb dX9_lay_127 hl (k := 5) rfl rfl (by decide) rfl (fun ls hl => ?_)
            refine lv_aload_n hx hb dX9_lay_130 rfl (lv_at hl 2 rfl) ?_
            refine lv_iload hx hb dX9_lay_131 (lv_at hl 5 rfl) ?_
            refine lv_iload hx hb dX9_lay_133 (lv_at hl 4 rfl) ?_
            refine lv_iload hx hb dX9_lay_135 (lv_at hl 0 rfl) ?_
            refine rc_Vi (k := 99) (As := [.int v7, .int v6, .int (v8 + (1 : Int32))]) (rest := []) S hW hS h (kX9_then l E v7 v6 (v8 + (1 : Int32)) w) (cwV 3 hts gX9_lay_X9_then rfl rfl rfl hdX9_then ⟨Nat.le_of_ble_eq_true rfl, Nat.le_of_ble_eq_true rfl⟩) (fl 99 rfl) rfl rfl rfl rfl hl.1 rfl (Nat.le_of_ble_eq_true rfl) ⟨Nat.zero_le _, Nat.zero_le _⟩ dX9_lay_137 (fun x14 w15 H locs h hW hS => ?_)
            refine lv_istore (lv' := [(9, .int x14), (8, .int (v8 + (1 : Int32))), (4, .long (s1 - s0)), (0, .ref (E.2.1 99)), (1, .int p1), (6, .int v6), (7, .int v7)]) hx hb dX9_lay_140 hl (by decide) rfl (fun ls hl => ?_)
            refine lv_goto (tgt := 66) hx hb dX9_lay_142 (by decide) ?_
            exact ih66 _ _ _ _ _ _ _ _ _ h hW hS (lv_sub hl [3, 4, 2, 5, 6, 1, 0] rfl)
          have J95 : ∀ (v4 : Int64) (v6 : Int32) (v7 : Int32) (v8 : Int32) (v9 : Int32) (w : Wd) (H : Heap) (locs : List Loc) (ls : Array Slot), jX9_lay_95 p1 p2 k42 k66 v4 v6 v7 v8 v9 w = some q → World E full w s H → va_S (wA E full) s.heap H locs → lv_has ls 10 [(0, .ref (E.2.1 99)), (1, .int p1), (4, .long v4), (6, .int v6), (7, .int v7), (8, .int v8), (9, .int v9)] → W p l e rmX9_lay s m args below meth c H locs 0 0 Q (F0 m 95 ls []) := by
            intro v4 v6 v7 v8 v9 w H locs ls h hW hS hl
            unfold jX9_lay_95 at h
            refine lv_lload hx hb dX9_lay_95 (lv_at hl 2 rfl) ?_
            refine lv_iload hx hb dX9_lay_97 (lv_at hl 6 rfl) ?_
            refine lv_bipush (v := (-9 : Int32)) hx hb dX9_lay_99 (by decide) ?_
            refine rb_icmp_ne (tgt := 108) hx hb h dX9_lay_101 (by decide) (fun h => ?_) (fun h => ?_)
            · refine lv_aload_n hx hb dX9_lay_108 rfl (lv_at hl 0 rfl) ?_
              refine rw_get hx hb hts iX9 hown hW (fl 99 rfl) rfl rfl 9 (by decide) e31 rfl (v := .ref (E.2.1 107)) rfl dX9_lay_109 ?_
              refine lv_bipush (v := (64 : Int32)) hx hb dX9_lay_112 (by decide) ?_
              refine lv_iload hx hb dX9_lay_114 (lv_at hl 4 rfl) ?_
              refine lv_imul hx hb dX9_lay_116 ?_
              refine lv_bipush (v := (64 : Int32)) hx hb dX9_lay_117 (by decide) ?_
              refine lv_iadd hx hb dX9_lay_119 ?_
              refine lv_iload hx hb dX9_lay_120 (lv_at hl 6 rfl) ?_
              refine lv_iadd hx hb dX9_lay_122 ?_
              refine rw_lald hx hb hW (fun _ => (fl 107 rfl)) h dX9_lay_123 (fun x13 h => ?_)
              exact J124 _ _ _ _ _ _ _ _ _ h hW hS (lv_sub hl [0, 1, 3, 4, 5] rfl)
            · refine lv_lconst (v := (0 : Int64)) hx hb dX9_lay_104 (by decide) ?_
              refine lv_goto (tgt := 124) hx hb dX9_lay_105 (by decide) ?_
              exact J124 _ _ _ _ _ _ _ _ _ h hW hS (lv_sub hl [0, 1, 3, 4, 5] rfl)
          unfold bX9_lay_66 at h
          refine lv_iload hx hb dX9_lay_66 (lv_at hl 6 rfl) ?_
          refine lv_bipush (v := (-9 : Int32)) hx hb dX9_lay_68 (by decide) ?_
          refine rb_icmp_eq (tgt := 95) hx hb h dX9_lay_70 (by decide) (fun h => ?_) (fun h => ?_)
          · exact J95 _ _ _ _ _ _ _ _ _ h hW hS (hl)
          · refine lv_lload hx hb dX9_lay_73 (lv_at hl 2 rfl) ?_
            refine lv_aload_n hx hb dX9_lay_75 rfl (lv_at hl 0 rfl) ?_
            refine rw_get hx hb hts iX9 hown hW (fl 99 rfl) rfl rfl 9 (by decide) e31 rfl (v := .ref (E.2.1 107)) rfl dX9_lay_76 ?_
            refine lv_bipush (v := (64 : Int32)) hx hb dX9_lay_79 (by decide) ?_
            refine lv_iload hx hb dX9_lay_81 (lv_at hl 4 rfl) ?_
            refine lv_imul hx hb dX9_lay_83 ?_
            refine lv_bipush (v := (64 : Int32)) hx hb dX9_lay_84 (by decide) ?_
            refine lv_iadd hx hb dX9_lay_86 ?_
            refine lv_iload hx hb dX9_lay_87 (lv_at hl 6 rfl) ?_
            refine lv_iadd hx hb dX9_lay_89 ?_
            refine rw_lald hx hb hW (fun _ => (fl 107 rfl)) h dX9_lay_90 (fun x11 h => ?_)
            refine rb_lcmp_lt (tgt := 145) hx hb h dX9_lay_91 dX9_lay_92 (by decide) (fun h => ?_) (fun h => ?_)
            · refine lv_aload_n hx hb dX9_lay_145 rfl (lv_at hl 0 rfl) ?_
              refine rw_get hx hb hts iX9 hown hW (fl 99 rfl) rfl rfl 2 (by decide) e7 rfl (v := .ref (E.2.1 100)) rfl dX9_lay_146 ?_
              refine lv_bipush (v := (25 : Int32)) hx hb dX9_lay_149 (by decide) ?_
              refine lv_iload_n hx hb dX9_lay_151 rfl (lv_at hl 1 rfl) ?_
              refine lv_imul hx hb dX9_lay_152 ?_
              refine lv_iload hx hb dX9_lay_153 (lv_at hl 4 rfl) ?_
              refine lv_iadd hx hb dX9_lay_155 ?_
              refine lv_iload hx hb dX9_lay_156 (lv_at hl 5 rfl) ?_
              refine rw_iast hx hb hW hS (fun _ => (fl 100 rfl)) h dX9_lay_158 (fun w12 H locs h hW hS => ?_)
              refine lv_iload hx hb dX9_lay_159 (lv_at hl 6 rfl) ?_
              refine lv_istore (lv' := [(6, .int v9), (0, .ref (E.2.1 99)), (1, .int p1), (4, .long v4), (7, .int v7), (8, .int v8), (9, .int v9)]) hx hb dX9_lay_161 hl (by decide) rfl (fun ls hl => ?_)
              refine lv_iinc (v := (v7 + (1 : Int32))) (lv' := [(7, .int (v7 + (1 : Int32))), (6, .int v9), (0, .ref (E.2.1 99)), (1, .int p1), (4, .long v4), (8, .int v8), (9, .int v9)]) hx hb dX9_lay_163 hl (k := 4) rfl rfl (by decide) rfl (fun ls hl => ?_)
              refine lv_goto (tgt := 42) hx hb dX9_lay_166 (by decide) ?_
              exact ih42 _ _ _ _ _ _ _ h hW hS (lv_sub hl [2, 3, 4, 1, 0] rfl)
            · exact J95 _ _ _ _ _ _ _ _ _ h hW hS (hl)
      unfold bX9_lay_42 at h
      refine lv_iload hx hb dX9_lay_42 (lv_at hl 4 rfl) ?_
      refine lv_aload_n hx hb dX9_lay_44 rfl (lv_at hl 0 rfl) ?_
      refine rc_Vi (k := 99) (As := []) (rest := [.int v7]) S hW hS h (kX9_cells l E  w) (cwV 0 hts gX9_lay_X9_cells rfl rfl rfl hdX9_cells ⟨Nat.le_of_ble_eq_true rfl, Nat.le_of_ble_eq_true rfl⟩) (fl 99 rfl) rfl rfl rfl rfl hl.1 rfl (Nat.le_of_ble_eq_true rfl) ⟨Nat.zero_le _, Nat.zero_le _⟩ dX9_lay_45 (fun x5 w6 H locs h hW hS => ?_)
      refine rb_icmp_ge (tgt := 169) hx hb h dX9_lay_48 (by decide) (fun h => ?_) (fun h => ?_)
      · refine lv_aload_n hx hb dX9_lay_169 rfl (lv_at hl 0 rfl) ?_
        refine lv_iload_n hx hb dX9_lay_170 rfl (lv_at hl 1 rfl) ?_
        refine rc_Vi (k := 99) (As := [.int p1]) (rest := []) S hW hS h (kX9_cubesOf l E p1 w6) (cwV 1 hts gX9_lay_X9_cubesOf rfl rfl rfl hdX9_cubesOf ⟨Nat.le_of_ble_eq_true rfl, Nat.le_of_ble_eq_true rfl⟩) (fl 99 rfl) rfl rfl rfl rfl hl.1 rfl (Nat.le_of_ble_eq_true rfl) ⟨Nat.zero_le _, Nat.zero_le _⟩ dX9_lay_171 (fun x7 w8 H locs h hW hS => ?_)
        exact rrI hQ hW hS h dX9_lay_174
      · refine lv_iconst (v := (0 : Int32)) hx hb dX9_lay_51 (by decide) ?_
        refine lv_istore (lv' := [(8, .int (0 : Int32)), (0, .ref (E.2.1 99)), (1, .int p1), (4, .long v4), (6, .int v6), (7, .int v7)]) hx hb dX9_lay_52 hl (by decide) rfl (fun ls hl => ?_)
        refine lv_aload_n hx hb dX9_lay_54 rfl (lv_at hl 1 rfl) ?_
        refine lv_iload hx hb dX9_lay_55 (lv_at hl 5 rfl) ?_
        refine lv_iload hx hb dX9_lay_57 (lv_at hl 4 rfl) ?_
        refine lv_iload hx hb dX9_lay_59 (lv_at hl 0 rfl) ?_
        refine rc_Vi (k := 99) (As := [.int v7, .int v6, .int (0 : Int32)]) (rest := []) S hW hS h (kX9_then l E v7 v6 (0 : Int32) w6) (cwV 3 hts gX9_lay_X9_then rfl rfl rfl hdX9_then ⟨Nat.le_of_ble_eq_true rfl, Nat.le_of_ble_eq_true rfl⟩) (fl 99 rfl) rfl rfl rfl rfl hl.1 rfl (Nat.le_of_ble_eq_true rfl) ⟨Nat.zero_le _, Nat.zero_le _⟩ dX9_lay_61 (fun x9 w10 H locs h hW hS => ?_)
        refine lv_istore (lv' := [(9, .int x9), (8, .int (0 : Int32)), (0, .ref (E.2.1 99)), (1, .int p1), (4, .long v4), (6, .int v6), (7, .int v7)]) hx hb dX9_lay_64 hl (by decide) rfl (fun ls hl => ?_)
        exact J66 _ _ _ _ _ _ _ _ _ _ h hW hS (lv_sub hl [2, 3, 4, 5, 6, 1, 0] rfl)
  unfold fX9_lay at h
  refine lv_iload_n hx hb dX9_lay_0 rfl (lv_at hl 1 rfl) ?_
  refine rc_Si (As := [.int p1]) (rest := []) S hW hS h (kX9_isSlot l E p1 w) (va_cwS 1 hts gX9_lay_X9_isSlot rfl rfl rfl hdX9_isSlot ⟨Nat.le_of_ble_eq_true rfl, Nat.le_of_ble_eq_true rfl⟩) rfl hl.1 rfl (Nat.le_of_ble_eq_true rfl) ⟨Nat.zero_le _, Nat.zero_le _⟩ dX9_lay_1 (fun x1 w2 H locs h hW hS => ?_)
  refine rb_if_ne (tgt := 9) hx hb h dX9_lay_4 (by decide) (fun h => ?_) (fun h => ?_)
  · refine lv_aload_n hx hb dX9_lay_9 rfl (lv_at hl 0 rfl) ?_
    refine rc_Vv (k := 99) (As := []) (rest := []) S hW hS h (kX9_layWays l E  w2) (cwV 0 hts gX9_lay_X9_layWays rfl rfl rfl hdX9_layWays ⟨Nat.le_of_ble_eq_true rfl, Nat.le_of_ble_eq_true rfl⟩) (fl 99 rfl) rfl rfl rfl rfl hl.1 rfl (Nat.le_of_ble_eq_true rfl) ⟨Nat.zero_le _, Nat.zero_le _⟩ dX9_lay_10 (fun _ w3 H locs h hW hS => ?_)
    refine lv_lload_n hx hb dX9_lay_13 rfl (lv_at hl 2 rfl) ?_
    refine lv_lconst (v := (0 : Int64)) hx hb dX9_lay_14 (by decide) ?_
    refine rb_lcmp_lt (tgt := 30) hx hb h dX9_lay_15 dX9_lay_16 (by decide) (fun h => ?_) (fun h => ?_)
    · refine lv_bipush (v := (-2 : Int32)) hx hb dX9_lay_30 (by decide) ?_
      exact rrI hQ hW hS h dX9_lay_32
    · refine lv_lload_n hx hb dX9_lay_19 rfl (lv_at hl 2 rfl) ?_
      refine lv_aload_n hx hb dX9_lay_20 rfl (lv_at hl 0 rfl) ?_
      refine rw_get hx hb hts iX9 hown hW (fl 99 rfl) rfl rfl 9 (by decide) e31 rfl (v := .ref (E.2.1 107)) rfl dX9_lay_21 ?_
      refine lv_iconst (v := (0 : Int32)) hx hb dX9_lay_24 (by decide) ?_
      refine rw_lald hx hb hW (fun _ => (fl 107 rfl)) h dX9_lay_25 (fun x4 h => ?_)
      refine rb_lcmp_lt (tgt := 33) hx hb h dX9_lay_26 dX9_lay_27 (by decide) (fun h => ?_) (fun h => ?_)
      · refine lv_lload_n hx hb dX9_lay_33 rfl (lv_at hl 2 rfl) ?_
        refine lv_lstore (lv' := [(4, .long p2), (0, .ref (E.2.1 99)), (1, .int p1), (2, .long p2)]) hx hb dX9_lay_34 hl (by decide) rfl (fun ls hl => ?_)
        refine lv_iconst (v := (0 : Int32)) hx hb dX9_lay_36 (by decide) ?_
        refine lv_istore (lv' := [(6, .int (0 : Int32)), (4, .long p2), (0, .ref (E.2.1 99)), (1, .int p1), (2, .long p2)]) hx hb dX9_lay_37 hl (by decide) rfl (fun ls hl => ?_)
        refine lv_iconst (v := (0 : Int32)) hx hb dX9_lay_39 (by decide) ?_
        refine lv_istore (lv' := [(7, .int (0 : Int32)), (6, .int (0 : Int32)), (4, .long p2), (0, .ref (E.2.1 99)), (1, .int p1), (2, .long p2)]) hx hb dX9_lay_40 hl (by decide) rfl (fun ls hl => ?_)
        exact J42 _ _ _ _ _ _ _ _ h hW hS (lv_sub hl [3, 4, 2, 1, 0] rfl)
      · refine lv_bipush (v := (-2 : Int32)) hx hb dX9_lay_30 (by decide) ?_
        exact rrI hQ hW hS h dX9_lay_32
  · refine lv_iconst (v := (-1 : Int32)) hx hb dX9_lay_7 (by decide) ?_
    exact rrI hQ hW hS h dX9_lay_8
noncomputable def jX9_place_104 (p1 : Int32) (k35 : Int64 → Int32 → Int32 → Wd → Option (Int64 × Wd)) (k47 : Int64 → Int32 → Int32 → Int32 → Wd → Option (Int64 × Wd)) (v4 : Int32) (v5 : Int32) (v6 : Int32) (s0 : Int64) (s1 : Int64)  (w : Wd) : Option (Int64 × Wd) :=
  k47 (s1 + s0) v4 v5 (v6 + (1 : Int32)) w
noncomputable def bX9_place_47 (p1 : Int32) (k35 : Int64 → Int32 → Int32 → Wd → Option (Int64 × Wd)) (k47 : Int64 → Int32 → Int32 → Int32 → Wd → Option (Int64 × Wd)) (v2 : Int64) (v4 : Int32) (v5 : Int32) (v6 : Int32)  (w : Wd) : Option (Int64 × Wd) :=
  (gI w 100 (((25 : Int32) * p1) + v5)).bind fun x8 => if x8 ≤ v6 then (gI w 100 (((25 : Int32) * p1) + v5)).bind fun x9 => bnd (fX9_then v5 v4 x9 w) fun x10 w11 => k35 v2 x10 (v5 + (1 : Int32)) w11 else bnd (fX9_then v5 v4 v6 w) fun x12 w13 => if x12 = (-9 : Int32) then jX9_place_104 p1 k35 k47 v4 v5 v6 (0 : Int64) v2 w13 else (gL w13 107 ((((64 : Int32) * v5) + (64 : Int32)) + x12)).bind fun x14 => jX9_place_104 p1 k35 k47 v4 v5 v6 x14 v2 w13
noncomputable def bX9_place_35 (p1 : Int32) (k35 : Int64 → Int32 → Int32 → Wd → Option (Int64 × Wd)) (v2 : Int64) (v4 : Int32) (v5 : Int32)  (w : Wd) : Option (Int64 × Wd) :=
  bnd (fX9_cells w) fun x6 w7 => if x6 ≤ v5 then some (v2, w7) else lp (fun _ _ _ _ _ => none) (bX9_place_47 p1 k35) G v2 v4 v5 (0 : Int32) w7
noncomputable def fX9_place (p1 : Int32) (w : Wd) : Option (Int64 × Wd) :=
  bnd (fX9_isSlot p1 w) fun x1 w2 => if x1 = 0 then some ((-1 : Int64), w2) else bnd (fX9_isFit p1 w2) fun x3 w4 => if x3 = 0 then some ((-3 : Int64), w4) else bnd (fX9_layWays w4) fun _ w5 => lp (fun _ _ _ _ => none) (bX9_place_35 p1) G (0 : Int64) (0 : Int32) (0 : Int32) w5
abbrev rmX9_place : Room := { frames := 3, cells := 0, slots := 0, locals := 72 }
set_option maxHeartbeats 4000000 in
set_option maxRecDepth 100000 in
theorem kX9_place (l : Launch) (E : Ev) (p1 : Int32) (w : Wd) (q : Int64 × Wd) (h : fX9_place p1 w = some q) : CtL l yX9_place wsX9_place rmX9_place E full [.ref (E.2.1 99), .int p1] w q := by
  refine mkL (cc := cX9_place) (maxL := 8) (by decide) rfl (Nat.le_of_ble_eq_true rfl) ?_
  intro p e s m args below meth c Q S hW hQ ls hl
  obtain ⟨hx, hb, hml, hown, hts⟩ := id S
  have hW0 := hW
  have hS : va_S (wA E full) s.heap s.heap [] := va_S.rf
  have hl : lv_has ls 8 [(0, .ref (E.2.1 99)), (1, .int p1)] := hl
  have iX9 : ∀ w ∈ wsX90, w ∈ wsX9_place := by decide +kernel
  have e7 := hts (.fieldLink RX9 7 "CubeHeapsModel" "heap" "[I") (by decide +kernel)
  have e31 := hts (.fieldLink RX9 31 "CubeHeapsModel" "ways" "[J") (by decide +kernel)
  have J35 : ∀ (n : Nat) (v2 : Int64) (v4 : Int32) (v5 : Int32) (w : Wd) (H : Heap) (locs : List Loc) (ls : Array Slot), lp (fun _ _ _ _ => none) (bX9_place_35 p1) n v2 v4 v5 w = some q → World E full w s H → va_S (wA E full) s.heap H locs → lv_has ls 8 [(0, .ref (E.2.1 99)), (1, .int p1), (2, .long v2), (4, .int v4), (5, .int v5)] → W p l e rmX9_place s m args below meth c H locs 0 0 Q (F0 m 35 ls []) := by
    intro n
    induction n with
    | zero =>
      intro v2 v4 v5 w H locs ls h hW hS hl
      exact absurd (show (none : Option (Int64 × Wd)) = some q from h) (fun z => by cases z)
    | succ n ih35 =>
      intro v2 v4 v5 w H locs ls h hW hS hl
      have h : bX9_place_35 p1 (lp (fun _ _ _ _ => none) (bX9_place_35 p1) n) v2 v4 v5 w = some q := h
      generalize lp (fun _ _ _ _ => none) (bX9_place_35 p1) n = k35 at h ih35
      have J47 : ∀ (n : Nat) (v2 : Int64) (v4 : Int32) (v5 : Int32) (v6 : Int32) (w : Wd) (H : Heap) (locs : List Loc) (ls : Array Slot), lp (fun _ _ _ _ _ => none) (bX9_place_47 p1 k35) n v2 v4 v5 v6 w = some q → World E full w s H → va_S (wA E full) s.heap H locs → lv_has ls 8 [(0, .ref (E.2.1 99)), (1, .int p1), (2, .long v2), (4, .int v4), (5, .int v5), (6, .int v6)] → W p l e rmX9_place s m args below meth c H locs 0 0 Q (F0 m 47 ls []) := by
        intro n
        induction n with
        | zero =>
          intro v2 v4 v5 v6 w H locs ls h hW hS hl
          exact absurd (show (none : Option (Int64 × Wd)) = some q from h) (fun z => by cases z)
        | succ n ih47 =>
          intro v2 v4 v5 v6 w H locs ls h hW hS hl
          have h : bX9_place_47 p1 k35 (lp (fun _ _ _ _ _ => none) (bX9_place_47 p1 k35) n) v2 v4 v5 v6 w = some q := h
          generalize lp (fun _ _ _ _ _ => none) (bX9_place_47 p1 k35) n = k47 at h ih47
          have J104 : ∀ (v4 : Int32) (v5 : Int32) (v6 : Int32) (s0 : Int64) (s1 : Int64) (w : Wd) (H : Heap) (locs : List Loc) (ls : Array Slot), jX9_place_104 p1 k35 k47 v4 v5 v6 s0 s1 w = some q → World E full w s H → va_S (wA E full) s.heap H locs → lv_has ls 8 [(0, .ref (E.2.1 99)), (1, .int p1), (4, .int v4), (5, .int v5), (6, .int v6)] → W p l e rmX9_place s m args below meth c H locs 0 0 Q (F0 m 104 ls [.long s0, .long s1]) := by
            intro v4 v5 v6 s0 s1 w H locs ls h hW hS hl
            unfold jX9_place_104 at h
            refine lv_ladd hx hb dX9_place_104 ?_
            refine lv_lstore_n (lv' := [(2, .long (s1 + s0)), (0, .ref (E.2.1 99)), (1, .int p1), (4, .int v4), (5, .int v5), (6, .int v6)]) hx hb dX9_place_105 rfl hl (by decide) rfl (fun ls hl => ?_)
            refine lv_iinc (v := (v6 + (1 : Int32))) (lv' := [(6, .int (v6 + (1 : Int32))), (2, .long (s1 + s0)), (0, .ref (E.2.1 99)), (1, .int p1), (4, .int v4), (5, .int v5)]) hx hb dX9_place_106 hl (k := 5) rfl rfl (by decide) rfl (fun ls hl => ?_)
            refine lv_goto (tgt := 47) hx hb dX9_place_109 (by decide) ?_
            exact ih47 _ _ _ _ _ _ _ _ h hW hS (lv_sub hl [2, 3, 1, 4, 5, 0] rfl)
          unfold bX9_place_47 at h
          refine lv_iload hx hb dX9_place_47 (lv_at hl 5 rfl) ?_
          refine lv_aload_n hx hb dX9_place_49 rfl (lv_at hl 0 rfl) ?_
          refine rw_get hx hb hts iX9 hown hW (fl 99 rfl) rfl rfl 2 (by decide) e7 rfl (v := .ref (E.2.1 100)) rfl dX9_place_50 ?_
          refine lv_bipush (v := (25 : Int32)) hx hb dX9_place_53 (by decide) ?_
          refine lv_iload_n hx hb dX9_place_55 rfl (lv_at hl 1 rfl) ?_
          refine lv_imul hx hb dX9_place_56 ?_
          refine lv_iload hx hb dX9_place_57 (lv_at hl 4 rfl) ?_
          refine lv_iadd hx hb dX9_place_59 ?_
          refine rw_iald hx hb hW (fun _ => (fl 100 rfl)) h dX9_place_60 (fun x8 h => ?_)
          refine rb_icmp_ge (tgt := 112) hx hb h dX9_place_61 (by decide) (fun h => ?_) (fun h => ?_)
          · refine lv_aload_n hx hb dX9_place_112 rfl (lv_at hl 0 rfl) ?_
            refine lv_iload hx hb dX9_place_113 (lv_at hl 4 rfl) ?_
            refine lv_iload hx hb dX9_place_115 (lv_at hl 3 rfl) ?_
            refine lv_aload_n hx hb dX9_place_117 rfl (lv_at hl 0 rfl) ?_
            refine rw_get hx hb hts iX9 hown hW (fl 99 rfl) rfl rfl 2 (by decide) e7 rfl (v := .ref (E.2.1 100)) rfl dX9_place_118 ?_
            refine lv_bipush (v := (25 : Int32)) hx hb dX9_place_121 (by decide) ?_
            refine lv_iload_n hx hb dX9_place_123 rfl (lv_at hl 1 rfl) ?_
            refine lv_imul hx hb dX9_place_124 ?_
            refine lv_iload hx hb dX9_place_125 (lv_at hl 4 rfl) ?_
            refine lv_iadd hx hb dX9_place_127 ?_
            refine rw_iald hx hb hW (fun _ => (fl 100 rfl)) h dX9_place_128 (fun x9 h => ?_)
            refine rc_Vi (k := 99) (As := [.int v5, .int v4, .int x9]) (rest := []) S hW hS h (kX9_then l E v5 v4 x9 w) (cwV 3 hts gX9_place_X9_then rfl rfl rfl hdX9_then ⟨Nat.le_of_ble_eq_true rfl, Nat.le_of_ble_eq_true rfl⟩) (fl 99 rfl) rfl rfl rfl rfl hl.1 rfl (Nat.le_of_ble_eq_true rfl) ⟨Nat.zero_le _, Nat.zero_le _⟩ dX9_place_129 (fun x10 w11 H locs h hW hS => ?_)
            refine lv_istore (lv' := [(4, .int x10), (0, .ref (E.2.1 99)), (1, .int p1), (2, .long v2), (5, .int v5), (6, .int v6)]) hx hb dX9_place_132 hl (by decide) rfl (fun ls hl => ?_)
            refine lv_iinc (v := (v5 + (1 : Int32))) (lv' := [(5, .int (v5 + (1 : Int32))), (4, .int x10), (0, .ref (E.2.1 99)), (1, .int p1), (2, .long v2), (6, .int v6)]) hx hb dX9_place_134 hl (k := 4) rfl rfl (by decide) rfl (fun ls hl => ?_)
            refine lv_goto (tgt := 35) hx hb dX9_place_137 (by decide) ?_
            exact ih35 _ _ _ _ _ _ _ h hW hS (lv_sub hl [2, 3, 4, 1, 0] rfl)
          · refine lv_aload_n hx hb dX9_place_64 rfl (lv_at hl 0 rfl) ?_
            refine lv_iload hx hb dX9_place_65 (lv_at hl 4 rfl) ?_
            refine lv_iload hx hb dX9_place_67 (lv_at hl 3 rfl) ?_
            refine lv_iload hx hb dX9_place_69 (lv_at hl 5 rfl) ?_
            refine rc_Vi (k := 99) (As := [.int v5, .int v4, .int v6]) (rest := []) S hW hS h (kX9_then l E v5 v4 v6 w) (cwV 3 hts gX9_place_X9_then rfl rfl rfl hdX9_then ⟨Nat.le_of_ble_eq_true rfl, Nat.le_of_ble_eq_true rfl⟩) (fl 99 rfl) rfl rfl rfl rfl hl.1 rfl (Nat.le_of_ble_eq_true rfl) ⟨Nat.zero_le _, Nat.zero_le _⟩ dX9_place_71 (fun x12 w13 H locs h hW hS => ?_)
            refine lv_istore (lv' := [(7, .int x12), (0, .ref (E.2.1 99)), (1, .int p1), (2, .long v2), (4, .int v4), (5, .int v5), (6, .int v6)]) hx hb dX9_place_74 hl (by decide) rfl (fun ls hl => ?_)
            refine lv_lload_n hx hb dX9_place_76 rfl (lv_at hl 3 rfl) ?_
            refine lv_iload hx hb dX9_place_77 (lv_at hl 0 rfl) ?_
            refine lv_bipush (v := (-9 : Int32)) hx hb dX9_place_79 (by decide) ?_
            refine rb_icmp_ne (tgt := 88) hx hb h dX9_place_81 (by decide) (fun h => ?_) (fun h => ?_)
            · refine lv_aload_n hx hb dX9_place_88 rfl (lv_at hl 1 rfl) ?_
              refine rw_get hx hb hts iX9 hown hW (fl 99 rfl) rfl rfl 9 (by decide) e31 rfl (v := .ref (E.2.1 107)) rfl dX9_place_89 ?_
              refine lv_bipush (v := (64 : Int32)) hx hb dX9_place_92 (by decide) ?_
              refine lv_iload hx hb dX9_place_94 (lv_at hl 5 rfl) ?_
              refine lv_imul hx hb dX9_place_96 ?_
              refine lv_bipush (v := (64 : Int32)) hx hb dX9_place_97 (by decide) ?_
              refine lv_iadd hx hb dX9_place_99 ?_
              refine lv_iload hx hb dX9_place_100 (lv_at hl 0 rfl) ?_
              refine lv_iadd hx hb dX9_place_102 ?_
              refine rw_lald hx hb hW (fun _ => (fl 107 rfl)) h dX9_place_103 (fun x14 h => ?_)
              exact J104 _ _ _ _ _ _ _ _ _ h hW hS (lv_sub hl [1, 2, 4, 5, 6] rfl)
            · refine lv_lconst (v := (0 : Int64)) hx hb dX9_place_84 (by decide) ?_
              refine lv_goto (tgt := 104) hx hb dX9_place_85 (by decide) ?_
              exact J104 _ _ _ _ _ _ _ _ _ h hW hS (lv_sub hl [1, 2, 4, 5, 6] rfl)
      unfold bX9_place_35 at h
      refine lv_iload hx hb dX9_place_35 (lv_at hl 4 rfl) ?_
      refine lv_aload_n hx hb dX9_place_37 rfl (lv_at hl 0 rfl) ?_
      refine rc_Vi (k := 99) (As := []) (rest := [.int v5]) S hW hS h (kX9_cells l E  w) (cwV 0 hts gX9_place_X9_cells rfl rfl rfl hdX9_cells ⟨Nat.le_of_ble_eq_true rfl, Nat.le_of_ble_eq_true rfl⟩) (fl 99 rfl) rfl rfl rfl rfl hl.1 rfl (Nat.le_of_ble_eq_true rfl) ⟨Nat.zero_le _, Nat.zero_le _⟩ dX9_place_38 (fun x6 w7 H locs h hW hS => ?_)
      refine rb_icmp_ge (tgt := 140) hx hb h dX9_place_41 (by decide) (fun h => ?_) (fun h => ?_)
      · refine lv_lload_n hx hb dX9_place_140 rfl (lv_at hl 2 rfl) ?_
        exact rrL hQ hW hS h dX9_place_141
      · refine lv_iconst (v := (0 : Int32)) hx hb dX9_place_44 (by decide) ?_
        refine lv_istore (lv' := [(6, .int (0 : Int32)), (0, .ref (E.2.1 99)), (1, .int p1), (2, .long v2), (4, .int v4), (5, .int v5)]) hx hb dX9_place_45 hl (by decide) rfl (fun ls hl => ?_)
        exact J47 _ _ _ _ _ _ _ _ _ h hW hS (lv_sub hl [1, 2, 3, 4, 5, 0] rfl)
  unfold fX9_place at h
  refine lv_iload_n hx hb dX9_place_0 rfl (lv_at hl 1 rfl) ?_
  refine rc_Si (As := [.int p1]) (rest := []) S hW hS h (kX9_isSlot l E p1 w) (va_cwS 1 hts gX9_place_X9_isSlot rfl rfl rfl hdX9_isSlot ⟨Nat.le_of_ble_eq_true rfl, Nat.le_of_ble_eq_true rfl⟩) rfl hl.1 rfl (Nat.le_of_ble_eq_true rfl) ⟨Nat.zero_le _, Nat.zero_le _⟩ dX9_place_1 (fun x1 w2 H locs h hW hS => ?_)
  refine rb_if_ne (tgt := 11) hx hb h dX9_place_4 (by decide) (fun h => ?_) (fun h => ?_)
  · refine lv_aload_n hx hb dX9_place_11 rfl (lv_at hl 0 rfl) ?_
    refine lv_iload_n hx hb dX9_place_12 rfl (lv_at hl 1 rfl) ?_
    refine rc_Vi (k := 99) (As := [.int p1]) (rest := []) S hW hS h (kX9_isFit l E p1 w2) (cwV 1 hts gX9_place_X9_isFit rfl rfl rfl hdX9_isFit ⟨Nat.le_of_ble_eq_true rfl, Nat.le_of_ble_eq_true rfl⟩) (fl 99 rfl) rfl rfl rfl rfl hl.1 rfl (Nat.le_of_ble_eq_true rfl) ⟨Nat.zero_le _, Nat.zero_le _⟩ dX9_place_13 (fun x3 w4 H locs h hW hS => ?_)
    refine rb_if_ne (tgt := 23) hx hb h dX9_place_16 (by decide) (fun h => ?_) (fun h => ?_)
    · refine lv_aload_n hx hb dX9_place_23 rfl (lv_at hl 0 rfl) ?_
      refine rc_Vv (k := 99) (As := []) (rest := []) S hW hS h (kX9_layWays l E  w4) (cwV 0 hts gX9_place_X9_layWays rfl rfl rfl hdX9_layWays ⟨Nat.le_of_ble_eq_true rfl, Nat.le_of_ble_eq_true rfl⟩) (fl 99 rfl) rfl rfl rfl rfl hl.1 rfl (Nat.le_of_ble_eq_true rfl) ⟨Nat.zero_le _, Nat.zero_le _⟩ dX9_place_24 (fun _ w5 H locs h hW hS => ?_)
      refine lv_lconst (v := (0 : Int64)) hx hb dX9_place_27 (by decide) ?_
      refine lv_lstore_n (lv' := [(2, .long (0 : Int64)), (0, .ref (E.2.1 99)), (1, .int p1)]) hx hb dX9_place_28 rfl hl (by decide) rfl (fun ls hl => ?_)
      refine lv_iconst (v := (0 : Int32)) hx hb dX9_place_29 (by decide) ?_
      refine lv_istore (lv' := [(4, .int (0 : Int32)), (2, .long (0 : Int64)), (0, .ref (E.2.1 99)), (1, .int p1)]) hx hb dX9_place_30 hl (by decide) rfl (fun ls hl => ?_)
      refine lv_iconst (v := (0 : Int32)) hx hb dX9_place_32 (by decide) ?_
      refine lv_istore (lv' := [(5, .int (0 : Int32)), (4, .int (0 : Int32)), (2, .long (0 : Int64)), (0, .ref (E.2.1 99)), (1, .int p1)]) hx hb dX9_place_33 hl (by decide) rfl (fun ls hl => ?_)
      exact J35 _ _ _ _ _ _ _ _ h hW hS (lv_sub hl [3, 4, 2, 1, 0] rfl)
    · refine lv_ldc2 (own := RX9) (v := (-3 : Int64)) hx hb hown (hts _ (by decide +kernel)) dX9_place_19 ?_
      exact rrL hQ hW hS h dX9_place_22
  · refine lv_ldc2 (own := RX9) (v := (-1 : Int64)) hx hb hown (hts _ (by decide +kernel)) dX9_place_7 ?_
    exact rrL hQ hW hS h dX9_place_10
noncomputable def jX9_tellSum_45 (p1 : Int32) (p2 : Int32) (p3 : Int32) (s0 : Int32)  (w : Wd) : Option (Int32 × Wd) :=
  if p1 = 0 then (sI w 105 p2 p3).bind fun w7 => some (s0, w7) else (sI w 104 p2 p3).bind fun w8 => some (s0, w8)
noncomputable def fX9_tellSum (p1 : Int32) (p2 : Int32) (p3 : Int32) (w : Wd) : Option (Int32 × Wd) :=
  bnd (fX9_isLine p1 p2 w) fun x1 w2 => if x1 = 0 then some ((-1 : Int32), w2) else bnd (fX9_in (p3.toInt64) (0 : Int64) (20 : Int64) w2) fun x3 w4 => if x3 = 0 then some ((-2 : Int32), w4) else if p1 = 0 then (gI w4 105 p2).bind fun x5 => jX9_tellSum_45 p1 p2 p3 x5 w4 else (gI w4 104 p2).bind fun x6 => jX9_tellSum_45 p1 p2 p3 x6 w4
abbrev rmX9_tellSum : Room := { frames := 2, cells := 0, slots := 0, locals := 47 }
set_option maxHeartbeats 4000000 in
set_option maxRecDepth 100000 in
theorem kX9_tellSum (l : Launch) (E : Ev) (p1 : Int32) (p2 : Int32) (p3 : Int32) (w : Wd) (q : Int32 × Wd) (h : fX9_tellSum p1 p2 p3 w = some q) : CtI l yX9_tellSum wsX9_tellSum rmX9_tellSum E full [.ref (E.2.1 99), .int p1, .int p2, .int p3] w q := by
  refine mkI (cc := cX9_tellSum) (maxL := 5) (by decide) rfl (Nat.le_of_ble_eq_true rfl) ?_
  intro p e s m args below meth c Q S hW hQ ls hl
  obtain ⟨hx, hb, hml, hown, hts⟩ := id S
  have hW0 := hW
  have hS : va_S (wA E full) s.heap s.heap [] := va_S.rf
  have hl : lv_has ls 5 [(0, .ref (E.2.1 99)), (1, .int p1), (2, .int p2), (3, .int p3)] := hl
  have iX9 : ∀ w ∈ wsX90, w ∈ wsX9_tellSum := by decide +kernel
  have e22 := hts (.fieldLink RX9 22 "CubeHeapsModel" "columnSum" "[I") (by decide +kernel)
  have e25 := hts (.fieldLink RX9 25 "CubeHeapsModel" "rowSum" "[I") (by decide +kernel)
  have J45 : ∀ (s0 : Int32) (w : Wd) (H : Heap) (locs : List Loc) (ls : Array Slot), jX9_tellSum_45 p1 p2 p3 s0 w = some q → World E full w s H → va_S (wA E full) s.heap H locs → lv_has ls 5 [(0, .ref (E.2.1 99)), (1, .int p1), (2, .int p2), (3, .int p3)] → W p l e rmX9_tellSum s m args below meth c H locs 0 0 Q (F0 m 45 ls [.int s0]) := by
    intro s0 w H locs ls h hW hS hl
    unfold jX9_tellSum_45 at h
    refine lv_istore (lv' := [(4, .int s0), (0, .ref (E.2.1 99)), (1, .int p1), (2, .int p2), (3, .int p3)]) hx hb dX9_tellSum_45 hl (by decide) rfl (fun ls hl => ?_)
    refine lv_iload_n hx hb dX9_tellSum_47 rfl (lv_at hl 2 rfl) ?_
    refine rb_if_eq (tgt := 61) hx hb h dX9_tellSum_48 (by decide) (fun h => ?_) (fun h => ?_)
    · refine lv_aload_n hx hb dX9_tellSum_61 rfl (lv_at hl 1 rfl) ?_
      refine rw_get hx hb hts iX9 hown hW (fl 99 rfl) rfl rfl 7 (by decide) e25 rfl (v := .ref (E.2.1 105)) rfl dX9_tellSum_62 ?_
      refine lv_iload_n hx hb dX9_tellSum_65 rfl (lv_at hl 3 rfl) ?_
      refine lv_iload_n hx hb dX9_tellSum_66 rfl (lv_at hl 4 rfl) ?_
      refine rw_iast hx hb hW hS (fun _ => (fl 105 rfl)) h dX9_tellSum_67 (fun w7 H locs h hW hS => ?_)
      refine lv_iload hx hb dX9_tellSum_68 (lv_at hl 0 rfl) ?_
      exact rrI hQ hW hS h dX9_tellSum_70
    · refine lv_aload_n hx hb dX9_tellSum_51 rfl (lv_at hl 1 rfl) ?_
      refine rw_get hx hb hts iX9 hown hW (fl 99 rfl) rfl rfl 6 (by decide) e22 rfl (v := .ref (E.2.1 104)) rfl dX9_tellSum_52 ?_
      refine lv_iload_n hx hb dX9_tellSum_55 rfl (lv_at hl 3 rfl) ?_
      refine lv_iload_n hx hb dX9_tellSum_56 rfl (lv_at hl 4 rfl) ?_
      refine rw_iast hx hb hW hS (fun _ => (fl 104 rfl)) h dX9_tellSum_57 (fun w8 H locs h hW hS => ?_)
      refine lv_goto (tgt := 68) hx hb dX9_tellSum_58 (by decide) ?_
      refine lv_iload hx hb dX9_tellSum_68 (lv_at hl 0 rfl) ?_
      exact rrI hQ hW hS h dX9_tellSum_70
  unfold fX9_tellSum at h
  refine lv_aload_n hx hb dX9_tellSum_0 rfl (lv_at hl 0 rfl) ?_
  refine lv_iload_n hx hb dX9_tellSum_1 rfl (lv_at hl 1 rfl) ?_
  refine lv_iload_n hx hb dX9_tellSum_2 rfl (lv_at hl 2 rfl) ?_
  refine rc_Vi (k := 99) (As := [.int p1, .int p2]) (rest := []) S hW hS h (kX9_isLine l E p1 p2 w) (cwV 2 hts gX9_tellSum_X9_isLine rfl rfl rfl hdX9_isLine ⟨Nat.le_of_ble_eq_true rfl, Nat.le_of_ble_eq_true rfl⟩) (fl 99 rfl) rfl rfl rfl rfl hl.1 rfl (Nat.le_of_ble_eq_true rfl) ⟨Nat.zero_le _, Nat.zero_le _⟩ dX9_tellSum_3 (fun x1 w2 H locs h hW hS => ?_)
  refine rb_if_ne (tgt := 11) hx hb h dX9_tellSum_6 (by decide) (fun h => ?_) (fun h => ?_)
  · refine lv_iload_n hx hb dX9_tellSum_11 rfl (lv_at hl 3 rfl) ?_
    refine lv_i2l (v := (p3.toInt64)) hx hb dX9_tellSum_12 rfl ?_
    refine lv_lconst (v := (0 : Int64)) hx hb dX9_tellSum_13 (by decide) ?_
    refine lv_ldc2 (own := RX9) (v := (20 : Int64)) hx hb hown (hts _ (by decide +kernel)) dX9_tellSum_14 ?_
    refine rc_Si (As := [.long (p3.toInt64), .long (0 : Int64), .long (20 : Int64)]) (rest := []) S hW hS h (kX9_in l E (p3.toInt64) (0 : Int64) (20 : Int64) w2) (va_cwS 3 hts gX9_tellSum_X9_in rfl rfl rfl hdX9_in ⟨Nat.le_of_ble_eq_true rfl, Nat.le_of_ble_eq_true rfl⟩) rfl hl.1 rfl (Nat.le_of_ble_eq_true rfl) ⟨Nat.zero_le _, Nat.zero_le _⟩ dX9_tellSum_17 (fun x3 w4 H locs h hW hS => ?_)
    refine rb_if_ne (tgt := 26) hx hb h dX9_tellSum_20 (by decide) (fun h => ?_) (fun h => ?_)
    · refine lv_iload_n hx hb dX9_tellSum_26 rfl (lv_at hl 1 rfl) ?_
      refine rb_if_eq (tgt := 39) hx hb h dX9_tellSum_27 (by decide) (fun h => ?_) (fun h => ?_)
      · refine lv_aload_n hx hb dX9_tellSum_39 rfl (lv_at hl 0 rfl) ?_
        refine rw_get hx hb hts iX9 hown hW (fl 99 rfl) rfl rfl 7 (by decide) e25 rfl (v := .ref (E.2.1 105)) rfl dX9_tellSum_40 ?_
        refine lv_iload_n hx hb dX9_tellSum_43 rfl (lv_at hl 2 rfl) ?_
        refine rw_iald hx hb hW (fun _ => (fl 105 rfl)) h dX9_tellSum_44 (fun x5 h => ?_)
        exact J45 _ _ _ _ _ h hW hS (hl)
      · refine lv_aload_n hx hb dX9_tellSum_30 rfl (lv_at hl 0 rfl) ?_
        refine rw_get hx hb hts iX9 hown hW (fl 99 rfl) rfl rfl 6 (by decide) e22 rfl (v := .ref (E.2.1 104)) rfl dX9_tellSum_31 ?_
        refine lv_iload_n hx hb dX9_tellSum_34 rfl (lv_at hl 2 rfl) ?_
        refine rw_iald hx hb hW (fun _ => (fl 104 rfl)) h dX9_tellSum_35 (fun x6 h => ?_)
        refine lv_goto (tgt := 45) hx hb dX9_tellSum_36 (by decide) ?_
        exact J45 _ _ _ _ _ h hW hS (hl)
    · refine lv_bipush (v := (-2 : Int32)) hx hb dX9_tellSum_23 (by decide) ?_
      exact rrI hQ hW hS h dX9_tellSum_25
  · refine lv_iconst (v := (-1 : Int32)) hx hb dX9_tellSum_9 (by decide) ?_
    exact rrI hQ hW hS h dX9_tellSum_10
noncomputable def bX9_sumsAs_40 (p1 : Int32) (k40 : Int32 → Wd → Option (Int32 × Wd)) (v2 : Int32)  (w : Wd) : Option (Int32 × Wd) :=
  if (w.1 99 1) ≤ v2 then bnd (fX9_cubesOf p1 w) fun x6 w7 => some (x6, w7) else bnd (fX9_sumOf p1 (0 : Int32) v2 w) fun x8 w9 => (sI w9 105 v2 x8).bind fun w10 => k40 (v2 + (1 : Int32)) w10
noncomputable def bX9_sumsAs_11 (p1 : Int32) (k11 : Int32 → Wd → Option (Int32 × Wd)) (v2 : Int32)  (w : Wd) : Option (Int32 × Wd) :=
  if (w.1 99 0) ≤ v2 then lp (fun _ _ => none) (bX9_sumsAs_40 p1) G (0 : Int32) w else bnd (fX9_sumOf p1 (1 : Int32) v2 w) fun x3 w4 => (sI w4 104 v2 x3).bind fun w5 => k11 (v2 + (1 : Int32)) w5
noncomputable def fX9_sumsAs (p1 : Int32) (w : Wd) : Option (Int32 × Wd) :=
  bnd (fX9_isSlot p1 w) fun x1 w2 => if x1 = 0 then some ((-1 : Int32), w2) else lp (fun _ _ => none) (bX9_sumsAs_11 p1) G (0 : Int32) w2
abbrev rmX9_sumsAs : Room := { frames := 2, cells := 0, slots := 0, locals := 48 }
set_option maxHeartbeats 4000000 in
set_option maxRecDepth 100000 in
theorem kX9_sumsAs (l : Launch) (E : Ev) (p1 : Int32) (w : Wd) (q : Int32 × Wd) (h : fX9_sumsAs p1 w = some q) : CtI l yX9_sumsAs wsX9_sumsAs rmX9_sumsAs E full [.ref (E.2.1 99), .int p1] w q := by
  refine mkI (cc := cX9_sumsAs) (maxL := 3) (by decide) rfl (Nat.le_of_ble_eq_true rfl) ?_
  intro p e s m args below meth c Q S hW hQ ls hl
  obtain ⟨hx, hb, hml, hown, hts⟩ := id S
  have hW0 := hW
  have hS : va_S (wA E full) s.heap s.heap [] := va_S.rf
  have hl : lv_has ls 3 [(0, .ref (E.2.1 99)), (1, .int p1)] := hl
  have iX9 : ∀ w ∈ wsX90, w ∈ wsX9_sumsAs := by decide +kernel
  have e22 := hts (.fieldLink RX9 22 "CubeHeapsModel" "columnSum" "[I") (by decide +kernel)
  have e25 := hts (.fieldLink RX9 25 "CubeHeapsModel" "rowSum" "[I") (by decide +kernel)
  have e85 := hts (.fieldLink RX9 85 "CubeHeapsModel" "wide" "I") (by decide +kernel)
  have e88 := hts (.fieldLink RX9 88 "CubeHeapsModel" "tall" "I") (by decide +kernel)
  have J40 : ∀ (n : Nat) (v2 : Int32) (w : Wd) (H : Heap) (locs : List Loc) (ls : Array Slot), lp (fun _ _ => none) (bX9_sumsAs_40 p1) n v2 w = some q → World E full w s H → va_S (wA E full) s.heap H locs → lv_has ls 3 [(0, .ref (E.2.1 99)), (1, .int p1), (2, .int v2)] → W p l e rmX9_sumsAs s m args below meth c H locs 0 0 Q (F0 m 40 ls []) := by
    intro n
    induction n with
    | zero =>
      intro v2 w H locs ls h hW hS hl
      exact absurd (show (none : Option (Int32 × Wd)) = some q from h) (fun z => by cases z)
    | succ n ih40 =>
      intro v2 w H locs ls h hW hS hl
      have h : bX9_sumsAs_40 p1 (lp (fun _ _ => none) (bX9_sumsAs_40 p1) n) v2 w = some q := h
      generalize lp (fun _ _ => none) (bX9_sumsAs_40 p1) n = k40 at h ih40
      unfold bX9_sumsAs_40 at h
      refine lv_iload_n hx hb dX9_sumsAs_40 rfl (lv_at hl 2 rfl) ?_
      refine lv_aload_n hx hb dX9_sumsAs_41 rfl (lv_at hl 0 rfl) ?_
      refine rw_get hx hb hts iX9 hown hW (fl 99 rfl) rfl rfl 1 (by decide) e88 rfl (v := .int (w.1 99 1)) rfl dX9_sumsAs_42 ?_
      refine rb_icmp_ge (tgt := 67) hx hb h dX9_sumsAs_45 (by decide) (fun h => ?_) (fun h => ?_)
      · refine lv_aload_n hx hb dX9_sumsAs_67 rfl (lv_at hl 0 rfl) ?_
        refine lv_iload_n hx hb dX9_sumsAs_68 rfl (lv_at hl 1 rfl) ?_
        refine rc_Vi (k := 99) (As := [.int p1]) (rest := []) S hW hS h (kX9_cubesOf l E p1 w) (cwV 1 hts gX9_sumsAs_X9_cubesOf rfl rfl rfl hdX9_cubesOf ⟨Nat.le_of_ble_eq_true rfl, Nat.le_of_ble_eq_true rfl⟩) (fl 99 rfl) rfl rfl rfl rfl hl.1 rfl (Nat.le_of_ble_eq_true rfl) ⟨Nat.zero_le _, Nat.zero_le _⟩ dX9_sumsAs_69 (fun x6 w7 H locs h hW hS => ?_)
        exact rrI hQ hW hS h dX9_sumsAs_72
      · refine lv_aload_n hx hb dX9_sumsAs_48 rfl (lv_at hl 0 rfl) ?_
        refine rw_get hx hb hts iX9 hown hW (fl 99 rfl) rfl rfl 7 (by decide) e25 rfl (v := .ref (E.2.1 105)) rfl dX9_sumsAs_49 ?_
        refine lv_iload_n hx hb dX9_sumsAs_52 rfl (lv_at hl 2 rfl) ?_
        refine lv_aload_n hx hb dX9_sumsAs_53 rfl (lv_at hl 0 rfl) ?_
        refine lv_iload_n hx hb dX9_sumsAs_54 rfl (lv_at hl 1 rfl) ?_
        refine lv_iconst (v := (0 : Int32)) hx hb dX9_sumsAs_55 (by decide) ?_
        refine lv_iload_n hx hb dX9_sumsAs_56 rfl (lv_at hl 2 rfl) ?_
        refine rc_Vi (k := 99) (As := [.int p1, .int (0 : Int32), .int v2]) (rest := [.int v2, .ref (E.2.1 105)]) S hW hS h (kX9_sumOf l E p1 (0 : Int32) v2 w) (cwV 3 hts gX9_sumsAs_X9_sumOf rfl rfl rfl hdX9_sumOf ⟨Nat.le_of_ble_eq_true rfl, Nat.le_of_ble_eq_true rfl⟩) (fl 99 rfl) rfl rfl rfl rfl hl.1 rfl (Nat.le_of_ble_eq_true rfl) ⟨Nat.zero_le _, Nat.zero_le _⟩ dX9_sumsAs_57 (fun x8 w9 H locs h hW hS => ?_)
        refine rw_iast hx hb hW hS (fun _ => (fl 105 rfl)) h dX9_sumsAs_60 (fun w10 H locs h hW hS => ?_)
        refine lv_iinc (v := (v2 + (1 : Int32))) (lv' := [(2, .int (v2 + (1 : Int32))), (0, .ref (E.2.1 99)), (1, .int p1)]) hx hb dX9_sumsAs_61 hl (k := 2) rfl rfl (by decide) rfl (fun ls hl => ?_)
        refine lv_goto (tgt := 40) hx hb dX9_sumsAs_64 (by decide) ?_
        exact ih40 _ _ _ _ _ h hW hS (lv_sub hl [1, 2, 0] rfl)
  have J11 : ∀ (n : Nat) (v2 : Int32) (w : Wd) (H : Heap) (locs : List Loc) (ls : Array Slot), lp (fun _ _ => none) (bX9_sumsAs_11 p1) n v2 w = some q → World E full w s H → va_S (wA E full) s.heap H locs → lv_has ls 3 [(0, .ref (E.2.1 99)), (1, .int p1), (2, .int v2)] → W p l e rmX9_sumsAs s m args below meth c H locs 0 0 Q (F0 m 11 ls []) := by
    intro n
    induction n with
    | zero =>
      intro v2 w H locs ls h hW hS hl
      exact absurd (show (none : Option (Int32 × Wd)) = some q from h) (fun z => by cases z)
    | succ n ih11 =>
      intro v2 w H locs ls h hW hS hl
      have h : bX9_sumsAs_11 p1 (lp (fun _ _ => none) (bX9_sumsAs_11 p1) n) v2 w = some q := h
      generalize lp (fun _ _ => none) (bX9_sumsAs_11 p1) n = k11 at h ih11
      unfold bX9_sumsAs_11 at h
      refine lv_iload_n hx hb dX9_sumsAs_11 rfl (lv_at hl 2 rfl) ?_
      refine lv_aload_n hx hb dX9_sumsAs_12 rfl (lv_at hl 0 rfl) ?_
      refine rw_get hx hb hts iX9 hown hW (fl 99 rfl) rfl rfl 0 (by decide) e85 rfl (v := .int (w.1 99 0)) rfl dX9_sumsAs_13 ?_
      refine rb_icmp_ge (tgt := 38) hx hb h dX9_sumsAs_16 (by decide) (fun h => ?_) (fun h => ?_)
      · refine lv_iconst (v := (0 : Int32)) hx hb dX9_sumsAs_38 (by decide) ?_
        refine lv_istore_n (lv' := [(2, .int (0 : Int32)), (0, .ref (E.2.1 99)), (1, .int p1)]) hx hb dX9_sumsAs_39 rfl hl (by decide) rfl (fun ls hl => ?_)
        exact J40 _ _ _ _ _ _ h hW hS (lv_sub hl [1, 2, 0] rfl)
      · refine lv_aload_n hx hb dX9_sumsAs_19 rfl (lv_at hl 0 rfl) ?_
        refine rw_get hx hb hts iX9 hown hW (fl 99 rfl) rfl rfl 6 (by decide) e22 rfl (v := .ref (E.2.1 104)) rfl dX9_sumsAs_20 ?_
        refine lv_iload_n hx hb dX9_sumsAs_23 rfl (lv_at hl 2 rfl) ?_
        refine lv_aload_n hx hb dX9_sumsAs_24 rfl (lv_at hl 0 rfl) ?_
        refine lv_iload_n hx hb dX9_sumsAs_25 rfl (lv_at hl 1 rfl) ?_
        refine lv_iconst (v := (1 : Int32)) hx hb dX9_sumsAs_26 (by decide) ?_
        refine lv_iload_n hx hb dX9_sumsAs_27 rfl (lv_at hl 2 rfl) ?_
        refine rc_Vi (k := 99) (As := [.int p1, .int (1 : Int32), .int v2]) (rest := [.int v2, .ref (E.2.1 104)]) S hW hS h (kX9_sumOf l E p1 (1 : Int32) v2 w) (cwV 3 hts gX9_sumsAs_X9_sumOf rfl rfl rfl hdX9_sumOf ⟨Nat.le_of_ble_eq_true rfl, Nat.le_of_ble_eq_true rfl⟩) (fl 99 rfl) rfl rfl rfl rfl hl.1 rfl (Nat.le_of_ble_eq_true rfl) ⟨Nat.zero_le _, Nat.zero_le _⟩ dX9_sumsAs_28 (fun x3 w4 H locs h hW hS => ?_)
        refine rw_iast hx hb hW hS (fun _ => (fl 104 rfl)) h dX9_sumsAs_31 (fun w5 H locs h hW hS => ?_)
        refine lv_iinc (v := (v2 + (1 : Int32))) (lv' := [(2, .int (v2 + (1 : Int32))), (0, .ref (E.2.1 99)), (1, .int p1)]) hx hb dX9_sumsAs_32 hl (k := 2) rfl rfl (by decide) rfl (fun ls hl => ?_)
        refine lv_goto (tgt := 11) hx hb dX9_sumsAs_35 (by decide) ?_
        exact ih11 _ _ _ _ _ h hW hS (lv_sub hl [1, 2, 0] rfl)
  unfold fX9_sumsAs at h
  refine lv_iload_n hx hb dX9_sumsAs_0 rfl (lv_at hl 1 rfl) ?_
  refine rc_Si (As := [.int p1]) (rest := []) S hW hS h (kX9_isSlot l E p1 w) (va_cwS 1 hts gX9_sumsAs_X9_isSlot rfl rfl rfl hdX9_isSlot ⟨Nat.le_of_ble_eq_true rfl, Nat.le_of_ble_eq_true rfl⟩) rfl hl.1 rfl (Nat.le_of_ble_eq_true rfl) ⟨Nat.zero_le _, Nat.zero_le _⟩ dX9_sumsAs_1 (fun x1 w2 H locs h hW hS => ?_)
  refine rb_if_ne (tgt := 9) hx hb h dX9_sumsAs_4 (by decide) (fun h => ?_) (fun h => ?_)
  · refine lv_iconst (v := (0 : Int32)) hx hb dX9_sumsAs_9 (by decide) ?_
    refine lv_istore_n (lv' := [(2, .int (0 : Int32)), (0, .ref (E.2.1 99)), (1, .int p1)]) hx hb dX9_sumsAs_10 rfl hl (by decide) rfl (fun ls hl => ?_)
    exact J11 _ _ _ _ _ _ h hW hS (lv_sub hl [1, 2, 0] rfl)
  · refine lv_iconst (v := (-1 : Int32)) hx hb dX9_sumsAs_7 (by decide) ?_
    exact rrI hQ hW hS h dX9_sumsAs_8
