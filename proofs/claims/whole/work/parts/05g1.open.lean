set_option maxHeartbeats 8000000 in
set_option maxRecDepth 100000 in
/-- the law from its entry, over any picture of the worlds that the makers give and every step keeps -/
theorem whole_open {p : Program} {e : Env} {s : State} {m : MethodId} {below : List Frame} {meth : Method} {c : Code} (l : Launch) {b L : Nat} {xs : Nat → Int32} (Good : Nat → Wd → Prop) (hstep : ∀ (t : Nat) (o x y z : Int32) (w : Wd), t < 512 → Good t w → ∃ w', stepL o x y z w = some w' ∧ Good (t + 1) w') (qG qT qM : Unit × Wd) (hqG : fX2_become (4 : Int32) (4 : Int32) w0 = some qG) (hqT : fX5_forget w0 = some qT) (hqM : fX9_layGround (4 : Int32) (4 : Int32) w0 = some qM) (hinit : Good 0 (mixW 99 122 (mixW 96 99 (mixW 90 96 (mixW 79 90 (mixW 19 79 (mixW 14 19 (mixW 10 14 (mixW 1 5 w0 qG.2) w0) qT.2) w0) w0) w0) w0) qM.2)) (hL : L ≤ 2048) (C0 : lw_At p s m meth c b L xs) : W p l e room_1 s m #[Value.ref b] below meth c s.heap [] 0 0 (lw_Z below #[Value.ref b] s) (entryFrame m ([Value.ref b] : List Value).toArray 4) := by
  obtain ⟨hx, hb, hr, hml, hown0, hts0, hX, hbl, hlocks, hgv⟩ := id C0
  have hown : s.vm.findClass RL = some m.cls := hown0
  have S_ : ∀ {Ts : List Cond}, (∀ w ∈ Ts, w ∈ lw_tbl) → CallFix p m c cL_law 4 s #[Value.ref b] Ts RL := fun h9 => ⟨hx, hb, hml, hown, fun w h => hts0 w (h9 w h)⟩
  have hgs := flat_of_before _ hgv
  obtain ⟨cX0, iX0, hkX0⟩ := u_known (C := RX0) (T := TX0) (N := 6) (n := 6) hts0 in_wsX00 (hts0 (.instantiable RX0 6) (TB_in 5 _ (List.mem_of_getElem? (i := 213) (by decide +kernel))))
  obtain ⟨cX1, iX1, hkX1⟩ := u_known (C := RX1) (T := TX1) (N := 10) (n := 10) hts0 in_wsX10 (hts0 (.instantiable RX1 10) (TB_in 5 _ (List.mem_of_getElem? (i := 134) (by decide +kernel))))
  obtain ⟨cX2, iX2, hkX2⟩ := u_known (C := RX2) (T := TX2) (N := 5) (n := 5) hts0 in_wsX20 (hts0 (.instantiable RX2 5) (TB_in 5 _ (List.mem_of_getElem? (i := 23) (by decide +kernel))))
  obtain ⟨cX3, iX3, hkX3⟩ := u_known (C := RX3) (T := TX3) (N := 2) (n := 2) hts0 in_wsX30 (hts0 (.instantiable RX3 2) (TB_in 5 _ (List.mem_of_getElem? (i := 93) (by decide +kernel))))
  obtain ⟨cX4, iX4, hkX4⟩ := u_known (C := RX4) (T := TX4) (N := 10) (n := 10) hts0 in_wsX40 (hts0 (.instantiable RX4 10) (TB_in 5 _ (List.mem_of_getElem? (i := 174) (by decide +kernel))))
  obtain ⟨cX5, iX5, hkX5⟩ := u_known (C := RX5) (T := TX5) (N := 5) (n := 5) hts0 in_wsX50 (hts0 (.instantiable RX5 5) (TB_in 5 _ (List.mem_of_getElem? (i := 87) (by decide +kernel))))
  obtain ⟨cX6, iX6, hkX6⟩ := u_known (C := RX6) (T := TX6) (N := 3) (n := 3) hts0 in_wsX60 (hts0 (.instantiable RX6 3) (TB_in 5 _ (List.mem_of_getElem? (i := 238) (by decide +kernel))))
  obtain ⟨cX7, iX7, hkX7⟩ := u_known (C := RX7) (T := TX7) (N := 4) (n := 4) hts0 in_wsX70 (hts0 (.instantiable RX7 4) (TB_in 5 _ (List.mem_of_getElem? (i := 68) (by decide +kernel))))
  obtain ⟨cX8, iX8, hkX8⟩ := u_known (C := RX8) (T := TX8) (N := 8) (n := 8) hts0 in_wsX80 (hts0 (.instantiable RX8 8) (TB_in 5 _ (List.mem_of_getElem? (i := 15) (by decide +kernel))))
  obtain ⟨cX9, iX9, hkX9⟩ := u_known (C := RX9) (T := TX9) (N := 26) (n := 26) hts0 in_wsX90 (hts0 (.instantiable RX9 26) (TB_in 8 _ (List.mem_of_getElem? (i := 171) (by decide +kernel))))
  obtain ⟨aI, fI, oI⟩ := arrC (hts0 (.arrayClass .int) (TB_in 5 _ (List.mem_of_getElem? (i := 64) (by decide +kernel))))
  obtain ⟨aJ, fJ, oJ⟩ := arrC (hts0 (.arrayClass .long) (TB_in 5 _ (List.mem_of_getElem? (i := 172) (by decide +kernel))))
  have hov1 := hts0 (.arrayOver (.array .int)) (TB_in 5 _ (List.mem_of_getElem? (i := 66) (by decide +kernel)))
  have hov2 := hts0 (.arrayOver (.array .long)) (TB_in 5 _ (List.mem_of_getElem? (i := 140) (by decide +kernel)))
  obtain ⟨aII, fII, oII⟩ := arrO hov1
  obtain ⟨aJJ, fJJ, oJJ⟩ := arrO hov2
  have hAo : ∀ a : Nat, a < s.heap.size → ¬ (fun q : Nat => s.heap.size ≤ q) a := fun a h1 h2 => by have h2 : s.heap.size ≤ a := h2; omega
  obtain ⟨tX, vX, TX9⟩ := va_Tof (tm := (.static "CubeHeaps$Ground" "STEP_X" "[I")) (ty := .int) (N := 4) (f := fun j => .int (stX j)) (A := fun q : Nat => s.heap.size ≤ q) (by decide) (hgs (.arrayOf (.static "CubeHeaps$Ground" "STEP_X" "[I") .int) (by decide +kernel)) (va_eqt (hgs (.eq (.length (.static "CubeHeaps$Ground" "STEP_X" "[I")) (.int 4)) (by decide +kernel))) (fun j hj => match j, hj with
      | 0, _ => va_eqt (hgs (.eq (.elem (.static "CubeHeaps$Ground" "STEP_X" "[I") (.int 0)) (.int (-1))) (by decide +kernel))
      | 1, _ => va_eqt (hgs (.eq (.elem (.static "CubeHeaps$Ground" "STEP_X" "[I") (.int 1)) (.int (0))) (by decide +kernel))
      | 2, _ => va_eqt (hgs (.eq (.elem (.static "CubeHeaps$Ground" "STEP_X" "[I") (.int 2)) (.int (1))) (by decide +kernel))
      | 3, _ => va_eqt (hgs (.eq (.elem (.static "CubeHeaps$Ground" "STEP_X" "[I") (.int 3)) (.int (0))) (by decide +kernel))
      | j + 4, h => absurd h (by omega)) hAo
  have ZX9 := va_Zref (A := fun q : Nat => s.heap.size ≤ q) (hts0 (.laysStatic "CubeHeaps$Ground" "STEP_X" "[I") (TB_in 5 _ (List.mem_of_getElem? (i := 41) (by decide +kernel)))) (hts0 (.initialized "CubeHeaps$Ground") (TB_in 5 _ (List.mem_of_getElem? (i := 2) (by decide +kernel)))) vX hAo
  obtain ⟨tY, vY, TY9⟩ := va_Tof (tm := (.static "CubeHeaps$Ground" "STEP_Y" "[I")) (ty := .int) (N := 4) (f := fun j => .int (stY j)) (A := fun q : Nat => s.heap.size ≤ q) (by decide) (hgs (.arrayOf (.static "CubeHeaps$Ground" "STEP_Y" "[I") .int) (by decide +kernel)) (va_eqt (hgs (.eq (.length (.static "CubeHeaps$Ground" "STEP_Y" "[I")) (.int 4)) (by decide +kernel))) (fun j hj => match j, hj with
      | 0, _ => va_eqt (hgs (.eq (.elem (.static "CubeHeaps$Ground" "STEP_Y" "[I") (.int 0)) (.int (0))) (by decide +kernel))
      | 1, _ => va_eqt (hgs (.eq (.elem (.static "CubeHeaps$Ground" "STEP_Y" "[I") (.int 1)) (.int (-1))) (by decide +kernel))
      | 2, _ => va_eqt (hgs (.eq (.elem (.static "CubeHeaps$Ground" "STEP_Y" "[I") (.int 2)) (.int (0))) (by decide +kernel))
      | 3, _ => va_eqt (hgs (.eq (.elem (.static "CubeHeaps$Ground" "STEP_Y" "[I") (.int 3)) (.int (1))) (by decide +kernel))
      | j + 4, h => absurd h (by omega)) hAo
  have ZY9 := va_Zref (A := fun q : Nat => s.heap.size ≤ q) (hts0 (.laysStatic "CubeHeaps$Ground" "STEP_Y" "[I") (TB_in 5 _ (List.mem_of_getElem? (i := 43) (by decide +kernel)))) (hts0 (.initialized "CubeHeaps$Ground") (TB_in 5 _ (List.mem_of_getElem? (i := 2) (by decide +kernel)))) vY hAo
  obtain ⟨E, eE⟩ : ∃ E : Ev, E = ((fun k => if k = 0 then cX0 else if k = 1 then cX1 else if k = 2 then cX2 else if k = 3 then cX3 else if k = 4 then cX4 else if k = 5 then cX5 else if k = 6 then cX6 else if k = 7 then cX7 else if k = 8 then cX8 else cX9, fun k => if k = 0 then iX0 else if k = 1 then iX1 else if k = 2 then iX2 else if k = 3 then iX3 else if k = 4 then iX4 else if k = 5 then iX5 else if k = 6 then iX6 else if k = 7 then iX7 else if k = 8 then iX8 else iX9), fun k => s.heap.size + k, fun t => if t = 0 then aI else if t = 1 then aJ else if t = 2 then aII else aJJ, fun j => if j = 0 then tX else tY) := ⟨_, rfl⟩
  have hE0 : E.2.1 0 = s.heap.size := by rw [eE]; exact Nat.add_zero _
  have hE : ∀ k, E.2.1 k = E.2.1 0 + k := fun k => by rw [eE]; show s.heap.size + k = s.heap.size + 0 + k; omega
  have hK : va_K E.1 vwCl (tysE E) s := by
    rw [eE]
    refine ⟨fun k q hq => ?_, fun k q hq => ?_⟩
    · match k, hq with
      | 0, hq => cases hq; exact hkX0
      | 1, hq => cases hq; exact hkX1
      | 2, hq => cases hq; exact hkX2
      | 3, hq => cases hq; exact hkX3
      | 4, hq => cases hq; exact hkX4
      | 5, hq => cases hq; exact hkX5
      | 6, hq => cases hq; exact hkX6
      | 7, hq => cases hq; exact hkX7
      | 8, hq => cases hq; exact hkX8
      | 9, hq => cases hq; exact hkX9
      | k + 10, hq => simp [vwCl] at hq
    · match k, hq with
      | 0, hq => cases hq; exact ⟨oI, fI⟩
      | 1, hq => cases hq; exact ⟨oJ, fJ⟩
      | 2, hq => cases hq; exact ⟨oII, fII⟩
      | 3, hq => cases hq; exact ⟨oJJ, fJJ⟩
      | k + 4, hq => simp [tysE] at hq
  have hup : (fun q : Nat => s.heap.size ≤ q) = up0 E 0 := funext fun q => by
    show (s.heap.size ≤ q) = (E.2.1 0 ≤ q)
    rw [hE0]
  have hPs : PS E 0 s s.heap := by
    rw [hup] at TX9 TY9 ZX9 ZY9
    have e0 : E.2.2.2 0 = tX := by rw [eE]; rfl
    have e1 : E.2.2.2 1 = tY := by rw [eE]; rfl
    refine ⟨?_, ?_, ?_, ?_⟩
    · rw [e0]; exact ZX9
    · rw [e0]; exact TX9
    · rw [e1]; exact ZY9
    · rw [e1]; exact TY9
  have hPN : PN s := ⟨va_Nw.of rfl (hts0 (.methodLinkNest RX5 11 yX3_init "CubeHeaps") (TB_in 5 _ (List.mem_of_getElem? (i := 94) (by decide +kernel)))), va_Nw.of rfl (hts0 (.methodLinkNest RX4 11 yX3_init "CubeHeaps") (TB_in 5 _ (List.mem_of_getElem? (i := 180) (by decide +kernel)))), hov1, hov2⟩
  have hS : va_S (up0 E 0) s.heap s.heap [] := va_S.rf
  have hl := lv_entry ([.ref b]) (n := 4) (Nat.le_of_ble_eq_true rfl)
  rw [lg_entry_eq]
  generalize (lg_sl ([.ref b]) ++ List.replicate (4 - (lg_sl ([.ref b])).length) Slot.unset).toArray = ls at hl ⊢
  have hl : lv_has ls 4 [(0, .ref b)] := hl
  refine pn_new (n := 0) (lo := 0) (gs := [.null, .null, .null, .null, .null, .null, .null, .null]) (cj := 8) hx hb hE hts0 in_wsX80 tyX8_ok hown (hts0 _ (inH_X8_init _ (List.mem_of_getElem? (i := 3) rfl))) (hts0 _ (inH_X8_init _ (List.mem_of_getElem? (i := 4) rfl))) (hts0 _ (inH_X8_init _ (List.mem_of_getElem? (i := 2) rfl))) hK hE0.symm hPs hS rfl (fun j hj => match j, hj with
      | 0, _ => rfl
      | 1, _ => rfl
      | 2, _ => rfl
      | 3, _ => rfl
      | 4, _ => rfl
      | 5, _ => rfl
      | 6, _ => rfl
      | 7, _ => rfl
      | j + 8, h => absurd h (by omega)) (Nat.le_refl _) (Nat.le_of_ble_eq_true rfl) (Nat.le_of_ble_eq_true rfl) dL_law_0 (fun H1 hN ho hS => ?_)
  refine lv_dup hx hb dL_law_3 rfl ?_
  refine pn_call (As := []) (rest := [.ref (E.2.1 0)]) (S_ inL_X8_init) hN hPN hS (fun q z => z) (kX8_init l E hE qG hqG qT hqT) (cwI 0 (fun w h => hts0 w (inL_X8_init w h)) gL2_X8_init rfl rfl rfl (hts0 _ (inH_X8_init _ (List.mem_of_getElem? (i := 2) rfl))) (hts0 _ (inH_X8_init _ (List.mem_of_getElem? (i := 0) rfl))) (hts0 _ (inH_X8_init _ (List.mem_of_getElem? (i := 1) rfl))) rfl (by decide +kernel) ⟨Nat.le_of_ble_eq_true rfl, Nat.le_of_ble_eq_true rfl⟩) rfl hl.1 rfl (Nat.le_of_ble_eq_true rfl) ⟨Nat.le_of_ble_eq_true rfl, Nat.le_of_ble_eq_true rfl⟩ dL_law_4 (fun H2 locs hR _ hS => ?_)
  refine lv_astore_n (lv' := [(1, .ref (E.2.1 0)), (0, .ref b)]) hx hb dL_law_7 rfl hl (by decide) rfl (fun ls hl => ?_)
  refine pn_new (n := 99) (lo := 0) (gs := [.int 0, .int 0, .null, .null, .null, .null, .null, .null, .null, .null, .null, .int 0, .int 0, .null, .null, .null, .null, .null, .null, .null, .null, .null, .null, .null, .null, .null]) (cj := 9) hx hb hE hts0 in_wsX90 tyX9_ok hown (hts0 _ (inH_X9_init _ (List.mem_of_getElem? (i := 3) rfl))) (hts0 _ (inH_X9_init _ (List.mem_of_getElem? (i := 4) rfl))) (hts0 _ (inH_X9_init _ (List.mem_of_getElem? (i := 2) rfl))) hK hR.1 hR.2.2.2 hS rfl (fun j hj => match j, hj with
      | 0, _ => rfl
      | 1, _ => rfl
      | 2, _ => rfl
      | 3, _ => rfl
      | 4, _ => rfl
      | 5, _ => rfl
      | 6, _ => rfl
      | 7, _ => rfl
      | 8, _ => rfl
      | 9, _ => rfl
      | 10, _ => rfl
      | 11, _ => rfl
      | 12, _ => rfl
      | 13, _ => rfl
      | 14, _ => rfl
      | 15, _ => rfl
      | 16, _ => rfl
      | 17, _ => rfl
      | 18, _ => rfl
      | 19, _ => rfl
      | 20, _ => rfl
      | 21, _ => rfl
      | 22, _ => rfl
      | 23, _ => rfl
      | 24, _ => rfl
      | 25, _ => rfl
      | j + 26, h => absurd h (by omega)) (by rw [hE 99]; omega) (Nat.le_of_ble_eq_true rfl) (Nat.le_of_ble_eq_true rfl) dL_law_8 (fun H3 hN3 ho3 hS => ?_)
  refine lv_dup hx hb dL_law_11 rfl ?_
  refine pn_call (As := []) (rest := [.ref (E.2.1 99)]) (S_ inL_X9_init) hN3 hPN hS (fun q z => Nat.le_trans (by rw [hE 99]; omega) z) (kX9_init l E hE qM hqM) (cwI 0 (fun w h => hts0 w (inL_X9_init w h)) gL2_X9_init rfl rfl rfl (hts0 _ (inH_X9_init _ (List.mem_of_getElem? (i := 2) rfl))) (hts0 _ (inH_X9_init _ (List.mem_of_getElem? (i := 0) rfl))) (hts0 _ (inH_X9_init _ (List.mem_of_getElem? (i := 1) rfl))) rfl (by decide +kernel) ⟨Nat.le_of_ble_eq_true rfl, Nat.le_of_ble_eq_true rfl⟩) rfl hl.1 rfl (Nat.le_of_ble_eq_true rfl) ⟨Nat.le_of_ble_eq_true rfl, Nat.le_of_ble_eq_true rfl⟩ dL_law_12 (fun H4 locs hR4 ho4 hS => ?_)
  have hJ := PR.join hE hR (fun q hq => (ho4 q hq).trans (ho3 q hq)) hR4
  have hW := hJ.world hE
  rw [full_eq] at hW
  have hS9 : va_S (wA E full) s.heap H4 [] := ⟨hS.1, fun q h1 _ => hS.2.1 q h1 (fun z => by have z : E.2.1 0 ≤ q := z; rw [hE0] at z; omega), fun _ h => by cases h⟩
  refine lv_astore_n (lv' := [(2, .ref (E.2.1 99)), (1, .ref (E.2.1 0)), (0, .ref b)]) hx hb dL_law_15 rfl hl (by decide) rfl (fun ls hl => ?_)
  refine lv_iconst (v := (0 : Int32)) hx hb dL_law_16 (by decide) ?_
  refine lv_istore_n (lv' := [(3, .int (0 : Int32)), (2, .ref (E.2.1 99)), (1, .ref (E.2.1 0)), (0, .ref b)]) hx hb dL_law_17 rfl hl (by decide) rfl (fun ls hl => ?_)
  refine va_forget (fun q hq => by have h := hS.2.2 q hq; have h : E.2.1 0 ≤ q.base := h; rw [hE0] at h; exact h) ?_
  refine W.widen (k := 600000) (n := 7302250) (Nat.le_of_ble_eq_true rfl) (Nat.le_of_ble_eq_true rfl) ?_
  exact law_loop Good hstep hE0 hE hL C0 L 0 0 _ H4 [] ls (by omega) nI_0.symm (by omega) hinit hW hS9 (lv_sub hl [3, 2, 1, 0] rfl)
