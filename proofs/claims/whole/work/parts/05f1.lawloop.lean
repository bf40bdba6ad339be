set_option maxHeartbeats 8000000 in
set_option maxRecDepth 100000 in
/-- the law's loop, over any picture of the worlds that every step keeps -/
theorem law_loop {p : Program} {l : Launch} {e : Env} {s : State} {m : MethodId} {below : List Frame} {meth : Method} {c : Code} {E : Ev} {b L : Nat} {xs : Nat → Int32} (Good : Nat → Wd → Prop) (hstep : ∀ (t : Nat) (o x y z : Int32) (w : Wd), t < 512 → Good t w → ∃ w', stepL o x y z w = some w' ∧ Good (t + 1) w') (hE0 : E.2.1 0 = s.heap.size) (hE : ∀ k, E.2.1 k = E.2.1 0 + k) (hL : L ≤ 2048) (C0 : lw_At p s m meth c b L xs) :
    ∀ (n t : Nat) (v3 : Int32) (w : Wd) (H : Heap) (locs : List Loc) (ls : Array Slot), L ≤ 4 * t + n → v3 = nI (4 * t) → 4 * t ≤ 2052 → Good t w → World E full w s H → va_S (wA E full) s.heap H locs → lv_has ls 4 [(0, .ref b), (1, .ref (E.2.1 0)), (2, .ref (E.2.1 99)), (3, .int v3)] → W p l e room_1 s m #[Value.ref b] below meth c H locs 600000 7302250 (lw_Z below #[Value.ref b] s) (F0 m 18 ls []) := by
  obtain ⟨hx, hb, hr, hml, hown0, hts0, hX, hbl, hlocks, hgv⟩ := C0
  have hown : s.vm.findClass RL = some m.cls := hown0
  have S_ : ∀ {Ts : List Cond}, (∀ w ∈ Ts, w ∈ lw_tbl) → CallFix p m c cL_law 4 s #[Value.ref b] Ts RL := fun h9 => ⟨hx, hb, hml, hown, fun w h => hts0 w (h9 w h)⟩
  have hbA : ¬ wA E full b := fun ⟨k, _, hk⟩ => by rw [hE k, hE0] at hk; omega
  have hfg : ∀ q, wA E full q → s.heap.size ≤ q := fun q ⟨k, _, hk⟩ => by rw [hk, hE k, hE0]; omega
  intro n
  induction n using Nat.strongRecOn with
  | _ n ih =>
  intro t v3 w H locs ls hn hv ht hg hW hS hl
  refine lv_iload_n hx hb dL_law_18 rfl (lv_at hl 3 rfl) ?_
  refine lv_aload_n hx hb dL_law_19 rfl (lv_at hl 0 rfl) ?_
  refine va_slen hx hb hX hbl hbA hS dL_law_20 ?_
  refine lv_iconst (v := (4 : Int32)) hx hb dL_law_21 (by decide) ?_
  refine lv_isub hx hb dL_law_22 ?_
  have hsub : (Int32.ofNat L - 4).toInt = (L : Int) - 4 := pk_sub_toInt (a := L) (b := 4) (by omega) (by omega)
  have hvi : v3.toInt = (4 * t : Nat) := by rw [hv]; exact nI_toInt (by omega)
  refine lv_icmp_gt (tgt := 1383) hx hb dL_law_23 (by decide) (fun q => ?_) (fun q => ?_)
  · refine lv_iconst (v := 1) hx hb dL_law_1383 (by decide) ?_
    refine va_forget (fun q hq => hfg _ (hS.2.2 q hq)) ?_
    exact lw_ret hx hb hr hlocks dL_law_1384
  rw [Int32.lt_iff_toInt_lt, hsub, hvi] at q
  have hlt : 4 * t + 4 ≤ L := by omega
  have hi0 : vp_in v3 L := by rw [hv]; exact vp_in_nI (by omega) (by omega)
  have hi1 : vp_in (v3 + (1 : Int32)) L := by rw [hv, nI_1]; exact vp_in_nI (by omega) (by omega)
  have hi2 : vp_in (v3 + (2 : Int32)) L := by rw [hv]; exact (show nI (4 * t) + nI 2 = nI (4 * t + 2) from nI_add _ _) ▸ vp_in_nI (by omega) (by omega)
  have hi3 : vp_in (v3 + (3 : Int32)) L := by rw [hv]; exact (show nI (4 * t) + nI 3 = nI (4 * t + 3) from nI_add _ _) ▸ vp_in_nI (by omega) (by omega)
  have JN : ∀ (w : Wd) (H : Heap) (locs : List Loc) (ls : Array Slot), Good (t + 1) w → World E full w s H → va_S (wA E full) s.heap H locs → lv_has ls 4 [(0, .ref b), (1, .ref (E.2.1 0)), (2, .ref (E.2.1 99)), (3, .int v3)] → W p l e room_1 s m #[Value.ref b] below meth c H locs 600000 7302250 (lw_Z below #[Value.ref b] s) (F0 m 1377 ls []) := by
    intro w H locs ls hg hW hS hl
    refine lv_iinc (v := (v3 + (4 : Int32))) (lv' := [(3, .int (v3 + (4 : Int32))), (0, .ref b), (1, .ref (E.2.1 0)), (2, .ref (E.2.1 99))]) hx hb dL_law_1377 hl (k := 3) rfl rfl (by decide) rfl (fun ls hl => ?_)
    refine lv_goto (tgt := 18) hx hb dL_law_1380 (by decide) ?_
    exact ih (n - 4) (by omega) (t + 1) _ w H locs ls (by omega) (by rw [hv, show 4 * (t + 1) = 4 * t + 4 by omega]; exact nI_add (4 * t) 4) (by omega) hg hW hS (lv_sub hl [1, 2, 3, 0] rfl)
  obtain ⟨w9, h, hg⟩ := hstep t ((xs v3.toNatClampNeg) &&& (63 : Int32)) (xs (v3 + (1 : Int32)).toNatClampNeg) (xs (v3 + (2 : Int32)).toNatClampNeg) (xs (v3 + (3 : Int32)).toNatClampNeg) w (by omega) hg
  refine lv_aload_n hx hb dL_law_26 rfl (lv_at hl 0 rfl) ?_
  refine lv_iload_n hx hb dL_law_27 rfl (lv_at hl 3 rfl) ?_
  refine va_sld hx hb hX hbl hbA hS hi0 dL_law_28 ?_
  refine lv_bipush (v := (63 : Int32)) hx hb dL_law_29 (by decide) ?_
  refine lv_iand hx hb dL_law_31 ?_
  unfold stepL at h
  generalize (xs v3.toNatClampNeg &&& (63 : Int32)) = o9 at h ⊢
  by_cases c0 : o9 = 0
  · rw [if_pos c0] at h
    refine lv_tableIn (off := 152) (tgt := 184) hx hb dL_law_32 (by rw [c0]; decide) (by rw [c0]; decide) (by rw [c0]; rfl) (by decide) ?_
    unfold st0 at h
    refine lv_aload_n hx hb dL_law_184 rfl (lv_at hl 1 rfl) ?_
    refine lv_aload_n hx hb dL_law_185 rfl (lv_at hl 0 rfl) ?_
    refine lv_iload_n hx hb dL_law_186 rfl (lv_at hl 3 rfl) ?_
    refine lv_iconst (v := (1 : Int32)) hx hb dL_law_187 (by decide) ?_
    refine lv_iadd hx hb dL_law_188 ?_
    refine va_sld hx hb hX hbl hbA hS hi1 dL_law_189 ?_
    refine lv_aload_n hx hb dL_law_190 rfl (lv_at hl 0 rfl) ?_
    refine lv_iload_n hx hb dL_law_191 rfl (lv_at hl 3 rfl) ?_
    refine lv_iconst (v := (2 : Int32)) hx hb dL_law_192 (by decide) ?_
    refine lv_iadd hx hb dL_law_193 ?_
    refine va_sld hx hb hX hbl hbA hS hi2 dL_law_194 ?_
    refine rc_Vi (k := 0) (As := [.int (xs (v3 + (1 : Int32)).toNatClampNeg), .int (xs (v3 + (2 : Int32)).toNatClampNeg)]) (rest := []) (S_ (inL_X8_ground)) hW hS h (kX8_ground l E (xs (v3 + (1 : Int32)).toNatClampNeg) (xs (v3 + (2 : Int32)).toNatClampNeg) w) (cwV 2 (fun w h => hts0 w (inL_X8_ground w h)) gL2_X8_ground rfl rfl rfl hdX8_ground ⟨Nat.le_of_ble_eq_true rfl, Nat.le_of_ble_eq_true rfl⟩) (fl 0 rfl) rfl rfl rfl rfl hl.1 rfl (Nat.le_of_ble_eq_true rfl) ⟨Nat.le_refl _, Nat.le_refl _⟩ dL_law_195 (fun x0 w1 H locs h hW hS => ?_)
    refine lv_aload_n hx hb dL_law_198 rfl (lv_at hl 2 rfl) ?_
    refine lv_aload_n hx hb dL_law_199 rfl (lv_at hl 0 rfl) ?_
    refine lv_iload_n hx hb dL_law_200 rfl (lv_at hl 3 rfl) ?_
    refine lv_iconst (v := (1 : Int32)) hx hb dL_law_201 (by decide) ?_
    refine lv_iadd hx hb dL_law_202 ?_
    refine va_sld hx hb hX hbl hbA hS hi1 dL_law_203 ?_
    refine lv_aload_n hx hb dL_law_204 rfl (lv_at hl 0 rfl) ?_
    refine lv_iload_n hx hb dL_law_205 rfl (lv_at hl 3 rfl) ?_
    refine lv_iconst (v := (2 : Int32)) hx hb dL_law_206 (by decide) ?_
    refine lv_iadd hx hb dL_law_207 ?_
    refine va_sld hx hb hX hbl hbA hS hi2 dL_law_208 ?_
    refine rc_Vi (k := 99) (As := [.int (xs (v3 + (1 : Int32)).toNatClampNeg), .int (xs (v3 + (2 : Int32)).toNatClampNeg)]) (rest := [.int x0]) (S_ (inL_X9_ground)) hW hS h (kX9_ground l E (xs (v3 + (1 : Int32)).toNatClampNeg) (xs (v3 + (2 : Int32)).toNatClampNeg) w1) (cwV 2 (fun w h => hts0 w (inL_X9_ground w h)) gL2_X9_ground rfl rfl rfl hdX9_ground ⟨Nat.le_of_ble_eq_true rfl, Nat.le_of_ble_eq_true rfl⟩) (fl 99 rfl) rfl rfl rfl rfl hl.1 rfl (Nat.le_of_ble_eq_true rfl) ⟨Nat.le_refl _, Nat.le_refl _⟩ dL_law_209 (fun x1 w2 H locs h hW hS => ?_)
    refine rb_icmp_eq (tgt := 1377) hx hb h dL_law_212 (by decide) (fun h => ?_) (fun h => by cases h)
    exact JN _ _ _ _ (by cases h; exact hg) hW hS hl
  rw [if_neg c0] at h
  by_cases c1 : o9 = 1
  · rw [if_pos c1] at h
    refine lv_tableIn (off := 185) (tgt := 217) hx hb dL_law_32 (by rw [c1]; decide) (by rw [c1]; decide) (by rw [c1]; rfl) (by decide) ?_
    unfold st1 at h
    refine lv_aload_n hx hb dL_law_217 rfl (lv_at hl 1 rfl) ?_
    refine lv_aload_n hx hb dL_law_218 rfl (lv_at hl 0 rfl) ?_
    refine lv_iload_n hx hb dL_law_219 rfl (lv_at hl 3 rfl) ?_
    refine lv_iconst (v := (1 : Int32)) hx hb dL_law_220 (by decide) ?_
    refine lv_iadd hx hb dL_law_221 ?_
    refine va_sld hx hb hX hbl hbA hS hi1 dL_law_222 ?_
    refine lv_aload_n hx hb dL_law_223 rfl (lv_at hl 0 rfl) ?_
    refine lv_iload_n hx hb dL_law_224 rfl (lv_at hl 3 rfl) ?_
    refine lv_iconst (v := (2 : Int32)) hx hb dL_law_225 (by decide) ?_
    refine lv_iadd hx hb dL_law_226 ?_
    refine va_sld hx hb hX hbl hbA hS hi2 dL_law_227 ?_
    refine lv_aload_n hx hb dL_law_228 rfl (lv_at hl 0 rfl) ?_
    refine lv_iload_n hx hb dL_law_229 rfl (lv_at hl 3 rfl) ?_
    refine lv_iconst (v := (3 : Int32)) hx hb dL_law_230 (by decide) ?_
    refine lv_iadd hx hb dL_law_231 ?_
    refine va_sld hx hb hX hbl hbA hS hi3 dL_law_232 ?_
    refine rc_Vi (k := 0) (As := [.int (xs (v3 + (1 : Int32)).toNatClampNeg), .int (xs (v3 + (2 : Int32)).toNatClampNeg), .int (xs (v3 + (3 : Int32)).toNatClampNeg)]) (rest := []) (S_ (inL_X8_set)) hW hS h (kX8_set l E (xs (v3 + (1 : Int32)).toNatClampNeg) (xs (v3 + (2 : Int32)).toNatClampNeg) (xs (v3 + (3 : Int32)).toNatClampNeg) w) (cwV 3 (fun w h => hts0 w (inL_X8_set w h)) gL2_X8_set rfl rfl rfl hdX8_set ⟨Nat.le_of_ble_eq_true rfl, Nat.le_of_ble_eq_true rfl⟩) (fl 0 rfl) rfl rfl rfl rfl hl.1 rfl (Nat.le_of_ble_eq_true rfl) ⟨Nat.le_refl _, Nat.le_refl _⟩ dL_law_233 (fun x0 w1 H locs h hW hS => ?_)
    refine lv_aload_n hx hb dL_law_236 rfl (lv_at hl 2 rfl) ?_
    refine lv_aload_n hx hb dL_law_237 rfl (lv_at hl 0 rfl) ?_
    refine lv_iload_n hx hb dL_law_238 rfl (lv_at hl 3 rfl) ?_
    refine lv_iconst (v := (1 : Int32)) hx hb dL_law_239 (by decide) ?_
    refine lv_iadd hx hb dL_law_240 ?_
    refine va_sld hx hb hX hbl hbA hS hi1 dL_law_241 ?_
    refine lv_aload_n hx hb dL_law_242 rfl (lv_at hl 0 rfl) ?_
    refine lv_iload_n hx hb dL_law_243 rfl (lv_at hl 3 rfl) ?_
    refine lv_iconst (v := (2 : Int32)) hx hb dL_law_244 (by decide) ?_
    refine lv_iadd hx hb dL_law_245 ?_
    refine va_sld hx hb hX hbl hbA hS hi2 dL_law_246 ?_
    refine lv_aload_n hx hb dL_law_247 rfl (lv_at hl 0 rfl) ?_
    refine lv_iload_n hx hb dL_law_248 rfl (lv_at hl 3 rfl) ?_
    refine lv_iconst (v := (3 : Int32)) hx hb dL_law_249 (by decide) ?_
    refine lv_iadd hx hb dL_law_250 ?_
    refine va_sld hx hb hX hbl hbA hS hi3 dL_law_251 ?_
    refine rc_Vi (k := 99) (As := [.int (xs (v3 + (1 : Int32)).toNatClampNeg), .int (xs (v3 + (2 : Int32)).toNatClampNeg), .int (xs (v3 + (3 : Int32)).toNatClampNeg)]) (rest := [.int x0]) (S_ (inL_X9_set)) hW hS h (kX9_set l E (xs (v3 + (1 : Int32)).toNatClampNeg) (xs (v3 + (2 : Int32)).toNatClampNeg) (xs (v3 + (3 : Int32)).toNatClampNeg) w1) (cwV 3 (fun w h => hts0 w (inL_X9_set w h)) gL2_X9_set rfl rfl rfl hdX9_set ⟨Nat.le_of_ble_eq_true rfl, Nat.le_of_ble_eq_true rfl⟩) (fl 99 rfl) rfl rfl rfl rfl hl.1 rfl (Nat.le_of_ble_eq_true rfl) ⟨Nat.le_refl _, Nat.le_refl _⟩ dL_law_252 (fun x1 w2 H locs h hW hS => ?_)
    refine rb_icmp_eq (tgt := 1377) hx hb h dL_law_255 (by decide) (fun h => ?_) (fun h => by cases h)
    exact JN _ _ _ _ (by cases h; exact hg) hW hS hl
  rw [if_neg c1] at h
  by_cases c2 : o9 = 2
  · rw [if_pos c2] at h
    refine lv_tableIn (off := 228) (tgt := 260) hx hb dL_law_32 (by rw [c2]; decide) (by rw [c2]; decide) (by rw [c2]; rfl) (by decide) ?_
    unfold st2 at h
    refine lv_aload_n hx hb dL_law_260 rfl (lv_at hl 1 rfl) ?_
    refine lv_aload_n hx hb dL_law_261 rfl (lv_at hl 0 rfl) ?_
    refine lv_iload_n hx hb dL_law_262 rfl (lv_at hl 3 rfl) ?_
    refine lv_iconst (v := (1 : Int32)) hx hb dL_law_263 (by decide) ?_
    refine lv_iadd hx hb dL_law_264 ?_
    refine va_sld hx hb hX hbl hbA hS hi1 dL_law_265 ?_
    refine lv_aload_n hx hb dL_law_266 rfl (lv_at hl 0 rfl) ?_
    refine lv_iload_n hx hb dL_law_267 rfl (lv_at hl 3 rfl) ?_
    refine lv_iconst (v := (2 : Int32)) hx hb dL_law_268 (by decide) ?_
    refine lv_iadd hx hb dL_law_269 ?_
    refine va_sld hx hb hX hbl hbA hS hi2 dL_law_270 ?_
    refine rc_Vi (k := 0) (As := [.int (xs (v3 + (1 : Int32)).toNatClampNeg), .int (xs (v3 + (2 : Int32)).toNatClampNeg)]) (rest := []) (S_ (inL_X8_height)) hW hS h (kX8_height l E (xs (v3 + (1 : Int32)).toNatClampNeg) (xs (v3 + (2 : Int32)).toNatClampNeg) w) (cwV 2 (fun w h => hts0 w (inL_X8_height w h)) gL2_X8_height rfl rfl rfl hdX8_height ⟨Nat.le_of_ble_eq_true rfl, Nat.le_of_ble_eq_true rfl⟩) (fl 0 rfl) rfl rfl rfl rfl hl.1 rfl (Nat.le_of_ble_eq_true rfl) ⟨Nat.le_refl _, Nat.le_refl _⟩ dL_law_271 (fun x0 w1 H locs h hW hS => ?_)
    refine lv_aload_n hx hb dL_law_274 rfl (lv_at hl 2 rfl) ?_
    refine lv_aload_n hx hb dL_law_275 rfl (lv_at hl 0 rfl) ?_
    refine lv_iload_n hx hb dL_law_276 rfl (lv_at hl 3 rfl) ?_
    refine lv_iconst (v := (1 : Int32)) hx hb dL_law_277 (by decide) ?_
    refine lv_iadd hx hb dL_law_278 ?_
    refine va_sld hx hb hX hbl hbA hS hi1 dL_law_279 ?_
    refine lv_aload_n hx hb dL_law_280 rfl (lv_at hl 0 rfl) ?_
    refine lv_iload_n hx hb dL_law_281 rfl (lv_at hl 3 rfl) ?_
    refine lv_iconst (v := (2 : Int32)) hx hb dL_law_282 (by decide) ?_
    refine lv_iadd hx hb dL_law_283 ?_
    refine va_sld hx hb hX hbl hbA hS hi2 dL_law_284 ?_
    refine rc_Vi (k := 99) (As := [.int (xs (v3 + (1 : Int32)).toNatClampNeg), .int (xs (v3 + (2 : Int32)).toNatClampNeg)]) (rest := [.int x0]) (S_ (inL_X9_height)) hW hS h (kX9_height l E (xs (v3 + (1 : Int32)).toNatClampNeg) (xs (v3 + (2 : Int32)).toNatClampNeg) w1) (cwV 2 (fun w h => hts0 w (inL_X9_height w h)) gL2_X9_height rfl rfl rfl hdX9_height ⟨Nat.le_of_ble_eq_true rfl, Nat.le_of_ble_eq_true rfl⟩) (fl 99 rfl) rfl rfl rfl rfl hl.1 rfl (Nat.le_of_ble_eq_true rfl) ⟨Nat.le_refl _, Nat.le_refl _⟩ dL_law_285 (fun x1 w2 H locs h hW hS => ?_)
    refine rb_icmp_eq (tgt := 1377) hx hb h dL_law_288 (by decide) (fun h => ?_) (fun h => by cases h)
    exact JN _ _ _ _ (by cases h; exact hg) hW hS hl
  rw [if_neg c2] at h
  by_cases c3 : o9 = 3
  · rw [if_pos c3] at h
    refine lv_tableIn (off := 261) (tgt := 293) hx hb dL_law_32 (by rw [c3]; decide) (by rw [c3]; decide) (by rw [c3]; rfl) (by decide) ?_
    unfold st3 at h
    refine lv_aload_n hx hb dL_law_293 rfl (lv_at hl 1 rfl) ?_
    refine lv_aload_n hx hb dL_law_294 rfl (lv_at hl 0 rfl) ?_
    refine lv_iload_n hx hb dL_law_295 rfl (lv_at hl 3 rfl) ?_
    refine lv_iconst (v := (1 : Int32)) hx hb dL_law_296 (by decide) ?_
    refine lv_iadd hx hb dL_law_297 ?_
    refine va_sld hx hb hX hbl hbA hS hi1 dL_law_298 ?_
    refine lv_aload_n hx hb dL_law_299 rfl (lv_at hl 0 rfl) ?_
    refine lv_iload_n hx hb dL_law_300 rfl (lv_at hl 3 rfl) ?_
    refine lv_iconst (v := (2 : Int32)) hx hb dL_law_301 (by decide) ?_
    refine lv_iadd hx hb dL_law_302 ?_
    refine va_sld hx hb hX hbl hbA hS hi2 dL_law_303 ?_
    refine rc_Vi (k := 0) (As := [.int (xs (v3 + (1 : Int32)).toNatClampNeg), .int (xs (v3 + (2 : Int32)).toNatClampNeg)]) (rest := []) (S_ (inL_X8_copy)) hW hS h (kX8_copy l E (xs (v3 + (1 : Int32)).toNatClampNeg) (xs (v3 + (2 : Int32)).toNatClampNeg) w) (cwV 2 (fun w h => hts0 w (inL_X8_copy w h)) gL2_X8_copy rfl rfl rfl hdX8_copy ⟨Nat.le_of_ble_eq_true rfl, Nat.le_of_ble_eq_true rfl⟩) (fl 0 rfl) rfl rfl rfl rfl hl.1 rfl (Nat.le_of_ble_eq_true rfl) ⟨Nat.le_refl _, Nat.le_refl _⟩ dL_law_304 (fun x0 w1 H locs h hW hS => ?_)
    refine lv_aload_n hx hb dL_law_307 rfl (lv_at hl 2 rfl) ?_
    refine lv_aload_n hx hb dL_law_308 rfl (lv_at hl 0 rfl) ?_
    refine lv_iload_n hx hb dL_law_309 rfl (lv_at hl 3 rfl) ?_
    refine lv_iconst (v := (1 : Int32)) hx hb dL_law_310 (by decide) ?_
    refine lv_iadd hx hb dL_law_311 ?_
    refine va_sld hx hb hX hbl hbA hS hi1 dL_law_312 ?_
    refine lv_aload_n hx hb dL_law_313 rfl (lv_at hl 0 rfl) ?_
    refine lv_iload_n hx hb dL_law_314 rfl (lv_at hl 3 rfl) ?_
    refine lv_iconst (v := (2 : Int32)) hx hb dL_law_315 (by decide) ?_
    refine lv_iadd hx hb dL_law_316 ?_
    refine va_sld hx hb hX hbl hbA hS hi2 dL_law_317 ?_
    refine rc_Vi (k := 99) (As := [.int (xs (v3 + (1 : Int32)).toNatClampNeg), .int (xs (v3 + (2 : Int32)).toNatClampNeg)]) (rest := [.int x0]) (S_ (inL_X9_copy)) hW hS h (kX9_copy l E (xs (v3 + (1 : Int32)).toNatClampNeg) (xs (v3 + (2 : Int32)).toNatClampNeg) w1) (cwV 2 (fun w h => hts0 w (inL_X9_copy w h)) gL2_X9_copy rfl rfl rfl hdX9_copy ⟨Nat.le_of_ble_eq_true rfl, Nat.le_of_ble_eq_true rfl⟩) (fl 99 rfl) rfl rfl rfl rfl hl.1 rfl (Nat.le_of_ble_eq_true rfl) ⟨Nat.le_refl _, Nat.le_refl _⟩ dL_law_318 (fun x1 w2 H locs h hW hS => ?_)
    refine rb_icmp_eq (tgt := 1377) hx hb h dL_law_321 (by decide) (fun h => ?_) (fun h => by cases h)
    exact JN _ _ _ _ (by cases h; exact hg) hW hS hl
  rw [if_neg c3] at h
  by_cases c4 : o9 = 4
  · rw [if_pos c4] at h
    refine lv_tableIn (off := 294) (tgt := 326) hx hb dL_law_32 (by rw [c4]; decide) (by rw [c4]; decide) (by rw [c4]; rfl) (by decide) ?_
    unfold st4 at h
    refine lv_aload_n hx hb dL_law_326 rfl (lv_at hl 1 rfl) ?_
    refine lv_aload_n hx hb dL_law_327 rfl (lv_at hl 0 rfl) ?_
    refine lv_iload_n hx hb dL_law_328 rfl (lv_at hl 3 rfl) ?_
    refine lv_iconst (v := (1 : Int32)) hx hb dL_law_329 (by decide) ?_
    refine lv_iadd hx hb dL_law_330 ?_
    refine va_sld hx hb hX hbl hbA hS hi1 dL_law_331 ?_
    refine rc_Vi (k := 0) (As := [.int (xs (v3 + (1 : Int32)).toNatClampNeg)]) (rest := []) (S_ (inL_X8_cubes)) hW hS h (kX8_cubes l E (xs (v3 + (1 : Int32)).toNatClampNeg) w) (cwV 1 (fun w h => hts0 w (inL_X8_cubes w h)) gL2_X8_cubes rfl rfl rfl hdX8_cubes ⟨Nat.le_of_ble_eq_true rfl, Nat.le_of_ble_eq_true rfl⟩) (fl 0 rfl) rfl rfl rfl rfl hl.1 rfl (Nat.le_of_ble_eq_true rfl) ⟨Nat.le_refl _, Nat.le_refl _⟩ dL_law_332 (fun x0 w1 H locs h hW hS => ?_)
    refine lv_aload_n hx hb dL_law_335 rfl (lv_at hl 2 rfl) ?_
    refine lv_aload_n hx hb dL_law_336 rfl (lv_at hl 0 rfl) ?_
    refine lv_iload_n hx hb dL_law_337 rfl (lv_at hl 3 rfl) ?_
    refine lv_iconst (v := (1 : Int32)) hx hb dL_law_338 (by decide) ?_
    refine lv_iadd hx hb dL_law_339 ?_
    refine va_sld hx hb hX hbl hbA hS hi1 dL_law_340 ?_
    refine rc_Vi (k := 99) (As := [.int (xs (v3 + (1 : Int32)).toNatClampNeg)]) (rest := [.int x0]) (S_ (inL_X9_cubes)) hW hS h (kX9_cubes l E (xs (v3 + (1 : Int32)).toNatClampNeg) w1) (cwV 1 (fun w h => hts0 w (inL_X9_cubes w h)) gL2_X9_cubes rfl rfl rfl hdX9_cubes ⟨Nat.le_of_ble_eq_true rfl, Nat.le_of_ble_eq_true rfl⟩) (fl 99 rfl) rfl rfl rfl rfl hl.1 rfl (Nat.le_of_ble_eq_true rfl) ⟨Nat.le_refl _, Nat.le_refl _⟩ dL_law_341 (fun x1 w2 H locs h hW hS => ?_)
    refine rb_icmp_eq (tgt := 1377) hx hb h dL_law_344 (by decide) (fun h => ?_) (fun h => by cases h)
    exact JN _ _ _ _ (by cases h; exact hg) hW hS hl
  rw [if_neg c4] at h
  by_cases c5 : o9 = 5
  · rw [if_pos c5] at h
    refine lv_tableIn (off := 317) (tgt := 349) hx hb dL_law_32 (by rw [c5]; decide) (by rw [c5]; decide) (by rw [c5]; rfl) (by decide) ?_
    unfold st5 at h
    refine lv_aload_n hx hb dL_law_349 rfl (lv_at hl 1 rfl) ?_
    refine lv_aload_n hx hb dL_law_350 rfl (lv_at hl 0 rfl) ?_
    refine lv_iload_n hx hb dL_law_351 rfl (lv_at hl 3 rfl) ?_
    refine lv_iconst (v := (1 : Int32)) hx hb dL_law_352 (by decide) ?_
    refine lv_iadd hx hb dL_law_353 ?_
    refine va_sld hx hb hX hbl hbA hS hi1 dL_law_354 ?_
    refine lv_aload_n hx hb dL_law_355 rfl (lv_at hl 0 rfl) ?_
    refine lv_iload_n hx hb dL_law_356 rfl (lv_at hl 3 rfl) ?_
    refine lv_iconst (v := (2 : Int32)) hx hb dL_law_357 (by decide) ?_
    refine lv_iadd hx hb dL_law_358 ?_
    refine va_sld hx hb hX hbl hbA hS hi2 dL_law_359 ?_
    refine rc_Vi (k := 0) (As := [.int (xs (v3 + (1 : Int32)).toNatClampNeg), .int (xs (v3 + (2 : Int32)).toNatClampNeg)]) (rest := []) (S_ (inL_X8_front)) hW hS h (kX8_front l E (xs (v3 + (1 : Int32)).toNatClampNeg) (xs (v3 + (2 : Int32)).toNatClampNeg) w) (cwV 2 (fun w h => hts0 w (inL_X8_front w h)) gL2_X8_front rfl rfl rfl hdX8_front ⟨Nat.le_of_ble_eq_true rfl, Nat.le_of_ble_eq_true rfl⟩) (fl 0 rfl) rfl rfl rfl rfl hl.1 rfl (Nat.le_of_ble_eq_true rfl) ⟨Nat.le_refl _, Nat.le_refl _⟩ dL_law_360 (fun x0 w1 H locs h hW hS => ?_)
    refine lv_aload_n hx hb dL_law_363 rfl (lv_at hl 2 rfl) ?_
    refine lv_aload_n hx hb dL_law_364 rfl (lv_at hl 0 rfl) ?_
    refine lv_iload_n hx hb dL_law_365 rfl (lv_at hl 3 rfl) ?_
    refine lv_iconst (v := (1 : Int32)) hx hb dL_law_366 (by decide) ?_
    refine lv_iadd hx hb dL_law_367 ?_
    refine va_sld hx hb hX hbl hbA hS hi1 dL_law_368 ?_
    refine lv_aload_n hx hb dL_law_369 rfl (lv_at hl 0 rfl) ?_
    refine lv_iload_n hx hb dL_law_370 rfl (lv_at hl 3 rfl) ?_
    refine lv_iconst (v := (2 : Int32)) hx hb dL_law_371 (by decide) ?_
    refine lv_iadd hx hb dL_law_372 ?_
    refine va_sld hx hb hX hbl hbA hS hi2 dL_law_373 ?_
    refine rc_Vi (k := 99) (As := [.int (xs (v3 + (1 : Int32)).toNatClampNeg), .int (xs (v3 + (2 : Int32)).toNatClampNeg)]) (rest := [.int x0]) (S_ (inL_X9_front)) hW hS h (kX9_front l E (xs (v3 + (1 : Int32)).toNatClampNeg) (xs (v3 + (2 : Int32)).toNatClampNeg) w1) (cwV 2 (fun w h => hts0 w (inL_X9_front w h)) gL2_X9_front rfl rfl rfl hdX9_front ⟨Nat.le_of_ble_eq_true rfl, Nat.le_of_ble_eq_true rfl⟩) (fl 99 rfl) rfl rfl rfl rfl hl.1 rfl (Nat.le_of_ble_eq_true rfl) ⟨Nat.le_refl _, Nat.le_refl _⟩ dL_law_374 (fun x1 w2 H locs h hW hS => ?_)
    refine rb_icmp_eq (tgt := 1377) hx hb h dL_law_377 (by decide) (fun h => ?_) (fun h => by cases h)
    exact JN _ _ _ _ (by cases h; exact hg) hW hS hl
  rw [if_neg c5] at h
  by_cases c6 : o9 = 6
  · rw [if_pos c6] at h
    refine lv_tableIn (off := 350) (tgt := 382) hx hb dL_law_32 (by rw [c6]; decide) (by rw [c6]; decide) (by rw [c6]; rfl) (by decide) ?_
    unfold st6 at h
    refine lv_aload_n hx hb dL_law_382 rfl (lv_at hl 1 rfl) ?_
    refine lv_aload_n hx hb dL_law_383 rfl (lv_at hl 0 rfl) ?_
    refine lv_iload_n hx hb dL_law_384 rfl (lv_at hl 3 rfl) ?_
    refine lv_iconst (v := (1 : Int32)) hx hb dL_law_385 (by decide) ?_
    refine lv_iadd hx hb dL_law_386 ?_
    refine va_sld hx hb hX hbl hbA hS hi1 dL_law_387 ?_
    refine lv_aload_n hx hb dL_law_388 rfl (lv_at hl 0 rfl) ?_
    refine lv_iload_n hx hb dL_law_389 rfl (lv_at hl 3 rfl) ?_
    refine lv_iconst (v := (2 : Int32)) hx hb dL_law_390 (by decide) ?_
    refine lv_iadd hx hb dL_law_391 ?_
    refine va_sld hx hb hX hbl hbA hS hi2 dL_law_392 ?_
    refine rc_Vi (k := 0) (As := [.int (xs (v3 + (1 : Int32)).toNatClampNeg), .int (xs (v3 + (2 : Int32)).toNatClampNeg)]) (rest := []) (S_ (inL_X8_side)) hW hS h (kX8_side l E (xs (v3 + (1 : Int32)).toNatClampNeg) (xs (v3 + (2 : Int32)).toNatClampNeg) w) (cwV 2 (fun w h => hts0 w (inL_X8_side w h)) gL2_X8_side rfl rfl rfl hdX8_side ⟨Nat.le_of_ble_eq_true rfl, Nat.le_of_ble_eq_true rfl⟩) (fl 0 rfl) rfl rfl rfl rfl hl.1 rfl (Nat.le_of_ble_eq_true rfl) ⟨Nat.le_refl _, Nat.le_refl _⟩ dL_law_393 (fun x0 w1 H locs h hW hS => ?_)
    refine lv_aload_n hx hb dL_law_396 rfl (lv_at hl 2 rfl) ?_
    refine lv_aload_n hx hb dL_law_397 rfl (lv_at hl 0 rfl) ?_
    refine lv_iload_n hx hb dL_law_398 rfl (lv_at hl 3 rfl) ?_
    refine lv_iconst (v := (1 : Int32)) hx hb dL_law_399 (by decide) ?_
    refine lv_iadd hx hb dL_law_400 ?_
    refine va_sld hx hb hX hbl hbA hS hi1 dL_law_401 ?_
    refine lv_aload_n hx hb dL_law_402 rfl (lv_at hl 0 rfl) ?_
    refine lv_iload_n hx hb dL_law_403 rfl (lv_at hl 3 rfl) ?_
    refine lv_iconst (v := (2 : Int32)) hx hb dL_law_404 (by decide) ?_
    refine lv_iadd hx hb dL_law_405 ?_
    refine va_sld hx hb hX hbl hbA hS hi2 dL_law_406 ?_
    refine rc_Vi (k := 99) (As := [.int (xs (v3 + (1 : Int32)).toNatClampNeg), .int (xs (v3 + (2 : Int32)).toNatClampNeg)]) (rest := [.int x0]) (S_ (inL_X9_side)) hW hS h (kX9_side l E (xs (v3 + (1 : Int32)).toNatClampNeg) (xs (v3 + (2 : Int32)).toNatClampNeg) w1) (cwV 2 (fun w h => hts0 w (inL_X9_side w h)) gL2_X9_side rfl rfl rfl hdX9_side ⟨Nat.le_of_ble_eq_true rfl, Nat.le_of_ble_eq_true rfl⟩) (fl 99 rfl) rfl rfl rfl rfl hl.1 rfl (Nat.le_of_ble_eq_true rfl) ⟨Nat.le_refl _, Nat.le_refl _⟩ dL_law_407 (fun x1 w2 H locs h hW hS => ?_)
    refine rb_icmp_eq (tgt := 1377) hx hb h dL_law_410 (by decide) (fun h => ?_) (fun h => by cases h)
    exact JN _ _ _ _ (by cases h; exact hg) hW hS hl
  rw [if_neg c6] at h
  by_cases c7 : o9 = 7
  · rw [if_pos c7] at h
    refine lv_tableIn (off := 383) (tgt := 415) hx hb dL_law_32 (by rw [c7]; decide) (by rw [c7]; decide) (by rw [c7]; rfl) (by decide) ?_
    unfold st7 at h
    refine lv_aload_n hx hb dL_law_415 rfl (lv_at hl 1 rfl) ?_
    refine lv_aload_n hx hb dL_law_416 rfl (lv_at hl 0 rfl) ?_
    refine lv_iload_n hx hb dL_law_417 rfl (lv_at hl 3 rfl) ?_
    refine lv_iconst (v := (1 : Int32)) hx hb dL_law_418 (by decide) ?_
    refine lv_iadd hx hb dL_law_419 ?_
    refine va_sld hx hb hX hbl hbA hS hi1 dL_law_420 ?_
    refine lv_aload_n hx hb dL_law_421 rfl (lv_at hl 0 rfl) ?_
    refine lv_iload_n hx hb dL_law_422 rfl (lv_at hl 3 rfl) ?_
    refine lv_iconst (v := (2 : Int32)) hx hb dL_law_423 (by decide) ?_
    refine lv_iadd hx hb dL_law_424 ?_
    refine va_sld hx hb hX hbl hbA hS hi2 dL_law_425 ?_
    refine lv_if_eq (tgt := 433) hx hb dL_law_426 (by decide) (fun hz0 => ?_) (fun hz0 => ?_)
    · have hb0 : bz (xs (v3 + (2 : Int32)).toNatClampNeg) = (0 : Int32) := if_pos hz0
      rw [hb0] at h
      refine lv_iconst (v := (0 : Int32)) hx hb dL_law_433 (by decide) ?_
      refine lv_aload_n hx hb dL_law_434 rfl (lv_at hl 0 rfl) ?_
      refine lv_iload_n hx hb dL_law_435 rfl (lv_at hl 3 rfl) ?_
      refine lv_iconst (v := (3 : Int32)) hx hb dL_law_436 (by decide) ?_
      refine lv_iadd hx hb dL_law_437 ?_
      refine va_sld hx hb hX hbl hbA hS hi3 dL_law_438 ?_
      refine rc_Vi (k := 0) (As := [.int (xs (v3 + (1 : Int32)).toNatClampNeg), .int (0 : Int32), .int (xs (v3 + (3 : Int32)).toNatClampNeg)]) (rest := []) (S_ (inL_X8_sum)) hW hS h (kX8_sum l E (xs (v3 + (1 : Int32)).toNatClampNeg) (0 : Int32) (xs (v3 + (3 : Int32)).toNatClampNeg) w) (cwV 3 (fun w h => hts0 w (inL_X8_sum w h)) gL2_X8_sum rfl rfl rfl hdX8_sum ⟨Nat.le_of_ble_eq_true rfl, Nat.le_of_ble_eq_true rfl⟩) (fl 0 rfl) rfl rfl rfl rfl hl.1 rfl (Nat.le_of_ble_eq_true rfl) ⟨Nat.le_refl _, Nat.le_refl _⟩ dL_law_439 (fun x0 w1 H locs h hW hS => ?_)
      refine lv_aload_n hx hb dL_law_442 rfl (lv_at hl 2 rfl) ?_
      refine lv_aload_n hx hb dL_law_443 rfl (lv_at hl 0 rfl) ?_
      refine lv_iload_n hx hb dL_law_444 rfl (lv_at hl 3 rfl) ?_
      refine lv_iconst (v := (1 : Int32)) hx hb dL_law_445 (by decide) ?_
      refine lv_iadd hx hb dL_law_446 ?_
      refine va_sld hx hb hX hbl hbA hS hi1 dL_law_447 ?_
      refine lv_aload_n hx hb dL_law_448 rfl (lv_at hl 0 rfl) ?_
      refine lv_iload_n hx hb dL_law_449 rfl (lv_at hl 3 rfl) ?_
      refine lv_iconst (v := (2 : Int32)) hx hb dL_law_450 (by decide) ?_
      refine lv_iadd hx hb dL_law_451 ?_
      refine va_sld hx hb hX hbl hbA hS hi2 dL_law_452 ?_
      refine lv_if_eq (tgt := 460) hx hb dL_law_453 (by decide) (fun z => ?_) (fun z => ?_)
      · refine lv_iconst (v := (0 : Int32)) hx hb dL_law_460 (by decide) ?_
        refine lv_aload_n hx hb dL_law_461 rfl (lv_at hl 0 rfl) ?_
        refine lv_iload_n hx hb dL_law_462 rfl (lv_at hl 3 rfl) ?_
        refine lv_iconst (v := (3 : Int32)) hx hb dL_law_463 (by decide) ?_
        refine lv_iadd hx hb dL_law_464 ?_
        refine va_sld hx hb hX hbl hbA hS hi3 dL_law_465 ?_
        refine rc_Vi (k := 99) (As := [.int (xs (v3 + (1 : Int32)).toNatClampNeg), .int (0 : Int32), .int (xs (v3 + (3 : Int32)).toNatClampNeg)]) (rest := [.int x0]) (S_ (inL_X9_sum)) hW hS h (kX9_sum l E (xs (v3 + (1 : Int32)).toNatClampNeg) (0 : Int32) (xs (v3 + (3 : Int32)).toNatClampNeg) w1) (cwV 3 (fun w h => hts0 w (inL_X9_sum w h)) gL2_X9_sum rfl rfl rfl hdX9_sum ⟨Nat.le_of_ble_eq_true rfl, Nat.le_of_ble_eq_true rfl⟩) (fl 99 rfl) rfl rfl rfl rfl hl.1 rfl (Nat.le_of_ble_eq_true rfl) ⟨Nat.le_refl _, Nat.le_refl _⟩ dL_law_466 (fun x1 w2 H locs h hW hS => ?_)
        refine rb_icmp_eq (tgt := 1377) hx hb h dL_law_469 (by decide) (fun h => ?_) (fun h => by cases h)
        exact JN _ _ _ _ (by cases h; exact hg) hW hS hl
      · exact absurd hz0 z
    · have hb0 : bz (xs (v3 + (2 : Int32)).toNatClampNeg) = (1 : Int32) := if_neg hz0
      rw [hb0] at h
      refine lv_iconst (v := (1 : Int32)) hx hb dL_law_429 (by decide) ?_
      refine lv_goto (tgt := 434) hx hb dL_law_430 (by decide) ?_
      refine lv_aload_n hx hb dL_law_434 rfl (lv_at hl 0 rfl) ?_
      refine lv_iload_n hx hb dL_law_435 rfl (lv_at hl 3 rfl) ?_
      refine lv_iconst (v := (3 : Int32)) hx hb dL_law_436 (by decide) ?_
      refine lv_iadd hx hb dL_law_437 ?_
      refine va_sld hx hb hX hbl hbA hS hi3 dL_law_438 ?_
      refine rc_Vi (k := 0) (As := [.int (xs (v3 + (1 : Int32)).toNatClampNeg), .int (1 : Int32), .int (xs (v3 + (3 : Int32)).toNatClampNeg)]) (rest := []) (S_ (inL_X8_sum)) hW hS h (kX8_sum l E (xs (v3 + (1 : Int32)).toNatClampNeg) (1 : Int32) (xs (v3 + (3 : Int32)).toNatClampNeg) w) (cwV 3 (fun w h => hts0 w (inL_X8_sum w h)) gL2_X8_sum rfl rfl rfl hdX8_sum ⟨Nat.le_of_ble_eq_true rfl, Nat.le_of_ble_eq_true rfl⟩) (fl 0 rfl) rfl rfl rfl rfl hl.1 rfl (Nat.le_of_ble_eq_true rfl) ⟨Nat.le_refl _, Nat.le_refl _⟩ dL_law_439 (fun x0 w1 H locs h hW hS => ?_)
      refine lv_aload_n hx hb dL_law_442 rfl (lv_at hl 2 rfl) ?_
      refine lv_aload_n hx hb dL_law_443 rfl (lv_at hl 0 rfl) ?_
      refine lv_iload_n hx hb dL_law_444 rfl (lv_at hl 3 rfl) ?_
      refine lv_iconst (v := (1 : Int32)) hx hb dL_law_445 (by decide) ?_
      refine lv_iadd hx hb dL_law_446 ?_
      refine va_sld hx hb hX hbl hbA hS hi1 dL_law_447 ?_
      refine lv_aload_n hx hb dL_law_448 rfl (lv_at hl 0 rfl) ?_
      refine lv_iload_n hx hb dL_law_449 rfl (lv_at hl 3 rfl) ?_
      refine lv_iconst (v := (2 : Int32)) hx hb dL_law_450 (by decide) ?_
      refine lv_iadd hx hb dL_law_451 ?_
      refine va_sld hx hb hX hbl hbA hS hi2 dL_law_452 ?_
      refine lv_if_eq (tgt := 460) hx hb dL_law_453 (by decide) (fun z => ?_) (fun z => ?_)
      · exact absurd z hz0
      · refine lv_iconst (v := (1 : Int32)) hx hb dL_law_456 (by decide) ?_
        refine lv_goto (tgt := 461) hx hb dL_law_457 (by decide) ?_
        refine lv_aload_n hx hb dL_law_461 rfl (lv_at hl 0 rfl) ?_
        refine lv_iload_n hx hb dL_law_462 rfl (lv_at hl 3 rfl) ?_
        refine lv_iconst (v := (3 : Int32)) hx hb dL_law_463 (by decide) ?_
        refine lv_iadd hx hb dL_law_464 ?_
        refine va_sld hx hb hX hbl hbA hS hi3 dL_law_465 ?_
        refine rc_Vi (k := 99) (As := [.int (xs (v3 + (1 : Int32)).toNatClampNeg), .int (1 : Int32), .int (xs (v3 + (3 : Int32)).toNatClampNeg)]) (rest := [.int x0]) (S_ (inL_X9_sum)) hW hS h (kX9_sum l E (xs (v3 + (1 : Int32)).toNatClampNeg) (1 : Int32) (xs (v3 + (3 : Int32)).toNatClampNeg) w1) (cwV 3 (fun w h => hts0 w (inL_X9_sum w h)) gL2_X9_sum rfl rfl rfl hdX9_sum ⟨Nat.le_of_ble_eq_true rfl, Nat.le_of_ble_eq_true rfl⟩) (fl 99 rfl) rfl rfl rfl rfl hl.1 rfl (Nat.le_of_ble_eq_true rfl) ⟨Nat.le_refl _, Nat.le_refl _⟩ dL_law_466 (fun x1 w2 H locs h hW hS => ?_)
        refine rb_icmp_eq (tgt := 1377) hx hb h dL_law_469 (by decide) (fun h => ?_) (fun h => by cases h)
        exact JN _ _ _ _ (by cases h; exact hg) hW hS hl
  rw [if_neg c7] at h
  by_cases c8 : o9 = 8
  · rw [if_pos c8] at h
    refine lv_tableIn (off := 442) (tgt := 474) hx hb dL_law_32 (by rw [c8]; decide) (by rw [c8]; decide) (by rw [c8]; rfl) (by decide) ?_
    unfold st8 at h
    refine lv_aload_n hx hb dL_law_474 rfl (lv_at hl 1 rfl) ?_
    refine lv_aload_n hx hb dL_law_475 rfl (lv_at hl 0 rfl) ?_
    refine lv_iload_n hx hb dL_law_476 rfl (lv_at hl 3 rfl) ?_
    refine lv_iconst (v := (1 : Int32)) hx hb dL_law_477 (by decide) ?_
    refine lv_iadd hx hb dL_law_478 ?_
    refine va_sld hx hb hX hbl hbA hS hi1 dL_law_479 ?_
    refine lv_aload_n hx hb dL_law_480 rfl (lv_at hl 0 rfl) ?_
    refine lv_iload_n hx hb dL_law_481 rfl (lv_at hl 3 rfl) ?_
    refine lv_iconst (v := (2 : Int32)) hx hb dL_law_482 (by decide) ?_
    refine lv_iadd hx hb dL_law_483 ?_
    refine va_sld hx hb hX hbl hbA hS hi2 dL_law_484 ?_
    refine lv_aload_n hx hb dL_law_485 rfl (lv_at hl 0 rfl) ?_
    refine lv_iload_n hx hb dL_law_486 rfl (lv_at hl 3 rfl) ?_
    refine lv_iconst (v := (3 : Int32)) hx hb dL_law_487 (by decide) ?_
    refine lv_iadd hx hb dL_law_488 ?_
    refine va_sld hx hb hX hbl hbA hS hi3 dL_law_489 ?_
    refine rc_Vi (k := 0) (As := [.int (xs (v3 + (1 : Int32)).toNatClampNeg), .int (xs (v3 + (2 : Int32)).toNatClampNeg), .int (xs (v3 + (3 : Int32)).toNatClampNeg)]) (rest := []) (S_ (inL_X8_seen)) hW hS h (kX8_seen l E (xs (v3 + (1 : Int32)).toNatClampNeg) (xs (v3 + (2 : Int32)).toNatClampNeg) (xs (v3 + (3 : Int32)).toNatClampNeg) w) (cwV 3 (fun w h => hts0 w (inL_X8_seen w h)) gL2_X8_seen rfl rfl rfl hdX8_seen ⟨Nat.le_of_ble_eq_true rfl, Nat.le_of_ble_eq_true rfl⟩) (fl 0 rfl) rfl rfl rfl rfl hl.1 rfl (Nat.le_of_ble_eq_true rfl) ⟨Nat.le_refl _, Nat.le_refl _⟩ dL_law_490 (fun x0 w1 H locs h hW hS => ?_)
    refine lv_aload_n hx hb dL_law_493 rfl (lv_at hl 2 rfl) ?_
    refine lv_aload_n hx hb dL_law_494 rfl (lv_at hl 0 rfl) ?_
    refine lv_iload_n hx hb dL_law_495 rfl (lv_at hl 3 rfl) ?_
    refine lv_iconst (v := (1 : Int32)) hx hb dL_law_496 (by decide) ?_
    refine lv_iadd hx hb dL_law_497 ?_
    refine va_sld hx hb hX hbl hbA hS hi1 dL_law_498 ?_
    refine lv_aload_n hx hb dL_law_499 rfl (lv_at hl 0 rfl) ?_
    refine lv_iload_n hx hb dL_law_500 rfl (lv_at hl 3 rfl) ?_
    refine lv_iconst (v := (2 : Int32)) hx hb dL_law_501 (by decide) ?_
    refine lv_iadd hx hb dL_law_502 ?_
    refine va_sld hx hb hX hbl hbA hS hi2 dL_law_503 ?_
    refine lv_aload_n hx hb dL_law_504 rfl (lv_at hl 0 rfl) ?_
    refine lv_iload_n hx hb dL_law_505 rfl (lv_at hl 3 rfl) ?_
    refine lv_iconst (v := (3 : Int32)) hx hb dL_law_506 (by decide) ?_
    refine lv_iadd hx hb dL_law_507 ?_
    refine va_sld hx hb hX hbl hbA hS hi3 dL_law_508 ?_
    refine rc_Vi (k := 99) (As := [.int (xs (v3 + (1 : Int32)).toNatClampNeg), .int (xs (v3 + (2 : Int32)).toNatClampNeg), .int (xs (v3 + (3 : Int32)).toNatClampNeg)]) (rest := [.int x0]) (S_ (inL_X9_seen)) hW hS h (kX9_seen l E (xs (v3 + (1 : Int32)).toNatClampNeg) (xs (v3 + (2 : Int32)).toNatClampNeg) (xs (v3 + (3 : Int32)).toNatClampNeg) w1) (cwV 3 (fun w h => hts0 w (inL_X9_seen w h)) gL2_X9_seen rfl rfl rfl hdX9_seen ⟨Nat.le_of_ble_eq_true rfl, Nat.le_of_ble_eq_true rfl⟩) (fl 99 rfl) rfl rfl rfl rfl hl.1 rfl (Nat.le_of_ble_eq_true rfl) ⟨Nat.le_refl _, Nat.le_refl _⟩ dL_law_509 (fun x1 w2 H locs h hW hS => ?_)
    refine rb_icmp_eq (tgt := 1377) hx hb h dL_law_512 (by decide) (fun h => ?_) (fun h => by cases h)
    exact JN _ _ _ _ (by cases h; exact hg) hW hS hl
  rw [if_neg c8] at h
  by_cases c9 : o9 = 9
  · rw [if_pos c9] at h
    refine lv_tableIn (off := 485) (tgt := 517) hx hb dL_law_32 (by rw [c9]; decide) (by rw [c9]; decide) (by rw [c9]; rfl) (by decide) ?_
    unfold st9 at h
    refine lv_aload_n hx hb dL_law_517 rfl (lv_at hl 1 rfl) ?_
    refine lv_aload_n hx hb dL_law_518 rfl (lv_at hl 0 rfl) ?_
    refine lv_iload_n hx hb dL_law_519 rfl (lv_at hl 3 rfl) ?_
    refine lv_iconst (v := (1 : Int32)) hx hb dL_law_520 (by decide) ?_
    refine lv_iadd hx hb dL_law_521 ?_
    refine va_sld hx hb hX hbl hbA hS hi1 dL_law_522 ?_
    refine rc_Vi (k := 0) (As := [.int (xs (v3 + (1 : Int32)).toNatClampNeg)]) (rest := []) (S_ (inL_X8_skin)) hW hS h (kX8_skin l E (xs (v3 + (1 : Int32)).toNatClampNeg) w) (cwV 1 (fun w h => hts0 w (inL_X8_skin w h)) gL2_X8_skin rfl rfl rfl hdX8_skin ⟨Nat.le_of_ble_eq_true rfl, Nat.le_of_ble_eq_true rfl⟩) (fl 0 rfl) rfl rfl rfl rfl hl.1 rfl (Nat.le_of_ble_eq_true rfl) ⟨Nat.le_refl _, Nat.le_refl _⟩ dL_law_523 (fun x0 w1 H locs h hW hS => ?_)
    refine lv_aload_n hx hb dL_law_526 rfl (lv_at hl 2 rfl) ?_
    refine lv_aload_n hx hb dL_law_527 rfl (lv_at hl 0 rfl) ?_
    refine lv_iload_n hx hb dL_law_528 rfl (lv_at hl 3 rfl) ?_
    refine lv_iconst (v := (1 : Int32)) hx hb dL_law_529 (by decide) ?_
    refine lv_iadd hx hb dL_law_530 ?_
    refine va_sld hx hb hX hbl hbA hS hi1 dL_law_531 ?_
    refine rc_Vi (k := 99) (As := [.int (xs (v3 + (1 : Int32)).toNatClampNeg)]) (rest := [.int x0]) (S_ (inL_X9_skin)) hW hS h (kX9_skin l E (xs (v3 + (1 : Int32)).toNatClampNeg) w1) (cwV 1 (fun w h => hts0 w (inL_X9_skin w h)) gL2_X9_skin rfl rfl rfl hdX9_skin ⟨Nat.le_of_ble_eq_true rfl, Nat.le_of_ble_eq_true rfl⟩) (fl 99 rfl) rfl rfl rfl rfl hl.1 rfl (Nat.le_of_ble_eq_true rfl) ⟨Nat.le_refl _, Nat.le_refl _⟩ dL_law_532 (fun x1 w2 H locs h hW hS => ?_)
    refine rb_icmp_eq (tgt := 1377) hx hb h dL_law_535 (by decide) (fun h => ?_) (fun h => by cases h)
    exact JN _ _ _ _ (by cases h; exact hg) hW hS hl
  rw [if_neg c9] at h
  by_cases c10 : o9 = 10
  · rw [if_pos c10] at h
    refine lv_tableIn (off := 508) (tgt := 540) hx hb dL_law_32 (by rw [c10]; decide) (by rw [c10]; decide) (by rw [c10]; rfl) (by decide) ?_
    unfold st10 at h
    refine lv_aload_n hx hb dL_law_540 rfl (lv_at hl 1 rfl) ?_
    refine lv_aload_n hx hb dL_law_541 rfl (lv_at hl 0 rfl) ?_
    refine lv_iload_n hx hb dL_law_542 rfl (lv_at hl 3 rfl) ?_
    refine lv_iconst (v := (1 : Int32)) hx hb dL_law_543 (by decide) ?_
    refine lv_iadd hx hb dL_law_544 ?_
    refine va_sld hx hb hX hbl hbA hS hi1 dL_law_545 ?_
    refine lv_aload_n hx hb dL_law_546 rfl (lv_at hl 0 rfl) ?_
    refine lv_iload_n hx hb dL_law_547 rfl (lv_at hl 3 rfl) ?_
    refine lv_iconst (v := (2 : Int32)) hx hb dL_law_548 (by decide) ?_
    refine lv_iadd hx hb dL_law_549 ?_
    refine va_sld hx hb hX hbl hbA hS hi2 dL_law_550 ?_
    refine lv_aload_n hx hb dL_law_551 rfl (lv_at hl 0 rfl) ?_
    refine lv_iload_n hx hb dL_law_552 rfl (lv_at hl 3 rfl) ?_
    refine lv_iconst (v := (3 : Int32)) hx hb dL_law_553 (by decide) ?_
    refine lv_iadd hx hb dL_law_554 ?_
    refine va_sld hx hb hX hbl hbA hS hi3 dL_law_555 ?_
    refine lv_if_eq (tgt := 563) hx hb dL_law_556 (by decide) (fun hz0 => ?_) (fun hz0 => ?_)
    · have hb0 : bz (xs (v3 + (3 : Int32)).toNatClampNeg) = (0 : Int32) := if_pos hz0
      rw [hb0] at h
      refine lv_iconst (v := (0 : Int32)) hx hb dL_law_563 (by decide) ?_
      refine rc_Vi (k := 0) (As := [.int (xs (v3 + (1 : Int32)).toNatClampNeg), .int (xs (v3 + (2 : Int32)).toNatClampNeg), .int (0 : Int32)]) (rest := []) (S_ (inL_X8_layer)) hW hS h (kX8_layer l E (xs (v3 + (1 : Int32)).toNatClampNeg) (xs (v3 + (2 : Int32)).toNatClampNeg) (0 : Int32) w) (cwV 3 (fun w h => hts0 w (inL_X8_layer w h)) gL2_X8_layer rfl rfl rfl hdX8_layer ⟨Nat.le_of_ble_eq_true rfl, Nat.le_of_ble_eq_true rfl⟩) (fl 0 rfl) rfl rfl rfl rfl hl.1 rfl (Nat.le_of_ble_eq_true rfl) ⟨Nat.le_refl _, Nat.le_refl _⟩ dL_law_564 (fun x0 w1 H locs h hW hS => ?_)
      refine lv_aload_n hx hb dL_law_567 rfl (lv_at hl 2 rfl) ?_
      refine lv_aload_n hx hb dL_law_568 rfl (lv_at hl 0 rfl) ?_
      refine lv_iload_n hx hb dL_law_569 rfl (lv_at hl 3 rfl) ?_
      refine lv_iconst (v := (1 : Int32)) hx hb dL_law_570 (by decide) ?_
      refine lv_iadd hx hb dL_law_571 ?_
      refine va_sld hx hb hX hbl hbA hS hi1 dL_law_572 ?_
      refine lv_aload_n hx hb dL_law_573 rfl (lv_at hl 0 rfl) ?_
      refine lv_iload_n hx hb dL_law_574 rfl (lv_at hl 3 rfl) ?_
      refine lv_iconst (v := (2 : Int32)) hx hb dL_law_575 (by decide) ?_
      refine lv_iadd hx hb dL_law_576 ?_
      refine va_sld hx hb hX hbl hbA hS hi2 dL_law_577 ?_
      refine lv_aload_n hx hb dL_law_578 rfl (lv_at hl 0 rfl) ?_
      refine lv_iload_n hx hb dL_law_579 rfl (lv_at hl 3 rfl) ?_
      refine lv_iconst (v := (3 : Int32)) hx hb dL_law_580 (by decide) ?_
      refine lv_iadd hx hb dL_law_581 ?_
      refine va_sld hx hb hX hbl hbA hS hi3 dL_law_582 ?_
      refine lv_if_eq (tgt := 590) hx hb dL_law_583 (by decide) (fun z => ?_) (fun z => ?_)
      · refine lv_iconst (v := (0 : Int32)) hx hb dL_law_590 (by decide) ?_
        refine rc_Vi (k := 99) (As := [.int (xs (v3 + (1 : Int32)).toNatClampNeg), .int (xs (v3 + (2 : Int32)).toNatClampNeg), .int (0 : Int32)]) (rest := [.int x0]) (S_ (inL_X9_layer)) hW hS h (kX9_layer l E (xs (v3 + (1 : Int32)).toNatClampNeg) (xs (v3 + (2 : Int32)).toNatClampNeg) (0 : Int32) w1) (cwV 3 (fun w h => hts0 w (inL_X9_layer w h)) gL2_X9_layer rfl rfl rfl hdX9_layer ⟨Nat.le_of_ble_eq_true rfl, Nat.le_of_ble_eq_true rfl⟩) (fl 99 rfl) rfl rfl rfl rfl hl.1 rfl (Nat.le_of_ble_eq_true rfl) ⟨Nat.le_refl _, Nat.le_refl _⟩ dL_law_591 (fun x1 w2 H locs h hW hS => ?_)
        refine rb_icmp_eq (tgt := 1377) hx hb h dL_law_594 (by decide) (fun h => ?_) (fun h => by cases h)
        exact JN _ _ _ _ (by cases h; exact hg) hW hS hl
      · exact absurd hz0 z
    · have hb0 : bz (xs (v3 + (3 : Int32)).toNatClampNeg) = (1 : Int32) := if_neg hz0
      rw [hb0] at h
      refine lv_iconst (v := (1 : Int32)) hx hb dL_law_559 (by decide) ?_
      refine lv_goto (tgt := 564) hx hb dL_law_560 (by decide) ?_
      refine rc_Vi (k := 0) (As := [.int (xs (v3 + (1 : Int32)).toNatClampNeg), .int (xs (v3 + (2 : Int32)).toNatClampNeg), .int (1 : Int32)]) (rest := []) (S_ (inL_X8_layer)) hW hS h (kX8_layer l E (xs (v3 + (1 : Int32)).toNatClampNeg) (xs (v3 + (2 : Int32)).toNatClampNeg) (1 : Int32) w) (cwV 3 (fun w h => hts0 w (inL_X8_layer w h)) gL2_X8_layer rfl rfl rfl hdX8_layer ⟨Nat.le_of_ble_eq_true rfl, Nat.le_of_ble_eq_true rfl⟩) (fl 0 rfl) rfl rfl rfl rfl hl.1 rfl (Nat.le_of_ble_eq_true rfl) ⟨Nat.le_refl _, Nat.le_refl _⟩ dL_law_564 (fun x0 w1 H locs h hW hS => ?_)
      refine lv_aload_n hx hb dL_law_567 rfl (lv_at hl 2 rfl) ?_
      refine lv_aload_n hx hb dL_law_568 rfl (lv_at hl 0 rfl) ?_
      refine lv_iload_n hx hb dL_law_569 rfl (lv_at hl 3 rfl) ?_
      refine lv_iconst (v := (1 : Int32)) hx hb dL_law_570 (by decide) ?_
      refine lv_iadd hx hb dL_law_571 ?_
      refine va_sld hx hb hX hbl hbA hS hi1 dL_law_572 ?_
      refine lv_aload_n hx hb dL_law_573 rfl (lv_at hl 0 rfl) ?_
      refine lv_iload_n hx hb dL_law_574 rfl (lv_at hl 3 rfl) ?_
      refine lv_iconst (v := (2 : Int32)) hx hb dL_law_575 (by decide) ?_
      refine lv_iadd hx hb dL_law_576 ?_
      refine va_sld hx hb hX hbl hbA hS hi2 dL_law_577 ?_
      refine lv_aload_n hx hb dL_law_578 rfl (lv_at hl 0 rfl) ?_
      refine lv_iload_n hx hb dL_law_579 rfl (lv_at hl 3 rfl) ?_
      refine lv_iconst (v := (3 : Int32)) hx hb dL_law_580 (by decide) ?_
      refine lv_iadd hx hb dL_law_581 ?_
      refine va_sld hx hb hX hbl hbA hS hi3 dL_law_582 ?_
      refine lv_if_eq (tgt := 590) hx hb dL_law_583 (by decide) (fun z => ?_) (fun z => ?_)
      · exact absurd z hz0
      · refine lv_iconst (v := (1 : Int32)) hx hb dL_law_586 (by decide) ?_
        refine lv_goto (tgt := 591) hx hb dL_law_587 (by decide) ?_
        refine rc_Vi (k := 99) (As := [.int (xs (v3 + (1 : Int32)).toNatClampNeg), .int (xs (v3 + (2 : Int32)).toNatClampNeg), .int (1 : Int32)]) (rest := [.int x0]) (S_ (inL_X9_layer)) hW hS h (kX9_layer l E (xs (v3 + (1 : Int32)).toNatClampNeg) (xs (v3 + (2 : Int32)).toNatClampNeg) (1 : Int32) w1) (cwV 3 (fun w h => hts0 w (inL_X9_layer w h)) gL2_X9_layer rfl rfl rfl hdX9_layer ⟨Nat.le_of_ble_eq_true rfl, Nat.le_of_ble_eq_true rfl⟩) (fl 99 rfl) rfl rfl rfl rfl hl.1 rfl (Nat.le_of_ble_eq_true rfl) ⟨Nat.le_refl _, Nat.le_refl _⟩ dL_law_591 (fun x1 w2 H locs h hW hS => ?_)
        refine rb_icmp_eq (tgt := 1377) hx hb h dL_law_594 (by decide) (fun h => ?_) (fun h => by cases h)
        exact JN _ _ _ _ (by cases h; exact hg) hW hS hl
  rw [if_neg c10] at h
  by_cases c11 : o9 = 11
  · rw [if_pos c11] at h
    refine lv_tableIn (off := 567) (tgt := 599) hx hb dL_law_32 (by rw [c11]; decide) (by rw [c11]; decide) (by rw [c11]; rfl) (by decide) ?_
    unfold st11 at h
    refine lv_aload_n hx hb dL_law_599 rfl (lv_at hl 1 rfl) ?_
    refine lv_aload_n hx hb dL_law_600 rfl (lv_at hl 0 rfl) ?_
    refine lv_iload_n hx hb dL_law_601 rfl (lv_at hl 3 rfl) ?_
    refine lv_iconst (v := (1 : Int32)) hx hb dL_law_602 (by decide) ?_
    refine lv_iadd hx hb dL_law_603 ?_
    refine va_sld hx hb hX hbl hbA hS hi1 dL_law_604 ?_
    refine rc_Vi (k := 0) (As := [.int (xs (v3 + (1 : Int32)).toNatClampNeg)]) (rest := []) (S_ (inL_X8_water)) hW hS h (kX8_water l E (xs (v3 + (1 : Int32)).toNatClampNeg) w) (cwV 1 (fun w h => hts0 w (inL_X8_water w h)) gL2_X8_water rfl rfl rfl hdX8_water ⟨Nat.le_of_ble_eq_true rfl, Nat.le_of_ble_eq_true rfl⟩) (fl 0 rfl) rfl rfl rfl rfl hl.1 rfl (Nat.le_of_ble_eq_true rfl) ⟨Nat.le_refl _, Nat.le_refl _⟩ dL_law_605 (fun x0 w1 H locs h hW hS => ?_)
    refine lv_aload_n hx hb dL_law_608 rfl (lv_at hl 2 rfl) ?_
    refine lv_aload_n hx hb dL_law_609 rfl (lv_at hl 0 rfl) ?_
    refine lv_iload_n hx hb dL_law_610 rfl (lv_at hl 3 rfl) ?_
    refine lv_iconst (v := (1 : Int32)) hx hb dL_law_611 (by decide) ?_
    refine lv_iadd hx hb dL_law_612 ?_
    refine va_sld hx hb hX hbl hbA hS hi1 dL_law_613 ?_
    refine rc_Vi (k := 99) (As := [.int (xs (v3 + (1 : Int32)).toNatClampNeg)]) (rest := [.int x0]) (S_ (inL_X9_water)) hW hS h (kX9_water l E (xs (v3 + (1 : Int32)).toNatClampNeg) w1) (cwV 1 (fun w h => hts0 w (inL_X9_water w h)) gL2_X9_water rfl rfl rfl hdX9_water ⟨Nat.le_of_ble_eq_true rfl, Nat.le_of_ble_eq_true rfl⟩) (fl 99 rfl) rfl rfl rfl rfl hl.1 rfl (Nat.le_of_ble_eq_true rfl) ⟨Nat.le_refl _, Nat.le_refl _⟩ dL_law_614 (fun x1 w2 H locs h hW hS => ?_)
    refine rb_icmp_eq (tgt := 1377) hx hb h dL_law_617 (by decide) (fun h => ?_) (fun h => by cases h)
    exact JN _ _ _ _ (by cases h; exact hg) hW hS hl
  rw [if_neg c11] at h
  by_cases c12 : o9 = 12
  · rw [if_pos c12] at h
    refine lv_tableIn (off := 590) (tgt := 622) hx hb dL_law_32 (by rw [c12]; decide) (by rw [c12]; decide) (by rw [c12]; rfl) (by decide) ?_
    unfold st12 at h
    refine lv_aload_n hx hb dL_law_622 rfl (lv_at hl 1 rfl) ?_
    refine lv_aload_n hx hb dL_law_623 rfl (lv_at hl 0 rfl) ?_
    refine lv_iload_n hx hb dL_law_624 rfl (lv_at hl 3 rfl) ?_
    refine lv_iconst (v := (1 : Int32)) hx hb dL_law_625 (by decide) ?_
    refine lv_iadd hx hb dL_law_626 ?_
    refine va_sld hx hb hX hbl hbA hS hi1 dL_law_627 ?_
    refine lv_aload_n hx hb dL_law_628 rfl (lv_at hl 0 rfl) ?_
    refine lv_iload_n hx hb dL_law_629 rfl (lv_at hl 3 rfl) ?_
    refine lv_iconst (v := (2 : Int32)) hx hb dL_law_630 (by decide) ?_
    refine lv_iadd hx hb dL_law_631 ?_
    refine va_sld hx hb hX hbl hbA hS hi2 dL_law_632 ?_
    refine rc_Vi (k := 0) (As := [.int (xs (v3 + (1 : Int32)).toNatClampNeg), .int (xs (v3 + (2 : Int32)).toNatClampNeg)]) (rest := []) (S_ (inL_X8_level)) hW hS h (kX8_level l E (xs (v3 + (1 : Int32)).toNatClampNeg) (xs (v3 + (2 : Int32)).toNatClampNeg) w) (cwV 2 (fun w h => hts0 w (inL_X8_level w h)) gL2_X8_level rfl rfl rfl hdX8_level ⟨Nat.le_of_ble_eq_true rfl, Nat.le_of_ble_eq_true rfl⟩) (fl 0 rfl) rfl rfl rfl rfl hl.1 rfl (Nat.le_of_ble_eq_true rfl) ⟨Nat.le_refl _, Nat.le_refl _⟩ dL_law_633 (fun x0 w1 H locs h hW hS => ?_)
    refine lv_aload_n hx hb dL_law_636 rfl (lv_at hl 2 rfl) ?_
    refine lv_aload_n hx hb dL_law_637 rfl (lv_at hl 0 rfl) ?_
    refine lv_iload_n hx hb dL_law_638 rfl (lv_at hl 3 rfl) ?_
    refine lv_iconst (v := (1 : Int32)) hx hb dL_law_639 (by decide) ?_
    refine lv_iadd hx hb dL_law_640 ?_
    refine va_sld hx hb hX hbl hbA hS hi1 dL_law_641 ?_
    refine lv_aload_n hx hb dL_law_642 rfl (lv_at hl 0 rfl) ?_
    refine lv_iload_n hx hb dL_law_643 rfl (lv_at hl 3 rfl) ?_
    refine lv_iconst (v := (2 : Int32)) hx hb dL_law_644 (by decide) ?_
    refine lv_iadd hx hb dL_law_645 ?_
    refine va_sld hx hb hX hbl hbA hS hi2 dL_law_646 ?_
    refine rc_Vi (k := 99) (As := [.int (xs (v3 + (1 : Int32)).toNatClampNeg), .int (xs (v3 + (2 : Int32)).toNatClampNeg)]) (rest := [.int x0]) (S_ (inL_X9_level)) hW hS h (kX9_level l E (xs (v3 + (1 : Int32)).toNatClampNeg) (xs (v3 + (2 : Int32)).toNatClampNeg) w1) (cwV 2 (fun w h => hts0 w (inL_X9_level w h)) gL2_X9_level rfl rfl rfl hdX9_level ⟨Nat.le_of_ble_eq_true rfl, Nat.le_of_ble_eq_true rfl⟩) (fl 99 rfl) rfl rfl rfl rfl hl.1 rfl (Nat.le_of_ble_eq_true rfl) ⟨Nat.le_refl _, Nat.le_refl _⟩ dL_law_647 (fun x1 w2 H locs h hW hS => ?_)
    refine rb_icmp_eq (tgt := 1377) hx hb h dL_law_650 (by decide) (fun h => ?_) (fun h => by cases h)
    exact JN _ _ _ _ (by cases h; exact hg) hW hS hl
  rw [if_neg c12] at h
  by_cases c13 : o9 = 13
  · rw [if_pos c13] at h
    refine lv_tableIn (off := 623) (tgt := 655) hx hb dL_law_32 (by rw [c13]; decide) (by rw [c13]; decide) (by rw [c13]; rfl) (by decide) ?_
    unfold st13 at h
    refine lv_aload_n hx hb dL_law_655 rfl (lv_at hl 1 rfl) ?_
    refine lv_aload_n hx hb dL_law_656 rfl (lv_at hl 0 rfl) ?_
    refine lv_iload_n hx hb dL_law_657 rfl (lv_at hl 3 rfl) ?_
    refine lv_iconst (v := (1 : Int32)) hx hb dL_law_658 (by decide) ?_
    refine lv_iadd hx hb dL_law_659 ?_
    refine va_sld hx hb hX hbl hbA hS hi1 dL_law_660 ?_
    refine lv_if_eq (tgt := 668) hx hb dL_law_661 (by decide) (fun hz0 => ?_) (fun hz0 => ?_)
    · have hb0 : bz (xs (v3 + (1 : Int32)).toNatClampNeg) = (0 : Int32) := if_pos hz0
      rw [hb0] at h
      refine lv_iconst (v := (0 : Int32)) hx hb dL_law_668 (by decide) ?_
      refine lv_aload_n hx hb dL_law_669 rfl (lv_at hl 0 rfl) ?_
      refine lv_iload_n hx hb dL_law_670 rfl (lv_at hl 3 rfl) ?_
      refine lv_iconst (v := (2 : Int32)) hx hb dL_law_671 (by decide) ?_
      refine lv_iadd hx hb dL_law_672 ?_
      refine va_sld hx hb hX hbl hbA hS hi2 dL_law_673 ?_
      refine lv_aload_n hx hb dL_law_674 rfl (lv_at hl 0 rfl) ?_
      refine lv_iload_n hx hb dL_law_675 rfl (lv_at hl 3 rfl) ?_
      refine lv_iconst (v := (3 : Int32)) hx hb dL_law_676 (by decide) ?_
      refine lv_iadd hx hb dL_law_677 ?_
      refine va_sld hx hb hX hbl hbA hS hi3 dL_law_678 ?_
      refine rc_Vi (k := 0) (As := [.int (0 : Int32), .int (xs (v3 + (2 : Int32)).toNatClampNeg), .int (xs (v3 + (3 : Int32)).toNatClampNeg)]) (rest := []) (S_ (inL_X8_tell)) hW hS h (kX8_tell l E (0 : Int32) (xs (v3 + (2 : Int32)).toNatClampNeg) (xs (v3 + (3 : Int32)).toNatClampNeg) w) (cwV 3 (fun w h => hts0 w (inL_X8_tell w h)) gL2_X8_tell rfl rfl rfl hdX8_tell ⟨Nat.le_of_ble_eq_true rfl, Nat.le_of_ble_eq_true rfl⟩) (fl 0 rfl) rfl rfl rfl rfl hl.1 rfl (Nat.le_of_ble_eq_true rfl) ⟨Nat.le_refl _, Nat.le_refl _⟩ dL_law_679 (fun x0 w1 H locs h hW hS => ?_)
      refine lv_aload_n hx hb dL_law_682 rfl (lv_at hl 2 rfl) ?_
      refine lv_aload_n hx hb dL_law_683 rfl (lv_at hl 0 rfl) ?_
      refine lv_iload_n hx hb dL_law_684 rfl (lv_at hl 3 rfl) ?_
      refine lv_iconst (v := (1 : Int32)) hx hb dL_law_685 (by decide) ?_
      refine lv_iadd hx hb dL_law_686 ?_
      refine va_sld hx hb hX hbl hbA hS hi1 dL_law_687 ?_
      refine lv_if_eq (tgt := 695) hx hb dL_law_688 (by decide) (fun z => ?_) (fun z => ?_)
      · refine lv_iconst (v := (0 : Int32)) hx hb dL_law_695 (by decide) ?_
        refine lv_aload_n hx hb dL_law_696 rfl (lv_at hl 0 rfl) ?_
        refine lv_iload_n hx hb dL_law_697 rfl (lv_at hl 3 rfl) ?_
        refine lv_iconst (v := (2 : Int32)) hx hb dL_law_698 (by decide) ?_
        refine lv_iadd hx hb dL_law_699 ?_
        refine va_sld hx hb hX hbl hbA hS hi2 dL_law_700 ?_
        refine lv_aload_n hx hb dL_law_701 rfl (lv_at hl 0 rfl) ?_
        refine lv_iload_n hx hb dL_law_702 rfl (lv_at hl 3 rfl) ?_
        refine lv_iconst (v := (3 : Int32)) hx hb dL_law_703 (by decide) ?_
        refine lv_iadd hx hb dL_law_704 ?_
        refine va_sld hx hb hX hbl hbA hS hi3 dL_law_705 ?_
        refine rc_Vi (k := 99) (As := [.int (0 : Int32), .int (xs (v3 + (2 : Int32)).toNatClampNeg), .int (xs (v3 + (3 : Int32)).toNatClampNeg)]) (rest := [.int x0]) (S_ (inL_X9_tell)) hW hS h (kX9_tell l E (0 : Int32) (xs (v3 + (2 : Int32)).toNatClampNeg) (xs (v3 + (3 : Int32)).toNatClampNeg) w1) (cwV 3 (fun w h => hts0 w (inL_X9_tell w h)) gL2_X9_tell rfl rfl rfl hdX9_tell ⟨Nat.le_of_ble_eq_true rfl, Nat.le_of_ble_eq_true rfl⟩) (fl 99 rfl) rfl rfl rfl rfl hl.1 rfl (Nat.le_of_ble_eq_true rfl) ⟨Nat.le_refl _, Nat.le_refl _⟩ dL_law_706 (fun x1 w2 H locs h hW hS => ?_)
        refine rb_icmp_eq (tgt := 1377) hx hb h dL_law_709 (by decide) (fun h => ?_) (fun h => by cases h)
        exact JN _ _ _ _ (by cases h; exact hg) hW hS hl
      · exact absurd hz0 z
    · have hb0 : bz (xs (v3 + (1 : Int32)).toNatClampNeg) = (1 : Int32) := if_neg hz0
      rw [hb0] at h
      refine lv_iconst (v := (1 : Int32)) hx hb dL_law_664 (by decide) ?_
      refine lv_goto (tgt := 669) hx hb dL_law_665 (by decide) ?_
      refine lv_aload_n hx hb dL_law_669 rfl (lv_at hl 0 rfl) ?_
      refine lv_iload_n hx hb dL_law_670 rfl (lv_at hl 3 rfl) ?_
      refine lv_iconst (v := (2 : Int32)) hx hb dL_law_671 (by decide) ?_
      refine lv_iadd hx hb dL_law_672 ?_
      refine va_sld hx hb hX hbl hbA hS hi2 dL_law_673 ?_
      refine lv_aload_n hx hb dL_law_674 rfl (lv_at hl 0 rfl) ?_
      refine lv_iload_n hx hb dL_law_675 rfl (lv_at hl 3 rfl) ?_
      refine lv_iconst (v := (3 : Int32)) hx hb dL_law_676 (by decide) ?_
      refine lv_iadd hx hb dL_law_677 ?_
      refine va_sld hx hb hX hbl hbA hS hi3 dL_law_678 ?_
      refine rc_Vi (k := 0) (As := [.int (1 : Int32), .int (xs (v3 + (2 : Int32)).toNatClampNeg), .int (xs (v3 + (3 : Int32)).toNatClampNeg)]) (rest := []) (S_ (inL_X8_tell)) hW hS h (kX8_tell l E (1 : Int32) (xs (v3 + (2 : Int32)).toNatClampNeg) (xs (v3 + (3 : Int32)).toNatClampNeg) w) (cwV 3 (fun w h => hts0 w (inL_X8_tell w h)) gL2_X8_tell rfl rfl rfl hdX8_tell ⟨Nat.le_of_ble_eq_true rfl, Nat.le_of_ble_eq_true rfl⟩) (fl 0 rfl) rfl rfl rfl rfl hl.1 rfl (Nat.le_of_ble_eq_true rfl) ⟨Nat.le_refl _, Nat.le_refl _⟩ dL_law_679 (fun x0 w1 H locs h hW hS => ?_)
      refine lv_aload_n hx hb dL_law_682 rfl (lv_at hl 2 rfl) ?_
      refine lv_aload_n hx hb dL_law_683 rfl (lv_at hl 0 rfl) ?_
      refine lv_iload_n hx hb dL_law_684 rfl (lv_at hl 3 rfl) ?_
      refine lv_iconst (v := (1 : Int32)) hx hb dL_law_685 (by decide) ?_
      refine lv_iadd hx hb dL_law_686 ?_
      refine va_sld hx hb hX hbl hbA hS hi1 dL_law_687 ?_
      refine lv_if_eq (tgt := 695) hx hb dL_law_688 (by decide) (fun z => ?_) (fun z => ?_)
      · exact absurd z hz0
      · refine lv_iconst (v := (1 : Int32)) hx hb dL_law_691 (by decide) ?_
        refine lv_goto (tgt := 696) hx hb dL_law_692 (by decide) ?_
        refine lv_aload_n hx hb dL_law_696 rfl (lv_at hl 0 rfl) ?_
        refine lv_iload_n hx hb dL_law_697 rfl (lv_at hl 3 rfl) ?_
        refine lv_iconst (v := (2 : Int32)) hx hb dL_law_698 (by decide) ?_
        refine lv_iadd hx hb dL_law_699 ?_
        refine va_sld hx hb hX hbl hbA hS hi2 dL_law_700 ?_
        refine lv_aload_n hx hb dL_law_701 rfl (lv_at hl 0 rfl) ?_
        refine lv_iload_n hx hb dL_law_702 rfl (lv_at hl 3 rfl) ?_
        refine lv_iconst (v := (3 : Int32)) hx hb dL_law_703 (by decide) ?_
        refine lv_iadd hx hb dL_law_704 ?_
        refine va_sld hx hb hX hbl hbA hS hi3 dL_law_705 ?_
        refine rc_Vi (k := 99) (As := [.int (1 : Int32), .int (xs (v3 + (2 : Int32)).toNatClampNeg), .int (xs (v3 + (3 : Int32)).toNatClampNeg)]) (rest := [.int x0]) (S_ (inL_X9_tell)) hW hS h (kX9_tell l E (1 : Int32) (xs (v3 + (2 : Int32)).toNatClampNeg) (xs (v3 + (3 : Int32)).toNatClampNeg) w1) (cwV 3 (fun w h => hts0 w (inL_X9_tell w h)) gL2_X9_tell rfl rfl rfl hdX9_tell ⟨Nat.le_of_ble_eq_true rfl, Nat.le_of_ble_eq_true rfl⟩) (fl 99 rfl) rfl rfl rfl rfl hl.1 rfl (Nat.le_of_ble_eq_true rfl) ⟨Nat.le_refl _, Nat.le_refl _⟩ dL_law_706 (fun x1 w2 H locs h hW hS => ?_)
        refine rb_icmp_eq (tgt := 1377) hx hb h dL_law_709 (by decide) (fun h => ?_) (fun h => by cases h)
        exact JN _ _ _ _ (by cases h; exact hg) hW hS hl
  rw [if_neg c13] at h
  by_cases c14 : o9 = 14
  · rw [if_pos c14] at h
    refine lv_tableIn (off := 682) (tgt := 714) hx hb dL_law_32 (by rw [c14]; decide) (by rw [c14]; decide) (by rw [c14]; rfl) (by decide) ?_
    unfold st14 at h
    refine lv_aload_n hx hb dL_law_714 rfl (lv_at hl 1 rfl) ?_
    refine lv_aload_n hx hb dL_law_715 rfl (lv_at hl 0 rfl) ?_
    refine lv_iload_n hx hb dL_law_716 rfl (lv_at hl 3 rfl) ?_
    refine lv_iconst (v := (1 : Int32)) hx hb dL_law_717 (by decide) ?_
    refine lv_iadd hx hb dL_law_718 ?_
    refine va_sld hx hb hX hbl hbA hS hi1 dL_law_719 ?_
    refine lv_aload_n hx hb dL_law_720 rfl (lv_at hl 0 rfl) ?_
    refine lv_iload_n hx hb dL_law_721 rfl (lv_at hl 3 rfl) ?_
    refine lv_iconst (v := (2 : Int32)) hx hb dL_law_722 (by decide) ?_
    refine lv_iadd hx hb dL_law_723 ?_
    refine va_sld hx hb hX hbl hbA hS hi2 dL_law_724 ?_
    refine rc_Vi (k := 0) (As := [.int (xs (v3 + (1 : Int32)).toNatClampNeg), .int (xs (v3 + (2 : Int32)).toNatClampNeg)]) (rest := []) (S_ (inL_X8_tellTop)) hW hS h (kX8_tellTop l E (xs (v3 + (1 : Int32)).toNatClampNeg) (xs (v3 + (2 : Int32)).toNatClampNeg) w) (cwV 2 (fun w h => hts0 w (inL_X8_tellTop w h)) gL2_X8_tellTop rfl rfl rfl hdX8_tellTop ⟨Nat.le_of_ble_eq_true rfl, Nat.le_of_ble_eq_true rfl⟩) (fl 0 rfl) rfl rfl rfl rfl hl.1 rfl (Nat.le_of_ble_eq_true rfl) ⟨Nat.le_refl _, Nat.le_refl _⟩ dL_law_725 (fun x0 w1 H locs h hW hS => ?_)
    refine lv_aload_n hx hb dL_law_728 rfl (lv_at hl 2 rfl) ?_
    refine lv_aload_n hx hb dL_law_729 rfl (lv_at hl 0 rfl) ?_
    refine lv_iload_n hx hb dL_law_730 rfl (lv_at hl 3 rfl) ?_
    refine lv_iconst (v := (1 : Int32)) hx hb dL_law_731 (by decide) ?_
    refine lv_iadd hx hb dL_law_732 ?_
    refine va_sld hx hb hX hbl hbA hS hi1 dL_law_733 ?_
    refine lv_aload_n hx hb dL_law_734 rfl (lv_at hl 0 rfl) ?_
    refine lv_iload_n hx hb dL_law_735 rfl (lv_at hl 3 rfl) ?_
    refine lv_iconst (v := (2 : Int32)) hx hb dL_law_736 (by decide) ?_
    refine lv_iadd hx hb dL_law_737 ?_
    refine va_sld hx hb hX hbl hbA hS hi2 dL_law_738 ?_
    refine rc_Vi (k := 99) (As := [.int (xs (v3 + (1 : Int32)).toNatClampNeg), .int (xs (v3 + (2 : Int32)).toNatClampNeg)]) (rest := [.int x0]) (S_ (inL_X9_tellTop)) hW hS h (kX9_tellTop l E (xs (v3 + (1 : Int32)).toNatClampNeg) (xs (v3 + (2 : Int32)).toNatClampNeg) w1) (cwV 2 (fun w h => hts0 w (inL_X9_tellTop w h)) gL2_X9_tellTop rfl rfl rfl hdX9_tellTop ⟨Nat.le_of_ble_eq_true rfl, Nat.le_of_ble_eq_true rfl⟩) (fl 99 rfl) rfl rfl rfl rfl hl.1 rfl (Nat.le_of_ble_eq_true rfl) ⟨Nat.le_refl _, Nat.le_refl _⟩ dL_law_739 (fun x1 w2 H locs h hW hS => ?_)
    refine rb_icmp_eq (tgt := 1377) hx hb h dL_law_742 (by decide) (fun h => ?_) (fun h => by cases h)
    exact JN _ _ _ _ (by cases h; exact hg) hW hS hl
  rw [if_neg c14] at h
  by_cases c15 : o9 = 15
  · rw [if_pos c15] at h
    refine lv_tableIn (off := 715) (tgt := 747) hx hb dL_law_32 (by rw [c15]; decide) (by rw [c15]; decide) (by rw [c15]; rfl) (by decide) ?_
    unfold st15 at h
    refine lv_aload_n hx hb dL_law_747 rfl (lv_at hl 1 rfl) ?_
    refine lv_aload_n hx hb dL_law_748 rfl (lv_at hl 0 rfl) ?_
    refine lv_iload_n hx hb dL_law_749 rfl (lv_at hl 3 rfl) ?_
    refine lv_iconst (v := (1 : Int32)) hx hb dL_law_750 (by decide) ?_
    refine lv_iadd hx hb dL_law_751 ?_
    refine va_sld hx hb hX hbl hbA hS hi1 dL_law_752 ?_
    refine lv_aload_n hx hb dL_law_753 rfl (lv_at hl 0 rfl) ?_
    refine lv_iload_n hx hb dL_law_754 rfl (lv_at hl 3 rfl) ?_
    refine lv_iconst (v := (2 : Int32)) hx hb dL_law_755 (by decide) ?_
    refine lv_iadd hx hb dL_law_756 ?_
    refine va_sld hx hb hX hbl hbA hS hi2 dL_law_757 ?_
    refine lv_if_eq (tgt := 765) hx hb dL_law_758 (by decide) (fun hz0 => ?_) (fun hz0 => ?_)
    · have hb0 : bz (xs (v3 + (2 : Int32)).toNatClampNeg) = (0 : Int32) := if_pos hz0
      rw [hb0] at h
      refine lv_iconst (v := (0 : Int32)) hx hb dL_law_765 (by decide) ?_
      refine rc_Vi (k := 0) (As := [.int (xs (v3 + (1 : Int32)).toNatClampNeg), .int (0 : Int32)]) (rest := []) (S_ (inL_X8_tellAs)) hW hS h (kX8_tellAs l E (xs (v3 + (1 : Int32)).toNatClampNeg) (0 : Int32) w) (cwV 2 (fun w h => hts0 w (inL_X8_tellAs w h)) gL2_X8_tellAs rfl rfl rfl hdX8_tellAs ⟨Nat.le_of_ble_eq_true rfl, Nat.le_of_ble_eq_true rfl⟩) (fl 0 rfl) rfl rfl rfl rfl hl.1 rfl (Nat.le_of_ble_eq_true rfl) ⟨Nat.le_refl _, Nat.le_refl _⟩ dL_law_766 (fun x0 w1 H locs h hW hS => ?_)
      refine lv_aload_n hx hb dL_law_769 rfl (lv_at hl 2 rfl) ?_
      refine lv_aload_n hx hb dL_law_770 rfl (lv_at hl 0 rfl) ?_
      refine lv_iload_n hx hb dL_law_771 rfl (lv_at hl 3 rfl) ?_
      refine lv_iconst (v := (1 : Int32)) hx hb dL_law_772 (by decide) ?_
      refine lv_iadd hx hb dL_law_773 ?_
      refine va_sld hx hb hX hbl hbA hS hi1 dL_law_774 ?_
      refine lv_aload_n hx hb dL_law_775 rfl (lv_at hl 0 rfl) ?_
      refine lv_iload_n hx hb dL_law_776 rfl (lv_at hl 3 rfl) ?_
      refine lv_iconst (v := (2 : Int32)) hx hb dL_law_777 (by decide) ?_
      refine lv_iadd hx hb dL_law_778 ?_
      refine va_sld hx hb hX hbl hbA hS hi2 dL_law_779 ?_
      refine lv_if_eq (tgt := 787) hx hb dL_law_780 (by decide) (fun z => ?_) (fun z => ?_)
      · refine lv_iconst (v := (0 : Int32)) hx hb dL_law_787 (by decide) ?_
        refine rc_Vi (k := 99) (As := [.int (xs (v3 + (1 : Int32)).toNatClampNeg), .int (0 : Int32)]) (rest := [.int x0]) (S_ (inL_X9_tellAs)) hW hS h (kX9_tellAs l E (xs (v3 + (1 : Int32)).toNatClampNeg) (0 : Int32) w1) (cwV 2 (fun w h => hts0 w (inL_X9_tellAs w h)) gL2_X9_tellAs rfl rfl rfl hdX9_tellAs ⟨Nat.le_of_ble_eq_true rfl, Nat.le_of_ble_eq_true rfl⟩) (fl 99 rfl) rfl rfl rfl rfl hl.1 rfl (Nat.le_of_ble_eq_true rfl) ⟨Nat.le_refl _, Nat.le_refl _⟩ dL_law_788 (fun x1 w2 H locs h hW hS => ?_)
        refine rb_icmp_eq (tgt := 1377) hx hb h dL_law_791 (by decide) (fun h => ?_) (fun h => by cases h)
        exact JN _ _ _ _ (by cases h; exact hg) hW hS hl
      · exact absurd hz0 z
    · have hb0 : bz (xs (v3 + (2 : Int32)).toNatClampNeg) = (1 : Int32) := if_neg hz0
      rw [hb0] at h
      refine lv_iconst (v := (1 : Int32)) hx hb dL_law_761 (by decide) ?_
      refine lv_goto (tgt := 766) hx hb dL_law_762 (by decide) ?_
      refine rc_Vi (k := 0) (As := [.int (xs (v3 + (1 : Int32)).toNatClampNeg), .int (1 : Int32)]) (rest := []) (S_ (inL_X8_tellAs)) hW hS h (kX8_tellAs l E (xs (v3 + (1 : Int32)).toNatClampNeg) (1 : Int32) w) (cwV 2 (fun w h => hts0 w (inL_X8_tellAs w h)) gL2_X8_tellAs rfl rfl rfl hdX8_tellAs ⟨Nat.le_of_ble_eq_true rfl, Nat.le_of_ble_eq_true rfl⟩) (fl 0 rfl) rfl rfl rfl rfl hl.1 rfl (Nat.le_of_ble_eq_true rfl) ⟨Nat.le_refl _, Nat.le_refl _⟩ dL_law_766 (fun x0 w1 H locs h hW hS => ?_)
      refine lv_aload_n hx hb dL_law_769 rfl (lv_at hl 2 rfl) ?_
      refine lv_aload_n hx hb dL_law_770 rfl (lv_at hl 0 rfl) ?_
      refine lv_iload_n hx hb dL_law_771 rfl (lv_at hl 3 rfl) ?_
      refine lv_iconst (v := (1 : Int32)) hx hb dL_law_772 (by decide) ?_
      refine lv_iadd hx hb dL_law_773 ?_
      refine va_sld hx hb hX hbl hbA hS hi1 dL_law_774 ?_
      refine lv_aload_n hx hb dL_law_775 rfl (lv_at hl 0 rfl) ?_
      refine lv_iload_n hx hb dL_law_776 rfl (lv_at hl 3 rfl) ?_
      refine lv_iconst (v := (2 : Int32)) hx hb dL_law_777 (by decide) ?_
      refine lv_iadd hx hb dL_law_778 ?_
      refine va_sld hx hb hX hbl hbA hS hi2 dL_law_779 ?_
      refine lv_if_eq (tgt := 787) hx hb dL_law_780 (by decide) (fun z => ?_) (fun z => ?_)
      · exact absurd z hz0
      · refine lv_iconst (v := (1 : Int32)) hx hb dL_law_783 (by decide) ?_
        refine lv_goto (tgt := 788) hx hb dL_law_784 (by decide) ?_
        refine rc_Vi (k := 99) (As := [.int (xs (v3 + (1 : Int32)).toNatClampNeg), .int (1 : Int32)]) (rest := [.int x0]) (S_ (inL_X9_tellAs)) hW hS h (kX9_tellAs l E (xs (v3 + (1 : Int32)).toNatClampNeg) (1 : Int32) w1) (cwV 2 (fun w h => hts0 w (inL_X9_tellAs w h)) gL2_X9_tellAs rfl rfl rfl hdX9_tellAs ⟨Nat.le_of_ble_eq_true rfl, Nat.le_of_ble_eq_true rfl⟩) (fl 99 rfl) rfl rfl rfl rfl hl.1 rfl (Nat.le_of_ble_eq_true rfl) ⟨Nat.le_refl _, Nat.le_refl _⟩ dL_law_788 (fun x1 w2 H locs h hW hS => ?_)
        refine rb_icmp_eq (tgt := 1377) hx hb h dL_law_791 (by decide) (fun h => ?_) (fun h => by cases h)
        exact JN _ _ _ _ (by cases h; exact hg) hW hS hl
  rw [if_neg c15] at h
  by_cases c16 : o9 = 16
  · rw [if_pos c16] at h
    refine lv_tableIn (off := 764) (tgt := 796) hx hb dL_law_32 (by rw [c16]; decide) (by rw [c16]; decide) (by rw [c16]; rfl) (by decide) ?_
    unfold st16 at h
    refine lv_aload_n hx hb dL_law_796 rfl (lv_at hl 1 rfl) ?_
    refine lv_aload_n hx hb dL_law_797 rfl (lv_at hl 0 rfl) ?_
    refine lv_iload_n hx hb dL_law_798 rfl (lv_at hl 3 rfl) ?_
    refine lv_iconst (v := (1 : Int32)) hx hb dL_law_799 (by decide) ?_
    refine lv_iadd hx hb dL_law_800 ?_
    refine va_sld hx hb hX hbl hbA hS hi1 dL_law_801 ?_
    refine rc_Vi (k := 0) (As := [.int (xs (v3 + (1 : Int32)).toNatClampNeg)]) (rest := []) (S_ (inL_X8_fits)) hW hS h (kX8_fits l E (xs (v3 + (1 : Int32)).toNatClampNeg) w) (cwV 1 (fun w h => hts0 w (inL_X8_fits w h)) gL2_X8_fits rfl rfl rfl hdX8_fits ⟨Nat.le_of_ble_eq_true rfl, Nat.le_of_ble_eq_true rfl⟩) (fl 0 rfl) rfl rfl rfl rfl hl.1 rfl (Nat.le_of_ble_eq_true rfl) ⟨Nat.le_refl _, Nat.le_refl _⟩ dL_law_802 (fun x0 w1 H locs h hW hS => ?_)
    refine lv_aload_n hx hb dL_law_805 rfl (lv_at hl 2 rfl) ?_
    refine lv_aload_n hx hb dL_law_806 rfl (lv_at hl 0 rfl) ?_
    refine lv_iload_n hx hb dL_law_807 rfl (lv_at hl 3 rfl) ?_
    refine lv_iconst (v := (1 : Int32)) hx hb dL_law_808 (by decide) ?_
    refine lv_iadd hx hb dL_law_809 ?_
    refine va_sld hx hb hX hbl hbA hS hi1 dL_law_810 ?_
    refine rc_Vi (k := 99) (As := [.int (xs (v3 + (1 : Int32)).toNatClampNeg)]) (rest := [.int x0]) (S_ (inL_X9_fits)) hW hS h (kX9_fits l E (xs (v3 + (1 : Int32)).toNatClampNeg) w1) (cwV 1 (fun w h => hts0 w (inL_X9_fits w h)) gL2_X9_fits rfl rfl rfl hdX9_fits ⟨Nat.le_of_ble_eq_true rfl, Nat.le_of_ble_eq_true rfl⟩) (fl 99 rfl) rfl rfl rfl rfl hl.1 rfl (Nat.le_of_ble_eq_true rfl) ⟨Nat.le_refl _, Nat.le_refl _⟩ dL_law_811 (fun x1 w2 H locs h hW hS => ?_)
    refine rb_icmp_eq (tgt := 1377) hx hb h dL_law_814 (by decide) (fun h => ?_) (fun h => by cases h)
    exact JN _ _ _ _ (by cases h; exact hg) hW hS hl
  rw [if_neg c16] at h
  by_cases c17 : o9 = 17
  · rw [if_pos c17] at h
    refine lv_tableIn (off := 787) (tgt := 819) hx hb dL_law_32 (by rw [c17]; decide) (by rw [c17]; decide) (by rw [c17]; rfl) (by decide) ?_
    unfold st17 at h
    refine lv_aload_n hx hb dL_law_819 rfl (lv_at hl 1 rfl) ?_
    refine rc_Vl (k := 0) (As := []) (rest := []) (S_ (inL_X8_heaps)) hW hS h (kX8_heaps l E  w) (cwV 0 (fun w h => hts0 w (inL_X8_heaps w h)) gL2_X8_heaps rfl rfl rfl hdX8_heaps ⟨Nat.le_of_ble_eq_true rfl, Nat.le_of_ble_eq_true rfl⟩) (fl 0 rfl) rfl rfl rfl rfl hl.1 rfl (Nat.le_of_ble_eq_true rfl) ⟨Nat.le_refl _, Nat.le_refl _⟩ dL_law_820 (fun x0 w1 H locs h hW hS => ?_)
    refine lv_aload_n hx hb dL_law_823 rfl (lv_at hl 2 rfl) ?_
    refine rc_Vl (k := 99) (As := []) (rest := [.long x0]) (S_ (inL_X9_heaps)) hW hS h (kX9_heaps l E  w1) (cwV 0 (fun w h => hts0 w (inL_X9_heaps w h)) gL2_X9_heaps rfl rfl rfl hdX9_heaps ⟨Nat.le_of_ble_eq_true rfl, Nat.le_of_ble_eq_true rfl⟩) (fl 99 rfl) rfl rfl rfl rfl hl.1 rfl (Nat.le_of_ble_eq_true rfl) ⟨Nat.le_refl _, Nat.le_refl _⟩ dL_law_824 (fun x1 w2 H locs h hW hS => ?_)
    refine rb_lcmp_eq (tgt := 1377) hx hb h dL_law_827 dL_law_828 (by decide) (fun h => ?_) (fun h => by cases h)
    exact JN _ _ _ _ (by cases h; exact hg) hW hS hl
  rw [if_neg c17] at h
  by_cases c18 : o9 = 18
  · rw [if_pos c18] at h
    refine lv_tableIn (off := 801) (tgt := 833) hx hb dL_law_32 (by rw [c18]; decide) (by rw [c18]; decide) (by rw [c18]; rfl) (by decide) ?_
    unfold st18 at h
    refine lv_aload_n hx hb dL_law_833 rfl (lv_at hl 1 rfl) ?_
    refine lv_aload_n hx hb dL_law_834 rfl (lv_at hl 0 rfl) ?_
    refine lv_iload_n hx hb dL_law_835 rfl (lv_at hl 3 rfl) ?_
    refine lv_iconst (v := (1 : Int32)) hx hb dL_law_836 (by decide) ?_
    refine lv_iadd hx hb dL_law_837 ?_
    refine va_sld hx hb hX hbl hbA hS hi1 dL_law_838 ?_
    refine lv_aload_n hx hb dL_law_839 rfl (lv_at hl 0 rfl) ?_
    refine lv_iload_n hx hb dL_law_840 rfl (lv_at hl 3 rfl) ?_
    refine lv_iconst (v := (2 : Int32)) hx hb dL_law_841 (by decide) ?_
    refine lv_iadd hx hb dL_law_842 ?_
    refine va_sld hx hb hX hbl hbA hS hi2 dL_law_843 ?_
    refine rc_Vl (k := 0) (As := [.int (xs (v3 + (1 : Int32)).toNatClampNeg), .int (xs (v3 + (2 : Int32)).toNatClampNeg)]) (rest := []) (S_ (inL_X8_with)) hW hS h (kX8_with l E (xs (v3 + (1 : Int32)).toNatClampNeg) (xs (v3 + (2 : Int32)).toNatClampNeg) w) (cwV 2 (fun w h => hts0 w (inL_X8_with w h)) gL2_X8_with rfl rfl rfl hdX8_with ⟨Nat.le_of_ble_eq_true rfl, Nat.le_of_ble_eq_true rfl⟩) (fl 0 rfl) rfl rfl rfl rfl hl.1 rfl (Nat.le_of_ble_eq_true rfl) ⟨Nat.le_refl _, Nat.le_refl _⟩ dL_law_844 (fun x0 w1 H locs h hW hS => ?_)
    refine lv_aload_n hx hb dL_law_847 rfl (lv_at hl 2 rfl) ?_
    refine lv_aload_n hx hb dL_law_848 rfl (lv_at hl 0 rfl) ?_
    refine lv_iload_n hx hb dL_law_849 rfl (lv_at hl 3 rfl) ?_
    refine lv_iconst (v := (1 : Int32)) hx hb dL_law_850 (by decide) ?_
    refine lv_iadd hx hb dL_law_851 ?_
    refine va_sld hx hb hX hbl hbA hS hi1 dL_law_852 ?_
    refine lv_aload_n hx hb dL_law_853 rfl (lv_at hl 0 rfl) ?_
    refine lv_iload_n hx hb dL_law_854 rfl (lv_at hl 3 rfl) ?_
    refine lv_iconst (v := (2 : Int32)) hx hb dL_law_855 (by decide) ?_
    refine lv_iadd hx hb dL_law_856 ?_
    refine va_sld hx hb hX hbl hbA hS hi2 dL_law_857 ?_
    refine rc_Vl (k := 99) (As := [.int (xs (v3 + (1 : Int32)).toNatClampNeg), .int (xs (v3 + (2 : Int32)).toNatClampNeg)]) (rest := [.long x0]) (S_ (inL_X9_with)) hW hS h (kX9_with l E (xs (v3 + (1 : Int32)).toNatClampNeg) (xs (v3 + (2 : Int32)).toNatClampNeg) w1) (cwV 2 (fun w h => hts0 w (inL_X9_with w h)) gL2_X9_with rfl rfl rfl hdX9_with ⟨Nat.le_of_ble_eq_true rfl, Nat.le_of_ble_eq_true rfl⟩) (fl 99 rfl) rfl rfl rfl rfl hl.1 rfl (Nat.le_of_ble_eq_true rfl) ⟨Nat.le_refl _, Nat.le_refl _⟩ dL_law_858 (fun x1 w2 H locs h hW hS => ?_)
    refine rb_lcmp_eq (tgt := 1377) hx hb h dL_law_861 dL_law_862 (by decide) (fun h => ?_) (fun h => by cases h)
    exact JN _ _ _ _ (by cases h; exact hg) hW hS hl
  rw [if_neg c18] at h
  by_cases c19 : o9 = 19
  · rw [if_pos c19] at h
    refine lv_tableIn (off := 835) (tgt := 867) hx hb dL_law_32 (by rw [c19]; decide) (by rw [c19]; decide) (by rw [c19]; rfl) (by decide) ?_
    unfold st19 at h
    refine lv_aload_n hx hb dL_law_867 rfl (lv_at hl 1 rfl) ?_
    refine lv_aload_n hx hb dL_law_868 rfl (lv_at hl 0 rfl) ?_
    refine lv_iload_n hx hb dL_law_869 rfl (lv_at hl 3 rfl) ?_
    refine lv_iconst (v := (1 : Int32)) hx hb dL_law_870 (by decide) ?_
    refine lv_iadd hx hb dL_law_871 ?_
    refine va_sld hx hb hX hbl hbA hS hi1 dL_law_872 ?_
    refine lv_aload_n hx hb dL_law_873 rfl (lv_at hl 0 rfl) ?_
    refine lv_iload_n hx hb dL_law_874 rfl (lv_at hl 3 rfl) ?_
    refine lv_iconst (v := (2 : Int32)) hx hb dL_law_875 (by decide) ?_
    refine lv_iadd hx hb dL_law_876 ?_
    refine va_sld hx hb hX hbl hbA hS hi2 dL_law_877 ?_
    refine lv_if_eq (tgt := 885) hx hb dL_law_878 (by decide) (fun hz0 => ?_) (fun hz0 => ?_)
    · have hb0 : bz (xs (v3 + (2 : Int32)).toNatClampNeg) = (0 : Int32) := if_pos hz0
      rw [hb0] at h
      refine lv_iconst (v := (0 : Int32)) hx hb dL_law_885 (by decide) ?_
      refine rc_Vi (k := 0) (As := [.int (xs (v3 + (1 : Int32)).toNatClampNeg), .int (0 : Int32)]) (rest := []) (S_ (inL_X8_span)) hW hS h (kX8_span l E (xs (v3 + (1 : Int32)).toNatClampNeg) (0 : Int32) w) (cwV 2 (fun w h => hts0 w (inL_X8_span w h)) gL2_X8_span rfl rfl rfl hdX8_span ⟨Nat.le_of_ble_eq_true rfl, Nat.le_of_ble_eq_true rfl⟩) (fl 0 rfl) rfl rfl rfl rfl hl.1 rfl (Nat.le_of_ble_eq_true rfl) ⟨Nat.le_refl _, Nat.le_refl _⟩ dL_law_886 (fun x0 w1 H locs h hW hS => ?_)
      refine lv_aload_n hx hb dL_law_889 rfl (lv_at hl 2 rfl) ?_
      refine lv_aload_n hx hb dL_law_890 rfl (lv_at hl 0 rfl) ?_
      refine lv_iload_n hx hb dL_law_891 rfl (lv_at hl 3 rfl) ?_
      refine lv_iconst (v := (1 : Int32)) hx hb dL_law_892 (by decide) ?_
      refine lv_iadd hx hb dL_law_893 ?_
      refine va_sld hx hb hX hbl hbA hS hi1 dL_law_894 ?_
      refine lv_aload_n hx hb dL_law_895 rfl (lv_at hl 0 rfl) ?_
      refine lv_iload_n hx hb dL_law_896 rfl (lv_at hl 3 rfl) ?_
      refine lv_iconst (v := (2 : Int32)) hx hb dL_law_897 (by decide) ?_
      refine lv_iadd hx hb dL_law_898 ?_
      refine va_sld hx hb hX hbl hbA hS hi2 dL_law_899 ?_
      refine lv_if_eq (tgt := 907) hx hb dL_law_900 (by decide) (fun z => ?_) (fun z => ?_)
      · refine lv_iconst (v := (0 : Int32)) hx hb dL_law_907 (by decide) ?_
        refine rc_Vi (k := 99) (As := [.int (xs (v3 + (1 : Int32)).toNatClampNeg), .int (0 : Int32)]) (rest := [.int x0]) (S_ (inL_X9_span)) hW hS h (kX9_span l E (xs (v3 + (1 : Int32)).toNatClampNeg) (0 : Int32) w1) (cwV 2 (fun w h => hts0 w (inL_X9_span w h)) gL2_X9_span rfl rfl rfl hdX9_span ⟨Nat.le_of_ble_eq_true rfl, Nat.le_of_ble_eq_true rfl⟩) (fl 99 rfl) rfl rfl rfl rfl hl.1 rfl (Nat.le_of_ble_eq_true rfl) ⟨Nat.le_refl _, Nat.le_refl _⟩ dL_law_908 (fun x1 w2 H locs h hW hS => ?_)
        refine rb_icmp_eq (tgt := 1377) hx hb h dL_law_911 (by decide) (fun h => ?_) (fun h => by cases h)
        exact JN _ _ _ _ (by cases h; exact hg) hW hS hl
      · exact absurd hz0 z
    · have hb0 : bz (xs (v3 + (2 : Int32)).toNatClampNeg) = (1 : Int32) := if_neg hz0
      rw [hb0] at h
      refine lv_iconst (v := (1 : Int32)) hx hb dL_law_881 (by decide) ?_
      refine lv_goto (tgt := 886) hx hb dL_law_882 (by decide) ?_
      refine rc_Vi (k := 0) (As := [.int (xs (v3 + (1 : Int32)).toNatClampNeg), .int (1 : Int32)]) (rest := []) (S_ (inL_X8_span)) hW hS h (kX8_span l E (xs (v3 + (1 : Int32)).toNatClampNeg) (1 : Int32) w) (cwV 2 (fun w h => hts0 w (inL_X8_span w h)) gL2_X8_span rfl rfl rfl hdX8_span ⟨Nat.le_of_ble_eq_true rfl, Nat.le_of_ble_eq_true rfl⟩) (fl 0 rfl) rfl rfl rfl rfl hl.1 rfl (Nat.le_of_ble_eq_true rfl) ⟨Nat.le_refl _, Nat.le_refl _⟩ dL_law_886 (fun x0 w1 H locs h hW hS => ?_)
      refine lv_aload_n hx hb dL_law_889 rfl (lv_at hl 2 rfl) ?_
      refine lv_aload_n hx hb dL_law_890 rfl (lv_at hl 0 rfl) ?_
      refine lv_iload_n hx hb dL_law_891 rfl (lv_at hl 3 rfl) ?_
      refine lv_iconst (v := (1 : Int32)) hx hb dL_law_892 (by decide) ?_
      refine lv_iadd hx hb dL_law_893 ?_
      refine va_sld hx hb hX hbl hbA hS hi1 dL_law_894 ?_
      refine lv_aload_n hx hb dL_law_895 rfl (lv_at hl 0 rfl) ?_
      refine lv_iload_n hx hb dL_law_896 rfl (lv_at hl 3 rfl) ?_
      refine lv_iconst (v := (2 : Int32)) hx hb dL_law_897 (by decide) ?_
      refine lv_iadd hx hb dL_law_898 ?_
      refine va_sld hx hb hX hbl hbA hS hi2 dL_law_899 ?_
      refine lv_if_eq (tgt := 907) hx hb dL_law_900 (by decide) (fun z => ?_) (fun z => ?_)
      · exact absurd z hz0
      · refine lv_iconst (v := (1 : Int32)) hx hb dL_law_903 (by decide) ?_
        refine lv_goto (tgt := 908) hx hb dL_law_904 (by decide) ?_
        refine rc_Vi (k := 99) (As := [.int (xs (v3 + (1 : Int32)).toNatClampNeg), .int (1 : Int32)]) (rest := [.int x0]) (S_ (inL_X9_span)) hW hS h (kX9_span l E (xs (v3 + (1 : Int32)).toNatClampNeg) (1 : Int32) w1) (cwV 2 (fun w h => hts0 w (inL_X9_span w h)) gL2_X9_span rfl rfl rfl hdX9_span ⟨Nat.le_of_ble_eq_true rfl, Nat.le_of_ble_eq_true rfl⟩) (fl 99 rfl) rfl rfl rfl rfl hl.1 rfl (Nat.le_of_ble_eq_true rfl) ⟨Nat.le_refl _, Nat.le_refl _⟩ dL_law_908 (fun x1 w2 H locs h hW hS => ?_)
        refine rb_icmp_eq (tgt := 1377) hx hb h dL_law_911 (by decide) (fun h => ?_) (fun h => by cases h)
        exact JN _ _ _ _ (by cases h; exact hg) hW hS hl
  rw [if_neg c19] at h
  by_cases c20 : o9 = 20
  · rw [if_pos c20] at h
    refine lv_tableIn (off := 884) (tgt := 916) hx hb dL_law_32 (by rw [c20]; decide) (by rw [c20]; decide) (by rw [c20]; rfl) (by decide) ?_
    unfold st20 at h
    refine lv_aload_n hx hb dL_law_916 rfl (lv_at hl 1 rfl) ?_
    refine lv_aload_n hx hb dL_law_917 rfl (lv_at hl 0 rfl) ?_
    refine lv_iload_n hx hb dL_law_918 rfl (lv_at hl 3 rfl) ?_
    refine lv_iconst (v := (1 : Int32)) hx hb dL_law_919 (by decide) ?_
    refine lv_iadd hx hb dL_law_920 ?_
    refine va_sld hx hb hX hbl hbA hS hi1 dL_law_921 ?_
    refine lv_if_eq (tgt := 929) hx hb dL_law_922 (by decide) (fun hz0 => ?_) (fun hz0 => ?_)
    · have hb0 : bz (xs (v3 + (1 : Int32)).toNatClampNeg) = (0 : Int32) := if_pos hz0
      rw [hb0] at h
      refine lv_iconst (v := (0 : Int32)) hx hb dL_law_929 (by decide) ?_
      refine rc_Vi (k := 0) (As := [.int (0 : Int32)]) (rest := []) (S_ (inL_X8_count)) hW hS h (kX8_count l E (0 : Int32) w) (cwV 1 (fun w h => hts0 w (inL_X8_count w h)) gL2_X8_count rfl rfl rfl hdX8_count ⟨Nat.le_of_ble_eq_true rfl, Nat.le_of_ble_eq_true rfl⟩) (fl 0 rfl) rfl rfl rfl rfl hl.1 rfl (Nat.le_of_ble_eq_true rfl) ⟨Nat.le_refl _, Nat.le_refl _⟩ dL_law_930 (fun x0 w1 H locs h hW hS => ?_)
      refine lv_aload_n hx hb dL_law_933 rfl (lv_at hl 2 rfl) ?_
      refine lv_aload_n hx hb dL_law_934 rfl (lv_at hl 0 rfl) ?_
      refine lv_iload_n hx hb dL_law_935 rfl (lv_at hl 3 rfl) ?_
      refine lv_iconst (v := (1 : Int32)) hx hb dL_law_936 (by decide) ?_
      refine lv_iadd hx hb dL_law_937 ?_
      refine va_sld hx hb hX hbl hbA hS hi1 dL_law_938 ?_
      refine lv_if_eq (tgt := 946) hx hb dL_law_939 (by decide) (fun z => ?_) (fun z => ?_)
      · refine lv_iconst (v := (0 : Int32)) hx hb dL_law_946 (by decide) ?_
        refine rc_Vi (k := 99) (As := [.int (0 : Int32)]) (rest := [.int x0]) (S_ (inL_X9_count)) hW hS h (kX9_count l E (0 : Int32) w1) (cwV 1 (fun w h => hts0 w (inL_X9_count w h)) gL2_X9_count rfl rfl rfl hdX9_count ⟨Nat.le_of_ble_eq_true rfl, Nat.le_of_ble_eq_true rfl⟩) (fl 99 rfl) rfl rfl rfl rfl hl.1 rfl (Nat.le_of_ble_eq_true rfl) ⟨Nat.le_refl _, Nat.le_refl _⟩ dL_law_947 (fun x1 w2 H locs h hW hS => ?_)
        refine rb_icmp_eq (tgt := 1377) hx hb h dL_law_950 (by decide) (fun h => ?_) (fun h => by cases h)
        exact JN _ _ _ _ (by cases h; exact hg) hW hS hl
      · exact absurd hz0 z
    · have hb0 : bz (xs (v3 + (1 : Int32)).toNatClampNeg) = (1 : Int32) := if_neg hz0
      rw [hb0] at h
      refine lv_iconst (v := (1 : Int32)) hx hb dL_law_925 (by decide) ?_
      refine lv_goto (tgt := 930) hx hb dL_law_926 (by decide) ?_
      refine rc_Vi (k := 0) (As := [.int (1 : Int32)]) (rest := []) (S_ (inL_X8_count)) hW hS h (kX8_count l E (1 : Int32) w) (cwV 1 (fun w h => hts0 w (inL_X8_count w h)) gL2_X8_count rfl rfl rfl hdX8_count ⟨Nat.le_of_ble_eq_true rfl, Nat.le_of_ble_eq_true rfl⟩) (fl 0 rfl) rfl rfl rfl rfl hl.1 rfl (Nat.le_of_ble_eq_true rfl) ⟨Nat.le_refl _, Nat.le_refl _⟩ dL_law_930 (fun x0 w1 H locs h hW hS => ?_)
      refine lv_aload_n hx hb dL_law_933 rfl (lv_at hl 2 rfl) ?_
      refine lv_aload_n hx hb dL_law_934 rfl (lv_at hl 0 rfl) ?_
      refine lv_iload_n hx hb dL_law_935 rfl (lv_at hl 3 rfl) ?_
      refine lv_iconst (v := (1 : Int32)) hx hb dL_law_936 (by decide) ?_
      refine lv_iadd hx hb dL_law_937 ?_
      refine va_sld hx hb hX hbl hbA hS hi1 dL_law_938 ?_
      refine lv_if_eq (tgt := 946) hx hb dL_law_939 (by decide) (fun z => ?_) (fun z => ?_)
      · exact absurd z hz0
      · refine lv_iconst (v := (1 : Int32)) hx hb dL_law_942 (by decide) ?_
        refine lv_goto (tgt := 947) hx hb dL_law_943 (by decide) ?_
        refine rc_Vi (k := 99) (As := [.int (1 : Int32)]) (rest := [.int x0]) (S_ (inL_X9_count)) hW hS h (kX9_count l E (1 : Int32) w1) (cwV 1 (fun w h => hts0 w (inL_X9_count w h)) gL2_X9_count rfl rfl rfl hdX9_count ⟨Nat.le_of_ble_eq_true rfl, Nat.le_of_ble_eq_true rfl⟩) (fl 99 rfl) rfl rfl rfl rfl hl.1 rfl (Nat.le_of_ble_eq_true rfl) ⟨Nat.le_refl _, Nat.le_refl _⟩ dL_law_947 (fun x1 w2 H locs h hW hS => ?_)
        refine rb_icmp_eq (tgt := 1377) hx hb h dL_law_950 (by decide) (fun h => ?_) (fun h => by cases h)
        exact JN _ _ _ _ (by cases h; exact hg) hW hS hl
  rw [if_neg c20] at h
  by_cases c21 : o9 = 21
  · rw [if_pos c21] at h
    refine lv_tableIn (off := 923) (tgt := 955) hx hb dL_law_32 (by rw [c21]; decide) (by rw [c21]; decide) (by rw [c21]; rfl) (by decide) ?_
    unfold st21 at h
    refine lv_aload_n hx hb dL_law_955 rfl (lv_at hl 1 rfl) ?_
    refine lv_aload_n hx hb dL_law_956 rfl (lv_at hl 0 rfl) ?_
    refine lv_iload_n hx hb dL_law_957 rfl (lv_at hl 3 rfl) ?_
    refine lv_iconst (v := (1 : Int32)) hx hb dL_law_958 (by decide) ?_
    refine lv_iadd hx hb dL_law_959 ?_
    refine va_sld hx hb hX hbl hbA hS hi1 dL_law_960 ?_
    refine lv_aload_n hx hb dL_law_961 rfl (lv_at hl 0 rfl) ?_
    refine lv_iload_n hx hb dL_law_962 rfl (lv_at hl 3 rfl) ?_
    refine lv_iconst (v := (2 : Int32)) hx hb dL_law_963 (by decide) ?_
    refine lv_iadd hx hb dL_law_964 ?_
    refine va_sld hx hb hX hbl hbA hS hi2 dL_law_965 ?_
    refine lv_i2l (v := ((xs (v3 + (2 : Int32)).toNatClampNeg).toInt64)) hx hb dL_law_966 rfl ?_
    refine lv_bipush (v := (32 : Int32)) hx hb dL_law_967 (by decide) ?_
    refine lv_lshl (v := (((xs (v3 + (2 : Int32)).toNatClampNeg).toInt64) <<< ((32 : Int32).toInt64 &&& 63))) hx hb dL_law_969 rfl ?_
    refine lv_aload_n hx hb dL_law_970 rfl (lv_at hl 0 rfl) ?_
    refine lv_iload_n hx hb dL_law_971 rfl (lv_at hl 3 rfl) ?_
    refine lv_iconst (v := (3 : Int32)) hx hb dL_law_972 (by decide) ?_
    refine lv_iadd hx hb dL_law_973 ?_
    refine va_sld hx hb hX hbl hbA hS hi3 dL_law_974 ?_
    refine lv_i2l (v := ((xs (v3 + (3 : Int32)).toNatClampNeg).toInt64)) hx hb dL_law_975 rfl ?_
    refine lv_ldc2 (own := RL) (v := (4294967295 : Int64)) hx hb hown (hts0 _ (inC_law _ List.mem_cons_self)) dL_law_976 ?_
    refine lv_land hx hb dL_law_979 ?_
    refine lv_lor hx hb dL_law_980 ?_
    refine rc_Vi (k := 0) (As := [.int (xs (v3 + (1 : Int32)).toNatClampNeg), .long ((((xs (v3 + (2 : Int32)).toNatClampNeg).toInt64) <<< ((32 : Int32).toInt64 &&& 63)) ||| (((xs (v3 + (3 : Int32)).toNatClampNeg).toInt64) &&& (4294967295 : Int64)))]) (rest := []) (S_ (inL_X8_lay)) hW hS h (kX8_lay l E (xs (v3 + (1 : Int32)).toNatClampNeg) ((((xs (v3 + (2 : Int32)).toNatClampNeg).toInt64) <<< ((32 : Int32).toInt64 &&& 63)) ||| (((xs (v3 + (3 : Int32)).toNatClampNeg).toInt64) &&& (4294967295 : Int64))) w) (cwV 2 (fun w h => hts0 w (inL_X8_lay w h)) gL2_X8_lay rfl rfl rfl hdX8_lay ⟨Nat.le_of_ble_eq_true rfl, Nat.le_of_ble_eq_true rfl⟩) (fl 0 rfl) rfl rfl rfl rfl hl.1 rfl (Nat.le_of_ble_eq_true rfl) ⟨Nat.le_refl _, Nat.le_refl _⟩ dL_law_981 (fun x0 w1 H locs h hW hS => ?_)
    refine lv_aload_n hx hb dL_law_984 rfl (lv_at hl 2 rfl) ?_
    refine lv_aload_n hx hb dL_law_985 rfl (lv_at hl 0 rfl) ?_
    refine lv_iload_n hx hb dL_law_986 rfl (lv_at hl 3 rfl) ?_
    refine lv_iconst (v := (1 : Int32)) hx hb dL_law_987 (by decide) ?_
    refine lv_iadd hx hb dL_law_988 ?_
    refine va_sld hx hb hX hbl hbA hS hi1 dL_law_989 ?_
    refine lv_aload_n hx hb dL_law_990 rfl (lv_at hl 0 rfl) ?_
    refine lv_iload_n hx hb dL_law_991 rfl (lv_at hl 3 rfl) ?_
    refine lv_iconst (v := (2 : Int32)) hx hb dL_law_992 (by decide) ?_
    refine lv_iadd hx hb dL_law_993 ?_
    refine va_sld hx hb hX hbl hbA hS hi2 dL_law_994 ?_
    refine lv_i2l (v := ((xs (v3 + (2 : Int32)).toNatClampNeg).toInt64)) hx hb dL_law_995 rfl ?_
    refine lv_bipush (v := (32 : Int32)) hx hb dL_law_996 (by decide) ?_
    refine lv_lshl (v := (((xs (v3 + (2 : Int32)).toNatClampNeg).toInt64) <<< ((32 : Int32).toInt64 &&& 63))) hx hb dL_law_998 rfl ?_
    refine lv_aload_n hx hb dL_law_999 rfl (lv_at hl 0 rfl) ?_
    refine lv_iload_n hx hb dL_law_1000 rfl (lv_at hl 3 rfl) ?_
    refine lv_iconst (v := (3 : Int32)) hx hb dL_law_1001 (by decide) ?_
    refine lv_iadd hx hb dL_law_1002 ?_
    refine va_sld hx hb hX hbl hbA hS hi3 dL_law_1003 ?_
    refine lv_i2l (v := ((xs (v3 + (3 : Int32)).toNatClampNeg).toInt64)) hx hb dL_law_1004 rfl ?_
    refine lv_ldc2 (own := RL) (v := (4294967295 : Int64)) hx hb hown (hts0 _ (inC_law _ List.mem_cons_self)) dL_law_1005 ?_
    refine lv_land hx hb dL_law_1008 ?_
    refine lv_lor hx hb dL_law_1009 ?_
    refine rc_Vi (k := 99) (As := [.int (xs (v3 + (1 : Int32)).toNatClampNeg), .long ((((xs (v3 + (2 : Int32)).toNatClampNeg).toInt64) <<< ((32 : Int32).toInt64 &&& 63)) ||| (((xs (v3 + (3 : Int32)).toNatClampNeg).toInt64) &&& (4294967295 : Int64)))]) (rest := [.int x0]) (S_ (inL_X9_lay)) hW hS h (kX9_lay l E (xs (v3 + (1 : Int32)).toNatClampNeg) ((((xs (v3 + (2 : Int32)).toNatClampNeg).toInt64) <<< ((32 : Int32).toInt64 &&& 63)) ||| (((xs (v3 + (3 : Int32)).toNatClampNeg).toInt64) &&& (4294967295 : Int64))) w1) (cwV 2 (fun w h => hts0 w (inL_X9_lay w h)) gL2_X9_lay rfl rfl rfl hdX9_lay ⟨Nat.le_of_ble_eq_true rfl, Nat.le_of_ble_eq_true rfl⟩) (fl 99 rfl) rfl rfl rfl rfl hl.1 rfl (Nat.le_of_ble_eq_true rfl) ⟨Nat.le_refl _, Nat.le_refl _⟩ dL_law_1010 (fun x1 w2 H locs h hW hS => ?_)
    refine rb_icmp_eq (tgt := 1377) hx hb h dL_law_1013 (by decide) (fun h => ?_) (fun h => by cases h)
    exact JN _ _ _ _ (by cases h; exact hg) hW hS hl
  rw [if_neg c21] at h
  by_cases c22 : o9 = 22
  · rw [if_pos c22] at h
    refine lv_tableIn (off := 986) (tgt := 1018) hx hb dL_law_32 (by rw [c22]; decide) (by rw [c22]; decide) (by rw [c22]; rfl) (by decide) ?_
    unfold st22 at h
    refine lv_aload_n hx hb dL_law_1018 rfl (lv_at hl 1 rfl) ?_
    refine lv_aload_n hx hb dL_law_1019 rfl (lv_at hl 0 rfl) ?_
    refine lv_iload_n hx hb dL_law_1020 rfl (lv_at hl 3 rfl) ?_
    refine lv_iconst (v := (1 : Int32)) hx hb dL_law_1021 (by decide) ?_
    refine lv_iadd hx hb dL_law_1022 ?_
    refine va_sld hx hb hX hbl hbA hS hi1 dL_law_1023 ?_
    refine rc_Vl (k := 0) (As := [.int (xs (v3 + (1 : Int32)).toNatClampNeg)]) (rest := []) (S_ (inL_X8_place)) hW hS h (kX8_place l E (xs (v3 + (1 : Int32)).toNatClampNeg) w) (cwV 1 (fun w h => hts0 w (inL_X8_place w h)) gL2_X8_place rfl rfl rfl hdX8_place ⟨Nat.le_of_ble_eq_true rfl, Nat.le_of_ble_eq_true rfl⟩) (fl 0 rfl) rfl rfl rfl rfl hl.1 rfl (Nat.le_of_ble_eq_true rfl) ⟨Nat.le_refl _, Nat.le_refl _⟩ dL_law_1024 (fun x0 w1 H locs h hW hS => ?_)
    refine lv_aload_n hx hb dL_law_1027 rfl (lv_at hl 2 rfl) ?_
    refine lv_aload_n hx hb dL_law_1028 rfl (lv_at hl 0 rfl) ?_
    refine lv_iload_n hx hb dL_law_1029 rfl (lv_at hl 3 rfl) ?_
    refine lv_iconst (v := (1 : Int32)) hx hb dL_law_1030 (by decide) ?_
    refine lv_iadd hx hb dL_law_1031 ?_
    refine va_sld hx hb hX hbl hbA hS hi1 dL_law_1032 ?_
    refine rc_Vl (k := 99) (As := [.int (xs (v3 + (1 : Int32)).toNatClampNeg)]) (rest := [.long x0]) (S_ (inL_X9_place)) hW hS h (kX9_place l E (xs (v3 + (1 : Int32)).toNatClampNeg) w1) (cwV 1 (fun w h => hts0 w (inL_X9_place w h)) gL2_X9_place rfl rfl rfl hdX9_place ⟨Nat.le_of_ble_eq_true rfl, Nat.le_of_ble_eq_true rfl⟩) (fl 99 rfl) rfl rfl rfl rfl hl.1 rfl (Nat.le_of_ble_eq_true rfl) ⟨Nat.le_refl _, Nat.le_refl _⟩ dL_law_1033 (fun x1 w2 H locs h hW hS => ?_)
    refine rb_lcmp_eq (tgt := 1377) hx hb h dL_law_1036 dL_law_1037 (by decide) (fun h => ?_) (fun h => by cases h)
    exact JN _ _ _ _ (by cases h; exact hg) hW hS hl
  rw [if_neg c22] at h
  by_cases c23 : o9 = 23
  · rw [if_pos c23] at h
    refine lv_tableIn (off := 1010) (tgt := 1042) hx hb dL_law_32 (by rw [c23]; decide) (by rw [c23]; decide) (by rw [c23]; rfl) (by decide) ?_
    unfold st23 at h
    refine lv_aload_n hx hb dL_law_1042 rfl (lv_at hl 1 rfl) ?_
    refine lv_aload_n hx hb dL_law_1043 rfl (lv_at hl 0 rfl) ?_
    refine lv_iload_n hx hb dL_law_1044 rfl (lv_at hl 3 rfl) ?_
    refine lv_iconst (v := (1 : Int32)) hx hb dL_law_1045 (by decide) ?_
    refine lv_iadd hx hb dL_law_1046 ?_
    refine va_sld hx hb hX hbl hbA hS hi1 dL_law_1047 ?_
    refine lv_if_eq (tgt := 1055) hx hb dL_law_1048 (by decide) (fun hz0 => ?_) (fun hz0 => ?_)
    · have hb0 : bz (xs (v3 + (1 : Int32)).toNatClampNeg) = (0 : Int32) := if_pos hz0
      rw [hb0] at h
      refine lv_iconst (v := (0 : Int32)) hx hb dL_law_1055 (by decide) ?_
      refine lv_aload_n hx hb dL_law_1056 rfl (lv_at hl 0 rfl) ?_
      refine lv_iload_n hx hb dL_law_1057 rfl (lv_at hl 3 rfl) ?_
      refine lv_iconst (v := (2 : Int32)) hx hb dL_law_1058 (by decide) ?_
      refine lv_iadd hx hb dL_law_1059 ?_
      refine va_sld hx hb hX hbl hbA hS hi2 dL_law_1060 ?_
      refine lv_aload_n hx hb dL_law_1061 rfl (lv_at hl 0 rfl) ?_
      refine lv_iload_n hx hb dL_law_1062 rfl (lv_at hl 3 rfl) ?_
      refine lv_iconst (v := (3 : Int32)) hx hb dL_law_1063 (by decide) ?_
      refine lv_iadd hx hb dL_law_1064 ?_
      refine va_sld hx hb hX hbl hbA hS hi3 dL_law_1065 ?_
      refine rc_Vi (k := 0) (As := [.int (0 : Int32), .int (xs (v3 + (2 : Int32)).toNatClampNeg), .int (xs (v3 + (3 : Int32)).toNatClampNeg)]) (rest := []) (S_ (inL_X8_tellSum)) hW hS h (kX8_tellSum l E (0 : Int32) (xs (v3 + (2 : Int32)).toNatClampNeg) (xs (v3 + (3 : Int32)).toNatClampNeg) w) (cwV 3 (fun w h => hts0 w (inL_X8_tellSum w h)) gL2_X8_tellSum rfl rfl rfl hdX8_tellSum ⟨Nat.le_of_ble_eq_true rfl, Nat.le_of_ble_eq_true rfl⟩) (fl 0 rfl) rfl rfl rfl rfl hl.1 rfl (Nat.le_of_ble_eq_true rfl) ⟨Nat.le_refl _, Nat.le_refl _⟩ dL_law_1066 (fun x0 w1 H locs h hW hS => ?_)
      refine lv_aload_n hx hb dL_law_1069 rfl (lv_at hl 2 rfl) ?_
      refine lv_aload_n hx hb dL_law_1070 rfl (lv_at hl 0 rfl) ?_
      refine lv_iload_n hx hb dL_law_1071 rfl (lv_at hl 3 rfl) ?_
      refine lv_iconst (v := (1 : Int32)) hx hb dL_law_1072 (by decide) ?_
      refine lv_iadd hx hb dL_law_1073 ?_
      refine va_sld hx hb hX hbl hbA hS hi1 dL_law_1074 ?_
      refine lv_if_eq (tgt := 1082) hx hb dL_law_1075 (by decide) (fun z => ?_) (fun z => ?_)
      · refine lv_iconst (v := (0 : Int32)) hx hb dL_law_1082 (by decide) ?_
        refine lv_aload_n hx hb dL_law_1083 rfl (lv_at hl 0 rfl) ?_
        refine lv_iload_n hx hb dL_law_1084 rfl (lv_at hl 3 rfl) ?_
        refine lv_iconst (v := (2 : Int32)) hx hb dL_law_1085 (by decide) ?_
        refine lv_iadd hx hb dL_law_1086 ?_
        refine va_sld hx hb hX hbl hbA hS hi2 dL_law_1087 ?_
        refine lv_aload_n hx hb dL_law_1088 rfl (lv_at hl 0 rfl) ?_
        refine lv_iload_n hx hb dL_law_1089 rfl (lv_at hl 3 rfl) ?_
        refine lv_iconst (v := (3 : Int32)) hx hb dL_law_1090 (by decide) ?_
        refine lv_iadd hx hb dL_law_1091 ?_
        refine va_sld hx hb hX hbl hbA hS hi3 dL_law_1092 ?_
        refine rc_Vi (k := 99) (As := [.int (0 : Int32), .int (xs (v3 + (2 : Int32)).toNatClampNeg), .int (xs (v3 + (3 : Int32)).toNatClampNeg)]) (rest := [.int x0]) (S_ (inL_X9_tellSum)) hW hS h (kX9_tellSum l E (0 : Int32) (xs (v3 + (2 : Int32)).toNatClampNeg) (xs (v3 + (3 : Int32)).toNatClampNeg) w1) (cwV 3 (fun w h => hts0 w (inL_X9_tellSum w h)) gL2_X9_tellSum rfl rfl rfl hdX9_tellSum ⟨Nat.le_of_ble_eq_true rfl, Nat.le_of_ble_eq_true rfl⟩) (fl 99 rfl) rfl rfl rfl rfl hl.1 rfl (Nat.le_of_ble_eq_true rfl) ⟨Nat.le_refl _, Nat.le_refl _⟩ dL_law_1093 (fun x1 w2 H locs h hW hS => ?_)
        refine rb_icmp_eq (tgt := 1377) hx hb h dL_law_1096 (by decide) (fun h => ?_) (fun h => by cases h)
        exact JN _ _ _ _ (by cases h; exact hg) hW hS hl
      · exact absurd hz0 z
    · have hb0 : bz (xs (v3 + (1 : Int32)).toNatClampNeg) = (1 : Int32) := if_neg hz0
      rw [hb0] at h
      refine lv_iconst (v := (1 : Int32)) hx hb dL_law_1051 (by decide) ?_
      refine lv_goto (tgt := 1056) hx hb dL_law_1052 (by decide) ?_
      refine lv_aload_n hx hb dL_law_1056 rfl (lv_at hl 0 rfl) ?_
      refine lv_iload_n hx hb dL_law_1057 rfl (lv_at hl 3 rfl) ?_
      refine lv_iconst (v := (2 : Int32)) hx hb dL_law_1058 (by decide) ?_
      refine lv_iadd hx hb dL_law_1059 ?_
      refine va_sld hx hb hX hbl hbA hS hi2 dL_law_1060 ?_
      refine lv_aload_n hx hb dL_law_1061 rfl (lv_at hl 0 rfl) ?_
      refine lv_iload_n hx hb dL_law_1062 rfl (lv_at hl 3 rfl) ?_
      refine lv_iconst (v := (3 : Int32)) hx hb dL_law_1063 (by decide) ?_
      refine lv_iadd hx hb dL_law_1064 ?_
      refine va_sld hx hb hX hbl hbA hS hi3 dL_law_1065 ?_
      refine rc_Vi (k := 0) (As := [.int (1 : Int32), .int (xs (v3 + (2 : Int32)).toNatClampNeg), .int (xs (v3 + (3 : Int32)).toNatClampNeg)]) (rest := []) (S_ (inL_X8_tellSum)) hW hS h (kX8_tellSum l E (1 : Int32) (xs (v3 + (2 : Int32)).toNatClampNeg) (xs (v3 + (3 : Int32)).toNatClampNeg) w) (cwV 3 (fun w h => hts0 w (inL_X8_tellSum w h)) gL2_X8_tellSum rfl rfl rfl hdX8_tellSum ⟨Nat.le_of_ble_eq_true rfl, Nat.le_of_ble_eq_true rfl⟩) (fl 0 rfl) rfl rfl rfl rfl hl.1 rfl (Nat.le_of_ble_eq_true rfl) ⟨Nat.le_refl _, Nat.le_refl _⟩ dL_law_1066 (fun x0 w1 H locs h hW hS => ?_)
      refine lv_aload_n hx hb dL_law_1069 rfl (lv_at hl 2 rfl) ?_
      refine lv_aload_n hx hb dL_law_1070 rfl (lv_at hl 0 rfl) ?_
      refine lv_iload_n hx hb dL_law_1071 rfl (lv_at hl 3 rfl) ?_
      refine lv_iconst (v := (1 : Int32)) hx hb dL_law_1072 (by decide) ?_
      refine lv_iadd hx hb dL_law_1073 ?_
      refine va_sld hx hb hX hbl hbA hS hi1 dL_law_1074 ?_
      refine lv_if_eq (tgt := 1082) hx hb dL_law_1075 (by decide) (fun z => ?_) (fun z => ?_)
      · exact absurd z hz0
      · refine lv_iconst (v := (1 : Int32)) hx hb dL_law_1078 (by decide) ?_
        refine lv_goto (tgt := 1083) hx hb dL_law_1079 (by decide) ?_
        refine lv_aload_n hx hb dL_law_1083 rfl (lv_at hl 0 rfl) ?_
        refine lv_iload_n hx hb dL_law_1084 rfl (lv_at hl 3 rfl) ?_
        refine lv_iconst (v := (2 : Int32)) hx hb dL_law_1085 (by decide) ?_
        refine lv_iadd hx hb dL_law_1086 ?_
        refine va_sld hx hb hX hbl hbA hS hi2 dL_law_1087 ?_
        refine lv_aload_n hx hb dL_law_1088 rfl (lv_at hl 0 rfl) ?_
        refine lv_iload_n hx hb dL_law_1089 rfl (lv_at hl 3 rfl) ?_
        refine lv_iconst (v := (3 : Int32)) hx hb dL_law_1090 (by decide) ?_
        refine lv_iadd hx hb dL_law_1091 ?_
        refine va_sld hx hb hX hbl hbA hS hi3 dL_law_1092 ?_
        refine rc_Vi (k := 99) (As := [.int (1 : Int32), .int (xs (v3 + (2 : Int32)).toNatClampNeg), .int (xs (v3 + (3 : Int32)).toNatClampNeg)]) (rest := [.int x0]) (S_ (inL_X9_tellSum)) hW hS h (kX9_tellSum l E (1 : Int32) (xs (v3 + (2 : Int32)).toNatClampNeg) (xs (v3 + (3 : Int32)).toNatClampNeg) w1) (cwV 3 (fun w h => hts0 w (inL_X9_tellSum w h)) gL2_X9_tellSum rfl rfl rfl hdX9_tellSum ⟨Nat.le_of_ble_eq_true rfl, Nat.le_of_ble_eq_true rfl⟩) (fl 99 rfl) rfl rfl rfl rfl hl.1 rfl (Nat.le_of_ble_eq_true rfl) ⟨Nat.le_refl _, Nat.le_refl _⟩ dL_law_1093 (fun x1 w2 H locs h hW hS => ?_)
        refine rb_icmp_eq (tgt := 1377) hx hb h dL_law_1096 (by decide) (fun h => ?_) (fun h => by cases h)
        exact JN _ _ _ _ (by cases h; exact hg) hW hS hl
  rw [if_neg c23] at h
  by_cases c24 : o9 = 24
  · rw [if_pos c24] at h
    refine lv_tableIn (off := 1069) (tgt := 1101) hx hb dL_law_32 (by rw [c24]; decide) (by rw [c24]; decide) (by rw [c24]; rfl) (by decide) ?_
    unfold st24 at h
    refine lv_aload_n hx hb dL_law_1101 rfl (lv_at hl 1 rfl) ?_
    refine lv_aload_n hx hb dL_law_1102 rfl (lv_at hl 0 rfl) ?_
    refine lv_iload_n hx hb dL_law_1103 rfl (lv_at hl 3 rfl) ?_
    refine lv_iconst (v := (1 : Int32)) hx hb dL_law_1104 (by decide) ?_
    refine lv_iadd hx hb dL_law_1105 ?_
    refine va_sld hx hb hX hbl hbA hS hi1 dL_law_1106 ?_
    refine rc_Vi (k := 0) (As := [.int (xs (v3 + (1 : Int32)).toNatClampNeg)]) (rest := []) (S_ (inL_X8_sumsAs)) hW hS h (kX8_sumsAs l E (xs (v3 + (1 : Int32)).toNatClampNeg) w) (cwV 1 (fun w h => hts0 w (inL_X8_sumsAs w h)) gL2_X8_sumsAs rfl rfl rfl hdX8_sumsAs ⟨Nat.le_of_ble_eq_true rfl, Nat.le_of_ble_eq_true rfl⟩) (fl 0 rfl) rfl rfl rfl rfl hl.1 rfl (Nat.le_of_ble_eq_true rfl) ⟨Nat.le_refl _, Nat.le_refl _⟩ dL_law_1107 (fun x0 w1 H locs h hW hS => ?_)
    refine lv_aload_n hx hb dL_law_1110 rfl (lv_at hl 2 rfl) ?_
    refine lv_aload_n hx hb dL_law_1111 rfl (lv_at hl 0 rfl) ?_
    refine lv_iload_n hx hb dL_law_1112 rfl (lv_at hl 3 rfl) ?_
    refine lv_iconst (v := (1 : Int32)) hx hb dL_law_1113 (by decide) ?_
    refine lv_iadd hx hb dL_law_1114 ?_
    refine va_sld hx hb hX hbl hbA hS hi1 dL_law_1115 ?_
    refine rc_Vi (k := 99) (As := [.int (xs (v3 + (1 : Int32)).toNatClampNeg)]) (rest := [.int x0]) (S_ (inL_X9_sumsAs)) hW hS h (kX9_sumsAs l E (xs (v3 + (1 : Int32)).toNatClampNeg) w1) (cwV 1 (fun w h => hts0 w (inL_X9_sumsAs w h)) gL2_X9_sumsAs rfl rfl rfl hdX9_sumsAs ⟨Nat.le_of_ble_eq_true rfl, Nat.le_of_ble_eq_true rfl⟩) (fl 99 rfl) rfl rfl rfl rfl hl.1 rfl (Nat.le_of_ble_eq_true rfl) ⟨Nat.le_refl _, Nat.le_refl _⟩ dL_law_1116 (fun x1 w2 H locs h hW hS => ?_)
    refine rb_icmp_eq (tgt := 1377) hx hb h dL_law_1119 (by decide) (fun h => ?_) (fun h => by cases h)
    exact JN _ _ _ _ (by cases h; exact hg) hW hS hl
  rw [if_neg c24] at h
  by_cases c25 : o9 = 25
  · rw [if_pos c25] at h
    refine lv_tableIn (off := 1092) (tgt := 1124) hx hb dL_law_32 (by rw [c25]; decide) (by rw [c25]; decide) (by rw [c25]; rfl) (by decide) ?_
    unfold st25 at h
    refine lv_aload_n hx hb dL_law_1124 rfl (lv_at hl 1 rfl) ?_
    refine rc_Vi (k := 0) (As := []) (rest := []) (S_ (inL_X8_bySums)) hW hS h (kX8_bySums l E  w) (cwV 0 (fun w h => hts0 w (inL_X8_bySums w h)) gL2_X8_bySums rfl rfl rfl hdX8_bySums ⟨Nat.le_of_ble_eq_true rfl, Nat.le_of_ble_eq_true rfl⟩) (fl 0 rfl) rfl rfl rfl rfl hl.1 rfl (Nat.le_of_ble_eq_true rfl) ⟨Nat.le_refl _, Nat.le_refl _⟩ dL_law_1125 (fun x0 w1 H locs h hW hS => ?_)
    refine lv_aload_n hx hb dL_law_1128 rfl (lv_at hl 2 rfl) ?_
    refine rc_Vi (k := 99) (As := []) (rest := [.int x0]) (S_ (inL_X9_bySums)) hW hS h (kX9_bySums l E  w1) (cwV 0 (fun w h => hts0 w (inL_X9_bySums w h)) gL2_X9_bySums rfl rfl rfl hdX9_bySums ⟨Nat.le_of_ble_eq_true rfl, Nat.le_of_ble_eq_true rfl⟩) (fl 99 rfl) rfl rfl rfl rfl hl.1 rfl (Nat.le_of_ble_eq_true rfl) ⟨Nat.le_refl _, Nat.le_refl _⟩ dL_law_1129 (fun x1 w2 H locs h hW hS => ?_)
    refine rb_icmp_eq (tgt := 1377) hx hb h dL_law_1132 (by decide) (fun h => ?_) (fun h => by cases h)
    exact JN _ _ _ _ (by cases h; exact hg) hW hS hl
  rw [if_neg c25] at h
  by_cases c26 : o9 = 26
  · rw [if_pos c26] at h
    refine lv_tableIn (off := 1105) (tgt := 1137) hx hb dL_law_32 (by rw [c26]; decide) (by rw [c26]; decide) (by rw [c26]; rfl) (by decide) ?_
    unfold st26 at h
    refine lv_aload_n hx hb dL_law_1137 rfl (lv_at hl 1 rfl) ?_
    refine lv_aload_n hx hb dL_law_1138 rfl (lv_at hl 0 rfl) ?_
    refine lv_iload_n hx hb dL_law_1139 rfl (lv_at hl 3 rfl) ?_
    refine lv_iconst (v := (1 : Int32)) hx hb dL_law_1140 (by decide) ?_
    refine lv_iadd hx hb dL_law_1141 ?_
    refine va_sld hx hb hX hbl hbA hS hi1 dL_law_1142 ?_
    refine rc_Vi (k := 0) (As := [.int (xs (v3 + (1 : Int32)).toNatClampNeg)]) (rest := []) (S_ (inL_X8_laySums)) hW hS h (kX8_laySums l E (xs (v3 + (1 : Int32)).toNatClampNeg) w) (cwV 1 (fun w h => hts0 w (inL_X8_laySums w h)) gL2_X8_laySums rfl rfl rfl hdX8_laySums ⟨Nat.le_of_ble_eq_true rfl, Nat.le_of_ble_eq_true rfl⟩) (fl 0 rfl) rfl rfl rfl rfl hl.1 rfl (Nat.le_of_ble_eq_true rfl) ⟨Nat.le_refl _, Nat.le_refl _⟩ dL_law_1143 (fun x0 w1 H locs h hW hS => ?_)
    refine lv_aload_n hx hb dL_law_1146 rfl (lv_at hl 2 rfl) ?_
    refine lv_aload_n hx hb dL_law_1147 rfl (lv_at hl 0 rfl) ?_
    refine lv_iload_n hx hb dL_law_1148 rfl (lv_at hl 3 rfl) ?_
    refine lv_iconst (v := (1 : Int32)) hx hb dL_law_1149 (by decide) ?_
    refine lv_iadd hx hb dL_law_1150 ?_
    refine va_sld hx hb hX hbl hbA hS hi1 dL_law_1151 ?_
    refine rc_Vi (k := 99) (As := [.int (xs (v3 + (1 : Int32)).toNatClampNeg)]) (rest := [.int x0]) (S_ (inL_X9_laySums)) hW hS h (kX9_laySums l E (xs (v3 + (1 : Int32)).toNatClampNeg) w1) (cwV 1 (fun w h => hts0 w (inL_X9_laySums w h)) gL2_X9_laySums rfl rfl rfl hdX9_laySums ⟨Nat.le_of_ble_eq_true rfl, Nat.le_of_ble_eq_true rfl⟩) (fl 99 rfl) rfl rfl rfl rfl hl.1 rfl (Nat.le_of_ble_eq_true rfl) ⟨Nat.le_refl _, Nat.le_refl _⟩ dL_law_1152 (fun x1 w2 H locs h hW hS => ?_)
    refine rb_icmp_eq (tgt := 1377) hx hb h dL_law_1155 (by decide) (fun h => ?_) (fun h => by cases h)
    exact JN _ _ _ _ (by cases h; exact hg) hW hS hl
  rw [if_neg c26] at h
  by_cases c27 : o9 = 27
  · rw [if_pos c27] at h
    refine lv_tableIn (off := 1128) (tgt := 1160) hx hb dL_law_32 (by rw [c27]; decide) (by rw [c27]; decide) (by rw [c27]; rfl) (by decide) ?_
    unfold st27 at h
    refine lv_aload_n hx hb dL_law_1160 rfl (lv_at hl 1 rfl) ?_
    refine lv_aload_n hx hb dL_law_1161 rfl (lv_at hl 0 rfl) ?_
    refine lv_iload_n hx hb dL_law_1162 rfl (lv_at hl 3 rfl) ?_
    refine lv_iconst (v := (1 : Int32)) hx hb dL_law_1163 (by decide) ?_
    refine lv_iadd hx hb dL_law_1164 ?_
    refine va_sld hx hb hX hbl hbA hS hi1 dL_law_1165 ?_
    refine lv_aload_n hx hb dL_law_1166 rfl (lv_at hl 0 rfl) ?_
    refine lv_iload_n hx hb dL_law_1167 rfl (lv_at hl 3 rfl) ?_
    refine lv_iconst (v := (2 : Int32)) hx hb dL_law_1168 (by decide) ?_
    refine lv_iadd hx hb dL_law_1169 ?_
    refine va_sld hx hb hX hbl hbA hS hi2 dL_law_1170 ?_
    refine lv_if_eq (tgt := 1178) hx hb dL_law_1171 (by decide) (fun hz0 => ?_) (fun hz0 => ?_)
    · have hb0 : bz (xs (v3 + (2 : Int32)).toNatClampNeg) = (0 : Int32) := if_pos hz0
      rw [hb0] at h
      refine lv_iconst (v := (0 : Int32)) hx hb dL_law_1178 (by decide) ?_
      refine rc_Vi (k := 0) (As := [.int (xs (v3 + (1 : Int32)).toNatClampNeg), .int (0 : Int32)]) (rest := []) (S_ (inL_X8_spanSums)) hW hS h (kX8_spanSums l E (xs (v3 + (1 : Int32)).toNatClampNeg) (0 : Int32) w) (cwV 2 (fun w h => hts0 w (inL_X8_spanSums w h)) gL2_X8_spanSums rfl rfl rfl hdX8_spanSums ⟨Nat.le_of_ble_eq_true rfl, Nat.le_of_ble_eq_true rfl⟩) (fl 0 rfl) rfl rfl rfl rfl hl.1 rfl (Nat.le_of_ble_eq_true rfl) ⟨Nat.le_refl _, Nat.le_refl _⟩ dL_law_1179 (fun x0 w1 H locs h hW hS => ?_)
      refine lv_aload_n hx hb dL_law_1182 rfl (lv_at hl 2 rfl) ?_
      refine lv_aload_n hx hb dL_law_1183 rfl (lv_at hl 0 rfl) ?_
      refine lv_iload_n hx hb dL_law_1184 rfl (lv_at hl 3 rfl) ?_
      refine lv_iconst (v := (1 : Int32)) hx hb dL_law_1185 (by decide) ?_
      refine lv_iadd hx hb dL_law_1186 ?_
      refine va_sld hx hb hX hbl hbA hS hi1 dL_law_1187 ?_
      refine lv_aload_n hx hb dL_law_1188 rfl (lv_at hl 0 rfl) ?_
      refine lv_iload_n hx hb dL_law_1189 rfl (lv_at hl 3 rfl) ?_
      refine lv_iconst (v := (2 : Int32)) hx hb dL_law_1190 (by decide) ?_
      refine lv_iadd hx hb dL_law_1191 ?_
      refine va_sld hx hb hX hbl hbA hS hi2 dL_law_1192 ?_
      refine lv_if_eq (tgt := 1200) hx hb dL_law_1193 (by decide) (fun z => ?_) (fun z => ?_)
      · refine lv_iconst (v := (0 : Int32)) hx hb dL_law_1200 (by decide) ?_
        refine rc_Vi (k := 99) (As := [.int (xs (v3 + (1 : Int32)).toNatClampNeg), .int (0 : Int32)]) (rest := [.int x0]) (S_ (inL_X9_spanSums)) hW hS h (kX9_spanSums l E (xs (v3 + (1 : Int32)).toNatClampNeg) (0 : Int32) w1) (cwV 2 (fun w h => hts0 w (inL_X9_spanSums w h)) gL2_X9_spanSums rfl rfl rfl hdX9_spanSums ⟨Nat.le_of_ble_eq_true rfl, Nat.le_of_ble_eq_true rfl⟩) (fl 99 rfl) rfl rfl rfl rfl hl.1 rfl (Nat.le_of_ble_eq_true rfl) ⟨Nat.le_refl _, Nat.le_refl _⟩ dL_law_1201 (fun x1 w2 H locs h hW hS => ?_)
        refine rb_icmp_eq (tgt := 1377) hx hb h dL_law_1204 (by decide) (fun h => ?_) (fun h => by cases h)
        exact JN _ _ _ _ (by cases h; exact hg) hW hS hl
      · exact absurd hz0 z
    · have hb0 : bz (xs (v3 + (2 : Int32)).toNatClampNeg) = (1 : Int32) := if_neg hz0
      rw [hb0] at h
      refine lv_iconst (v := (1 : Int32)) hx hb dL_law_1174 (by decide) ?_
      refine lv_goto (tgt := 1179) hx hb dL_law_1175 (by decide) ?_
      refine rc_Vi (k := 0) (As := [.int (xs (v3 + (1 : Int32)).toNatClampNeg), .int (1 : Int32)]) (rest := []) (S_ (inL_X8_spanSums)) hW hS h (kX8_spanSums l E (xs (v3 + (1 : Int32)).toNatClampNeg) (1 : Int32) w) (cwV 2 (fun w h => hts0 w (inL_X8_spanSums w h)) gL2_X8_spanSums rfl rfl rfl hdX8_spanSums ⟨Nat.le_of_ble_eq_true rfl, Nat.le_of_ble_eq_true rfl⟩) (fl 0 rfl) rfl rfl rfl rfl hl.1 rfl (Nat.le_of_ble_eq_true rfl) ⟨Nat.le_refl _, Nat.le_refl _⟩ dL_law_1179 (fun x0 w1 H locs h hW hS => ?_)
      refine lv_aload_n hx hb dL_law_1182 rfl (lv_at hl 2 rfl) ?_
      refine lv_aload_n hx hb dL_law_1183 rfl (lv_at hl 0 rfl) ?_
      refine lv_iload_n hx hb dL_law_1184 rfl (lv_at hl 3 rfl) ?_
      refine lv_iconst (v := (1 : Int32)) hx hb dL_law_1185 (by decide) ?_
      refine lv_iadd hx hb dL_law_1186 ?_
      refine va_sld hx hb hX hbl hbA hS hi1 dL_law_1187 ?_
      refine lv_aload_n hx hb dL_law_1188 rfl (lv_at hl 0 rfl) ?_
      refine lv_iload_n hx hb dL_law_1189 rfl (lv_at hl 3 rfl) ?_
      refine lv_iconst (v := (2 : Int32)) hx hb dL_law_1190 (by decide) ?_
      refine lv_iadd hx hb dL_law_1191 ?_
      refine va_sld hx hb hX hbl hbA hS hi2 dL_law_1192 ?_
      refine lv_if_eq (tgt := 1200) hx hb dL_law_1193 (by decide) (fun z => ?_) (fun z => ?_)
      · exact absurd z hz0
      · refine lv_iconst (v := (1 : Int32)) hx hb dL_law_1196 (by decide) ?_
        refine lv_goto (tgt := 1201) hx hb dL_law_1197 (by decide) ?_
        refine rc_Vi (k := 99) (As := [.int (xs (v3 + (1 : Int32)).toNatClampNeg), .int (1 : Int32)]) (rest := [.int x0]) (S_ (inL_X9_spanSums)) hW hS h (kX9_spanSums l E (xs (v3 + (1 : Int32)).toNatClampNeg) (1 : Int32) w1) (cwV 2 (fun w h => hts0 w (inL_X9_spanSums w h)) gL2_X9_spanSums rfl rfl rfl hdX9_spanSums ⟨Nat.le_of_ble_eq_true rfl, Nat.le_of_ble_eq_true rfl⟩) (fl 99 rfl) rfl rfl rfl rfl hl.1 rfl (Nat.le_of_ble_eq_true rfl) ⟨Nat.le_refl _, Nat.le_refl _⟩ dL_law_1201 (fun x1 w2 H locs h hW hS => ?_)
        refine rb_icmp_eq (tgt := 1377) hx hb h dL_law_1204 (by decide) (fun h => ?_) (fun h => by cases h)
        exact JN _ _ _ _ (by cases h; exact hg) hW hS hl
  rw [if_neg c27] at h
  by_cases c28 : o9 = 28
  · rw [if_pos c28] at h
    refine lv_tableIn (off := 1177) (tgt := 1209) hx hb dL_law_32 (by rw [c28]; decide) (by rw [c28]; decide) (by rw [c28]; rfl) (by decide) ?_
    unfold st28 at h
    refine lv_aload_n hx hb dL_law_1209 rfl (lv_at hl 1 rfl) ?_
    refine lv_aload_n hx hb dL_law_1210 rfl (lv_at hl 0 rfl) ?_
    refine lv_iload_n hx hb dL_law_1211 rfl (lv_at hl 3 rfl) ?_
    refine lv_iconst (v := (1 : Int32)) hx hb dL_law_1212 (by decide) ?_
    refine lv_iadd hx hb dL_law_1213 ?_
    refine va_sld hx hb hX hbl hbA hS hi1 dL_law_1214 ?_
    refine lv_aload_n hx hb dL_law_1215 rfl (lv_at hl 0 rfl) ?_
    refine lv_iload_n hx hb dL_law_1216 rfl (lv_at hl 3 rfl) ?_
    refine lv_iconst (v := (2 : Int32)) hx hb dL_law_1217 (by decide) ?_
    refine lv_iadd hx hb dL_law_1218 ?_
    refine va_sld hx hb hX hbl hbA hS hi2 dL_law_1219 ?_
    refine rc_Vi (k := 0) (As := [.int (xs (v3 + (1 : Int32)).toNatClampNeg), .int (xs (v3 + (2 : Int32)).toNatClampNeg)]) (rest := []) (S_ (inL_X8_carry)) hW hS h (kX8_carry l E (xs (v3 + (1 : Int32)).toNatClampNeg) (xs (v3 + (2 : Int32)).toNatClampNeg) w) (cwV 2 (fun w h => hts0 w (inL_X8_carry w h)) gL2_X8_carry rfl rfl rfl hdX8_carry ⟨Nat.le_of_ble_eq_true rfl, Nat.le_of_ble_eq_true rfl⟩) (fl 0 rfl) rfl rfl rfl rfl hl.1 rfl (Nat.le_of_ble_eq_true rfl) ⟨Nat.le_refl _, Nat.le_refl _⟩ dL_law_1220 (fun x0 w1 H locs h hW hS => ?_)
    refine lv_aload_n hx hb dL_law_1223 rfl (lv_at hl 2 rfl) ?_
    refine lv_aload_n hx hb dL_law_1224 rfl (lv_at hl 0 rfl) ?_
    refine lv_iload_n hx hb dL_law_1225 rfl (lv_at hl 3 rfl) ?_
    refine lv_iconst (v := (1 : Int32)) hx hb dL_law_1226 (by decide) ?_
    refine lv_iadd hx hb dL_law_1227 ?_
    refine va_sld hx hb hX hbl hbA hS hi1 dL_law_1228 ?_
    refine lv_aload_n hx hb dL_law_1229 rfl (lv_at hl 0 rfl) ?_
    refine lv_iload_n hx hb dL_law_1230 rfl (lv_at hl 3 rfl) ?_
    refine lv_iconst (v := (2 : Int32)) hx hb dL_law_1231 (by decide) ?_
    refine lv_iadd hx hb dL_law_1232 ?_
    refine va_sld hx hb hX hbl hbA hS hi2 dL_law_1233 ?_
    refine rc_Vi (k := 99) (As := [.int (xs (v3 + (1 : Int32)).toNatClampNeg), .int (xs (v3 + (2 : Int32)).toNatClampNeg)]) (rest := [.int x0]) (S_ (inL_X9_carry)) hW hS h (kX9_carry l E (xs (v3 + (1 : Int32)).toNatClampNeg) (xs (v3 + (2 : Int32)).toNatClampNeg) w1) (cwV 2 (fun w h => hts0 w (inL_X9_carry w h)) gL2_X9_carry rfl rfl rfl hdX9_carry ⟨Nat.le_of_ble_eq_true rfl, Nat.le_of_ble_eq_true rfl⟩) (fl 99 rfl) rfl rfl rfl rfl hl.1 rfl (Nat.le_of_ble_eq_true rfl) ⟨Nat.le_refl _, Nat.le_refl _⟩ dL_law_1234 (fun x1 w2 H locs h hW hS => ?_)
    refine rb_icmp_eq (tgt := 1377) hx hb h dL_law_1237 (by decide) (fun h => ?_) (fun h => by cases h)
    exact JN _ _ _ _ (by cases h; exact hg) hW hS hl
  rw [if_neg c28] at h
  by_cases c29 : o9 = 29
  · rw [if_pos c29] at h
    refine lv_tableIn (off := 1210) (tgt := 1242) hx hb dL_law_32 (by rw [c29]; decide) (by rw [c29]; decide) (by rw [c29]; rfl) (by decide) ?_
    unfold st29 at h
    refine lv_aload_n hx hb dL_law_1242 rfl (lv_at hl 1 rfl) ?_
    refine lv_aload_n hx hb dL_law_1243 rfl (lv_at hl 0 rfl) ?_
    refine lv_iload_n hx hb dL_law_1244 rfl (lv_at hl 3 rfl) ?_
    refine lv_iconst (v := (1 : Int32)) hx hb dL_law_1245 (by decide) ?_
    refine lv_iadd hx hb dL_law_1246 ?_
    refine va_sld hx hb hX hbl hbA hS hi1 dL_law_1247 ?_
    refine lv_aload_n hx hb dL_law_1248 rfl (lv_at hl 0 rfl) ?_
    refine lv_iload_n hx hb dL_law_1249 rfl (lv_at hl 3 rfl) ?_
    refine lv_iconst (v := (2 : Int32)) hx hb dL_law_1250 (by decide) ?_
    refine lv_iadd hx hb dL_law_1251 ?_
    refine va_sld hx hb hX hbl hbA hS hi2 dL_law_1252 ?_
    refine rc_Vi (k := 0) (As := [.int (xs (v3 + (1 : Int32)).toNatClampNeg), .int (xs (v3 + (2 : Int32)).toNatClampNeg)]) (rest := []) (S_ (inL_X8_turn)) hW hS h (kX8_turn l E (xs (v3 + (1 : Int32)).toNatClampNeg) (xs (v3 + (2 : Int32)).toNatClampNeg) w) (cwV 2 (fun w h => hts0 w (inL_X8_turn w h)) gL2_X8_turn rfl rfl rfl hdX8_turn ⟨Nat.le_of_ble_eq_true rfl, Nat.le_of_ble_eq_true rfl⟩) (fl 0 rfl) rfl rfl rfl rfl hl.1 rfl (Nat.le_of_ble_eq_true rfl) ⟨Nat.le_refl _, Nat.le_refl _⟩ dL_law_1253 (fun x0 w1 H locs h hW hS => ?_)
    refine lv_aload_n hx hb dL_law_1256 rfl (lv_at hl 2 rfl) ?_
    refine lv_aload_n hx hb dL_law_1257 rfl (lv_at hl 0 rfl) ?_
    refine lv_iload_n hx hb dL_law_1258 rfl (lv_at hl 3 rfl) ?_
    refine lv_iconst (v := (1 : Int32)) hx hb dL_law_1259 (by decide) ?_
    refine lv_iadd hx hb dL_law_1260 ?_
    refine va_sld hx hb hX hbl hbA hS hi1 dL_law_1261 ?_
    refine lv_aload_n hx hb dL_law_1262 rfl (lv_at hl 0 rfl) ?_
    refine lv_iload_n hx hb dL_law_1263 rfl (lv_at hl 3 rfl) ?_
    refine lv_iconst (v := (2 : Int32)) hx hb dL_law_1264 (by decide) ?_
    refine lv_iadd hx hb dL_law_1265 ?_
    refine va_sld hx hb hX hbl hbA hS hi2 dL_law_1266 ?_
    refine rc_Vi (k := 99) (As := [.int (xs (v3 + (1 : Int32)).toNatClampNeg), .int (xs (v3 + (2 : Int32)).toNatClampNeg)]) (rest := [.int x0]) (S_ (inL_X9_turn)) hW hS h (kX9_turn l E (xs (v3 + (1 : Int32)).toNatClampNeg) (xs (v3 + (2 : Int32)).toNatClampNeg) w1) (cwV 2 (fun w h => hts0 w (inL_X9_turn w h)) gL2_X9_turn rfl rfl rfl hdX9_turn ⟨Nat.le_of_ble_eq_true rfl, Nat.le_of_ble_eq_true rfl⟩) (fl 99 rfl) rfl rfl rfl rfl hl.1 rfl (Nat.le_of_ble_eq_true rfl) ⟨Nat.le_refl _, Nat.le_refl _⟩ dL_law_1267 (fun x1 w2 H locs h hW hS => ?_)
    refine rb_icmp_eq (tgt := 1377) hx hb h dL_law_1270 (by decide) (fun h => ?_) (fun h => by cases h)
    exact JN _ _ _ _ (by cases h; exact hg) hW hS hl
  rw [if_neg c29] at h
  by_cases c30 : o9 = 30
  · rw [if_pos c30] at h
    refine lv_tableIn (off := 1243) (tgt := 1275) hx hb dL_law_32 (by rw [c30]; decide) (by rw [c30]; decide) (by rw [c30]; rfl) (by decide) ?_
    unfold st30 at h
    refine lv_aload_n hx hb dL_law_1275 rfl (lv_at hl 1 rfl) ?_
    refine lv_aload_n hx hb dL_law_1276 rfl (lv_at hl 0 rfl) ?_
    refine lv_iload_n hx hb dL_law_1277 rfl (lv_at hl 3 rfl) ?_
    refine lv_iconst (v := (1 : Int32)) hx hb dL_law_1278 (by decide) ?_
    refine lv_iadd hx hb dL_law_1279 ?_
    refine va_sld hx hb hX hbl hbA hS hi1 dL_law_1280 ?_
    refine lv_aload_n hx hb dL_law_1281 rfl (lv_at hl 0 rfl) ?_
    refine lv_iload_n hx hb dL_law_1282 rfl (lv_at hl 3 rfl) ?_
    refine lv_iconst (v := (2 : Int32)) hx hb dL_law_1283 (by decide) ?_
    refine lv_iadd hx hb dL_law_1284 ?_
    refine va_sld hx hb hX hbl hbA hS hi2 dL_law_1285 ?_
    refine rc_Vi (k := 0) (As := [.int (xs (v3 + (1 : Int32)).toNatClampNeg), .int (xs (v3 + (2 : Int32)).toNatClampNeg)]) (rest := []) (S_ (inL_X8_alike)) hW hS h (kX8_alike l E (xs (v3 + (1 : Int32)).toNatClampNeg) (xs (v3 + (2 : Int32)).toNatClampNeg) w) (cwV 2 (fun w h => hts0 w (inL_X8_alike w h)) gL2_X8_alike rfl rfl rfl hdX8_alike ⟨Nat.le_of_ble_eq_true rfl, Nat.le_of_ble_eq_true rfl⟩) (fl 0 rfl) rfl rfl rfl rfl hl.1 rfl (Nat.le_of_ble_eq_true rfl) ⟨Nat.le_refl _, Nat.le_refl _⟩ dL_law_1286 (fun x0 w1 H locs h hW hS => ?_)
    refine lv_aload_n hx hb dL_law_1289 rfl (lv_at hl 2 rfl) ?_
    refine lv_aload_n hx hb dL_law_1290 rfl (lv_at hl 0 rfl) ?_
    refine lv_iload_n hx hb dL_law_1291 rfl (lv_at hl 3 rfl) ?_
    refine lv_iconst (v := (1 : Int32)) hx hb dL_law_1292 (by decide) ?_
    refine lv_iadd hx hb dL_law_1293 ?_
    refine va_sld hx hb hX hbl hbA hS hi1 dL_law_1294 ?_
    refine lv_aload_n hx hb dL_law_1295 rfl (lv_at hl 0 rfl) ?_
    refine lv_iload_n hx hb dL_law_1296 rfl (lv_at hl 3 rfl) ?_
    refine lv_iconst (v := (2 : Int32)) hx hb dL_law_1297 (by decide) ?_
    refine lv_iadd hx hb dL_law_1298 ?_
    refine va_sld hx hb hX hbl hbA hS hi2 dL_law_1299 ?_
    refine rc_Vi (k := 99) (As := [.int (xs (v3 + (1 : Int32)).toNatClampNeg), .int (xs (v3 + (2 : Int32)).toNatClampNeg)]) (rest := [.int x0]) (S_ (inL_X9_alike)) hW hS h (kX9_alike l E (xs (v3 + (1 : Int32)).toNatClampNeg) (xs (v3 + (2 : Int32)).toNatClampNeg) w1) (cwV 2 (fun w h => hts0 w (inL_X9_alike w h)) gL2_X9_alike rfl rfl rfl hdX9_alike ⟨Nat.le_of_ble_eq_true rfl, Nat.le_of_ble_eq_true rfl⟩) (fl 99 rfl) rfl rfl rfl rfl hl.1 rfl (Nat.le_of_ble_eq_true rfl) ⟨Nat.le_refl _, Nat.le_refl _⟩ dL_law_1300 (fun x1 w2 H locs h hW hS => ?_)
    refine rb_icmp_eq (tgt := 1377) hx hb h dL_law_1303 (by decide) (fun h => ?_) (fun h => by cases h)
    exact JN _ _ _ _ (by cases h; exact hg) hW hS hl
  rw [if_neg c30] at h
  by_cases c31 : o9 = 31
  · rw [if_pos c31] at h
    refine lv_tableIn (off := 1276) (tgt := 1308) hx hb dL_law_32 (by rw [c31]; decide) (by rw [c31]; decide) (by rw [c31]; rfl) (by decide) ?_
    unfold st31 at h
    refine lv_aload_n hx hb dL_law_1308 rfl (lv_at hl 1 rfl) ?_
    refine lv_aload_n hx hb dL_law_1309 rfl (lv_at hl 0 rfl) ?_
    refine lv_iload_n hx hb dL_law_1310 rfl (lv_at hl 3 rfl) ?_
    refine lv_iconst (v := (1 : Int32)) hx hb dL_law_1311 (by decide) ?_
    refine lv_iadd hx hb dL_law_1312 ?_
    refine va_sld hx hb hX hbl hbA hS hi1 dL_law_1313 ?_
    refine rc_Vi (k := 0) (As := [.int (xs (v3 + (1 : Int32)).toNatClampNeg)]) (rest := []) (S_ (inL_X8_same)) hW hS h (kX8_same l E (xs (v3 + (1 : Int32)).toNatClampNeg) w) (cwV 1 (fun w h => hts0 w (inL_X8_same w h)) gL2_X8_same rfl rfl rfl hdX8_same ⟨Nat.le_of_ble_eq_true rfl, Nat.le_of_ble_eq_true rfl⟩) (fl 0 rfl) rfl rfl rfl rfl hl.1 rfl (Nat.le_of_ble_eq_true rfl) ⟨Nat.le_refl _, Nat.le_refl _⟩ dL_law_1314 (fun x0 w1 H locs h hW hS => ?_)
    refine lv_aload_n hx hb dL_law_1317 rfl (lv_at hl 2 rfl) ?_
    refine lv_aload_n hx hb dL_law_1318 rfl (lv_at hl 0 rfl) ?_
    refine lv_iload_n hx hb dL_law_1319 rfl (lv_at hl 3 rfl) ?_
    refine lv_iconst (v := (1 : Int32)) hx hb dL_law_1320 (by decide) ?_
    refine lv_iadd hx hb dL_law_1321 ?_
    refine va_sld hx hb hX hbl hbA hS hi1 dL_law_1322 ?_
    refine rc_Vi (k := 99) (As := [.int (xs (v3 + (1 : Int32)).toNatClampNeg)]) (rest := [.int x0]) (S_ (inL_X9_same)) hW hS h (kX9_same l E (xs (v3 + (1 : Int32)).toNatClampNeg) w1) (cwV 1 (fun w h => hts0 w (inL_X9_same w h)) gL2_X9_same rfl rfl rfl hdX9_same ⟨Nat.le_of_ble_eq_true rfl, Nat.le_of_ble_eq_true rfl⟩) (fl 99 rfl) rfl rfl rfl rfl hl.1 rfl (Nat.le_of_ble_eq_true rfl) ⟨Nat.le_refl _, Nat.le_refl _⟩ dL_law_1323 (fun x1 w2 H locs h hW hS => ?_)
    refine rb_icmp_eq (tgt := 1377) hx hb h dL_law_1326 (by decide) (fun h => ?_) (fun h => by cases h)
    exact JN _ _ _ _ (by cases h; exact hg) hW hS hl
  rw [if_neg c31] at h
  by_cases c32 : o9 = 32
  · rw [if_pos c32] at h
    refine lv_tableIn (off := 1299) (tgt := 1331) hx hb dL_law_32 (by rw [c32]; decide) (by rw [c32]; decide) (by rw [c32]; rfl) (by decide) ?_
    unfold st32 at h
    refine lv_aload_n hx hb dL_law_1331 rfl (lv_at hl 1 rfl) ?_
    refine lv_aload_n hx hb dL_law_1332 rfl (lv_at hl 0 rfl) ?_
    refine lv_iload_n hx hb dL_law_1333 rfl (lv_at hl 3 rfl) ?_
    refine lv_iconst (v := (1 : Int32)) hx hb dL_law_1334 (by decide) ?_
    refine lv_iadd hx hb dL_law_1335 ?_
    refine va_sld hx hb hX hbl hbA hS hi1 dL_law_1336 ?_
    refine rc_Vi (k := 0) (As := [.int (xs (v3 + (1 : Int32)).toNatClampNeg)]) (rest := []) (S_ (inL_X8_least)) hW hS h (kX8_least l E (xs (v3 + (1 : Int32)).toNatClampNeg) w) (cwV 1 (fun w h => hts0 w (inL_X8_least w h)) gL2_X8_least rfl rfl rfl hdX8_least ⟨Nat.le_of_ble_eq_true rfl, Nat.le_of_ble_eq_true rfl⟩) (fl 0 rfl) rfl rfl rfl rfl hl.1 rfl (Nat.le_of_ble_eq_true rfl) ⟨Nat.le_refl _, Nat.le_refl _⟩ dL_law_1337 (fun x0 w1 H locs h hW hS => ?_)
    refine lv_aload_n hx hb dL_law_1340 rfl (lv_at hl 2 rfl) ?_
    refine lv_aload_n hx hb dL_law_1341 rfl (lv_at hl 0 rfl) ?_
    refine lv_iload_n hx hb dL_law_1342 rfl (lv_at hl 3 rfl) ?_
    refine lv_iconst (v := (1 : Int32)) hx hb dL_law_1343 (by decide) ?_
    refine lv_iadd hx hb dL_law_1344 ?_
    refine va_sld hx hb hX hbl hbA hS hi1 dL_law_1345 ?_
    refine rc_Vi (k := 99) (As := [.int (xs (v3 + (1 : Int32)).toNatClampNeg)]) (rest := [.int x0]) (S_ (inL_X9_least)) hW hS h (kX9_least l E (xs (v3 + (1 : Int32)).toNatClampNeg) w1) (cwV 1 (fun w h => hts0 w (inL_X9_least w h)) gL2_X9_least rfl rfl rfl hdX9_least ⟨Nat.le_of_ble_eq_true rfl, Nat.le_of_ble_eq_true rfl⟩) (fl 99 rfl) rfl rfl rfl rfl hl.1 rfl (Nat.le_of_ble_eq_true rfl) ⟨Nat.le_refl _, Nat.le_refl _⟩ dL_law_1346 (fun x1 w2 H locs h hW hS => ?_)
    refine rb_icmp_eq (tgt := 1377) hx hb h dL_law_1349 (by decide) (fun h => ?_) (fun h => by cases h)
    exact JN _ _ _ _ (by cases h; exact hg) hW hS hl
  rw [if_neg c32] at h
  by_cases c33 : o9 = 33
  · rw [if_pos c33] at h
    refine lv_tableIn (off := 1322) (tgt := 1354) hx hb dL_law_32 (by rw [c33]; decide) (by rw [c33]; decide) (by rw [c33]; rfl) (by decide) ?_
    unfold st33 at h
    refine lv_aload_n hx hb dL_law_1354 rfl (lv_at hl 1 rfl) ?_
    refine lv_aload_n hx hb dL_law_1355 rfl (lv_at hl 0 rfl) ?_
    refine lv_iload_n hx hb dL_law_1356 rfl (lv_at hl 3 rfl) ?_
    refine lv_iconst (v := (1 : Int32)) hx hb dL_law_1357 (by decide) ?_
    refine lv_iadd hx hb dL_law_1358 ?_
    refine va_sld hx hb hX hbl hbA hS hi1 dL_law_1359 ?_
    refine rc_Vi (k := 0) (As := [.int (xs (v3 + (1 : Int32)).toNatClampNeg)]) (rest := []) (S_ (inL_X8_about)) hW hS h (kX8_about l E (xs (v3 + (1 : Int32)).toNatClampNeg) w) (cwV 1 (fun w h => hts0 w (inL_X8_about w h)) gL2_X8_about rfl rfl rfl hdX8_about ⟨Nat.le_of_ble_eq_true rfl, Nat.le_of_ble_eq_true rfl⟩) (fl 0 rfl) rfl rfl rfl rfl hl.1 rfl (Nat.le_of_ble_eq_true rfl) ⟨Nat.le_refl _, Nat.le_refl _⟩ dL_law_1360 (fun x0 w1 H locs h hW hS => ?_)
    refine lv_aload_n hx hb dL_law_1363 rfl (lv_at hl 2 rfl) ?_
    refine lv_aload_n hx hb dL_law_1364 rfl (lv_at hl 0 rfl) ?_
    refine lv_iload_n hx hb dL_law_1365 rfl (lv_at hl 3 rfl) ?_
    refine lv_iconst (v := (1 : Int32)) hx hb dL_law_1366 (by decide) ?_
    refine lv_iadd hx hb dL_law_1367 ?_
    refine va_sld hx hb hX hbl hbA hS hi1 dL_law_1368 ?_
    refine rc_Vi (k := 99) (As := [.int (xs (v3 + (1 : Int32)).toNatClampNeg)]) (rest := [.int x0]) (S_ (inL_X9_about)) hW hS h (kX9_about l E (xs (v3 + (1 : Int32)).toNatClampNeg) w1) (cwV 1 (fun w h => hts0 w (inL_X9_about w h)) gL2_X9_about rfl rfl rfl hdX9_about ⟨Nat.le_of_ble_eq_true rfl, Nat.le_of_ble_eq_true rfl⟩) (fl 99 rfl) rfl rfl rfl rfl hl.1 rfl (Nat.le_of_ble_eq_true rfl) ⟨Nat.le_refl _, Nat.le_refl _⟩ dL_law_1369 (fun x1 w2 H locs h hW hS => ?_)
    refine rb_icmp_eq (tgt := 1377) hx hb h dL_law_1372 (by decide) (fun h => ?_) (fun h => by cases h)
    exact JN _ _ _ _ (by cases h; exact hg) hW hS hl
  rw [if_neg c33] at h
  refine lv_tableOut (tgt := 1377) hx hb dL_law_32 (by have z0 := lv_neT c0 (a := 0) (by decide); have z1 := lv_neT c1 (a := 1) (by decide); have z2 := lv_neT c2 (a := 2) (by decide); have z3 := lv_neT c3 (a := 3) (by decide); have z4 := lv_neT c4 (a := 4) (by decide); have z5 := lv_neT c5 (a := 5) (by decide); have z6 := lv_neT c6 (a := 6) (by decide); have z7 := lv_neT c7 (a := 7) (by decide); have z8 := lv_neT c8 (a := 8) (by decide); have z9 := lv_neT c9 (a := 9) (by decide); have z10 := lv_neT c10 (a := 10) (by decide); have z11 := lv_neT c11 (a := 11) (by decide); have z12 := lv_neT c12 (a := 12) (by decide); have z13 := lv_neT c13 (a := 13) (by decide); have z14 := lv_neT c14 (a := 14) (by decide); have z15 := lv_neT c15 (a := 15) (by decide); have z16 := lv_neT c16 (a := 16) (by decide); have z17 := lv_neT c17 (a := 17) (by decide); have z18 := lv_neT c18 (a := 18) (by decide); have z19 := lv_neT c19 (a := 19) (by decide); have z20 := lv_neT c20 (a := 20) (by decide); have z21 := lv_neT c21 (a := 21) (by decide); have z22 := lv_neT c22 (a := 22) (by decide); have z23 := lv_neT c23 (a := 23) (by decide); have z24 := lv_neT c24 (a := 24) (by decide); have z25 := lv_neT c25 (a := 25) (by decide); have z26 := lv_neT c26 (a := 26) (by decide); have z27 := lv_neT c27 (a := 27) (by decide); have z28 := lv_neT c28 (a := 28) (by decide); have z29 := lv_neT c29 (a := 29) (by decide); have z30 := lv_neT c30 (a := 30) (by decide); have z31 := lv_neT c31 (a := 31) (by decide); have z32 := lv_neT c32 (a := 32) (by decide); have z33 := lv_neT c33 (a := 33) (by decide); omega) (by decide) ?_
  exact JN _ _ _ _ (by cases h; exact hg) hW hS hl
