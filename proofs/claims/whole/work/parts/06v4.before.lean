/-! ===== counting: the class's two tables ===== -/
theorem iv_p1 (i : Nat) : iv i + (-1 : Int32) = iv ((i : Int) - 1) := by rw [iv_m1, iv_add]; rfl
theorem Bf_next (q : Tl) (c u : Nat) : Bf (alC q) q (c + 1) u = sm (fun k => adB q c k u (2 ^ (qW q + 1))) 4 := rfl
theorem countBefore_s {q : Tl} {w : Wd} (h : GT q w) : ∃ w1, fX1_countBefore w = some ((), w1) ∧ TBf q (qN q + 1) w1 ∧ Kp (fun j => j < 24 ∨ 49 < j) w w1 ∧ w1.1 = w.1 := by
  have hN := qN_le h.1
  have hS := two64 h.1.1.2.1
  have hS0 : 0 < 2 ^ (qW q + 1) := Nat.two_pow_pos _
  have hL0 := (LL_tab 0 (by omega)).1
  unfold fX1_countBefore
  rw [iv_0, show iv 0 = iv ((0 : Nat) : Int) from rfl, ixA_iv (by omega) (by omega), bind_s]
  obtain ⟨wa, e1, e2, e3, e4⟩ := fillL_s (k := 24 + 0) (by omega) (by omega) 0 w
  rw [e1, bnd_s, bind_s, sL_iv (by omega) (by omega), bind_s]
  refine lpA (m := qN q) (fun r => ∃ w1, r = some ((), w1) ∧ TBf q (qN q + 1) w1 ∧ Kp (fun j => j < 24 ∨ 49 < j) w w1 ∧ w1.1 = w.1) (fun i w' => TBf q (i + 1) w' ∧ Kp (fun j => j < 24 ∨ 49 < j) w w' ∧ w'.1 = w.1) ?_ ?_ (hGn (by omega)) ⟨?_, (e3.weak fun j z => by omega).trans (Kp.uL (by omega)), by rw [uL_int]; exact e4⟩
  · rintro c w' kk hc ⟨h1, h2, h3⟩
    refine Or.inl ?_
    have h' := h.kept h3
    have hL1 := (LL_tab (c + 1) (by omega)).1
    unfold bX1_countBefore_21
    rw [cells_q h', bnd_s, if_neg (iv_Nle (by omega) hc), iv_s1, ixA_iv (by omega) (by omega), bind_s]
    obtain ⟨wb, f1, f2, f3, f4⟩ := fillL_s (k := 24 + (c + 1)) (by omega) (by omega) 0 w'
    rw [f1, bnd_s]
    refine lpB (m := 4) (fun r => ∃ w'', r = kk (iv ((c + 1 : Nat) : Int)) w'' ∧ TBf q (c + 1 + 1) w'' ∧ Kp (fun j => j < 24 ∨ 49 < j) w w'' ∧ w''.1 = w.1) (fun k x w'' => x = iv c ∧ (∀ s, s < 2 ^ (qW q + 1) → w''.2 (24 + (c + 1)) s = kv (sm (fun k => adB q c k s (2 ^ (qW q + 1))) k)) ∧ TBf q (c + 1) w'' ∧ Kp (fun j => j < 24 ∨ 49 < j) w w'' ∧ w''.1 = w.1) ?_ ?_ (hGn (by omega)) ⟨rfl, fun s hs => by rw [f2 s (by omega)]; rfl, fun c' hc' s hs => by rw [(f3 (24 + c') (by omega)).2]; exact h1 c' hc' s hs, h2.trans (f3.weak fun j z => by omega), by rw [f4]; exact h3⟩
    · rintro k x w'' kk2 hk ⟨rfl, g1, g2, g3, g4⟩
      refine Or.inl ?_
      unfold bX1_countBefore_46
      rw [if_neg (by rw [iv_4, iv_le (by omega) (by omega)]; omega), iv_s1]
      obtain ⟨wc, a1, a2, a3, a4⟩ := addBefore_s (h.kept g4) hc hk (g2 c (by omega)) g1
      rw [a1, bnd_s]
      exact ⟨_, wc, rfl, rfl, a2, fun c' hc' s hs => by rw [(a3 (24 + c') (by omega)).2]; exact g2 c' hc' s hs, g3.trans (a3.weak fun j z => by omega), by rw [a4]; exact g4⟩
    · rintro x w'' kk2 ⟨rfl, g1, g2, g3, g4⟩
      unfold bX1_countBefore_46
      rw [if_pos (by decide), iv_s1]
      refine ⟨w'', rfl, fun c' hc' s hs => ?_, g3, g4⟩
      by_cases e : c' = c + 1
      · subst e; rw [g1 s hs, Bf_next]
      · exact g2 c' (by omega) s hs
  · rintro w' kk ⟨h1, h2, h3⟩
    have h' := h.kept h3
    unfold bX1_countBefore_21
    rw [cells_q h', bnd_s, if_pos iv_Nle']
    exact ⟨w', rfl, h1, h2, h3⟩
  · intro c hc s hs
    have : c = 0 := by omega
    subst this
    rw [uL_at2, kv_1]
    show (if s = 0 then kv 1 else wa.2 (24 + 0) s) = kv (if s = 0 then 1 else 0)
    by_cases e : s = 0
    · rw [if_pos e, if_pos e]
    · rw [if_neg e, if_neg e, e2 s (by omega)]; rfl
theorem trv_bd {q : Tl} (hN : qN q ≤ 25) (o : Option Nat) {c : Nat} : 0 ≤ trv o (bh q c) ∧ trv o (bh q c) ≤ 298023223876953125 := by
  cases o with
  | none => exact ⟨Int.le_refl _, by show (0 : Int) ≤ _; omega⟩
  | some u =>
    show 0 ≤ bh q c u ∧ bh q c u ≤ _
    unfold bh
    split
    · omega
    · exact R_bd (alC q) hN c u
/-- one kind more, behind -/
def adR (q : Tl) (c s k : Nat) : Int := nk (alC q) q c k * trv (tr (qW q) c s k) (bh q (c + 1))
theorem addBehind_s {q : Tl} {w : Wd} (h : GT q w) {c k : Nat} (hc : c < qN q) (hk : k < 4) (hB : ∀ s, s < 2 ^ (qW q + 1) → w.2 (24 + c) s = kv (Bf (alC q) q c s)) (hR : ∀ s, s < 2 ^ (qW q + 1) → w.2 (51 + (c + 1)) s = kv (bh q (c + 1) s)) {X : Nat → Int} (hX : ∀ s, s < 2 ^ (qW q + 1) → w.2 (51 + c) s = kv (if Bf (alC q) q c s = 0 then 0 else X s)) : ∃ w1, fX1_addBehind (iv c) (iv k) w = some ((), w1) ∧ (∀ s, s < 2 ^ (qW q + 1) → w1.2 (51 + c) s = kv (if Bf (alC q) q c s = 0 then 0 else X s + adR q c s k)) ∧ Kp (fun j => j ≠ 51 + c) w w1 ∧ w1.1 = w.1 := by
  have hN := qN_le h.1
  have ho := cfg_ok h.1 hc
  have eh := h_f ho.1 ho.2.1 ho.2.2 hk
  have hS := two64 h.1.1.2.1
  have hnk := nk_bd (alC q) q c k
  unfold fX1_addBehind
  rw [heightsOf_s h hc hk, bnd_s, bitCount_s eh.2.1, bnd_s, eh.2.2, ← nk_nkf]
  by_cases e : nk (alC q) q c k = 0
  · rw [if_pos ((iv0N (by omega)).mpr e)]
    refine ⟨w, rfl, fun s hs => ?_, Kp.rf, rfl⟩
    have : adR q c s k = 0 := by unfold adR; rw [e, Int.zero_mul]
    rw [this, Int.add_zero]; exact hX s hs
  · rw [if_neg (fun z => e ((iv0N (by omega)).mp z)), linesMet_s h hc hk, bnd_s, endsRow_s h hc, bnd_s, states_s h, bnd_s, ixA_iv (by omega) (by omega), bind_s, iv_s1, ixA_iv (by omega) (by omega), bind_s]
    refine lpT (α := Int32 → Int32 → Int32 → Int32 → Nat → Nat → Int32 → Wd → Option (Unit × Wd)) (τ := Unit) (fun f _ i w => f (iv (nk (alC q) q c k)) (iv (lm (qW q) c k : Nat)) (b2i (decide (c % qW q + 1 = qW q))) (iv (2 ^ (qW q + 1) : Nat)) (51 + c) (51 + (c + 1)) i w) (m := 2 ^ (qW q + 1)) (fun r => ∃ w1, r = some ((), w1) ∧ (∀ s, s < 2 ^ (qW q + 1) → w1.2 (51 + c) s = kv (if Bf (alC q) q c s = 0 then 0 else X s + adR q c s k)) ∧ Kp (fun j => j ≠ 51 + c) w w1 ∧ w1.1 = w.1) (fun i _ w' => (∀ s, s < 2 ^ (qW q + 1) → w'.2 (51 + c) s = kv (if Bf (alC q) q c s = 0 then 0 else X s + (if s < i then adR q c s k else 0))) ∧ Kp (fun j => j ≠ 51 + c) w w' ∧ w'.1 = w.1) ?_ ?_ (hGn (by omega)) (x := ()) ⟨fun s hs => by rw [hX s hs, if_neg (show ¬ s < 0 by omega), Int.add_zero], Kp.rf, rfl⟩
    · rintro i _ w' kk hi ⟨h1, h2, h3⟩
      refine Or.inl ?_
      have hLL := (LL_tab c (by omega)).1
      have hLLc := (LL_tab c (by omega)).2
      have hLL1 := (LL_tab (c + 1) (by omega)).2
      have hBb := Bf_le (alC q) h.1.1.1 (c := c) (by omega) hi
      have hBi : w'.2 (24 + c) i = kv (Bf (alC q) q c i) := by rw [(h2 (24 + c) (by omega)).2]; exact hB i hi
      show ∃ x' w'', bX1_addBehind_57 _ _ kk _ _ _ _ _ _ _ w' = _ ∧ _
      unfold bX1_addBehind_57 jX1_addBehind_115
      rw [if_neg (iv_Nle (by omega) hi), ixA_iv (by omega) (by omega), bind_s, gL_iv (by omega) (by omega), bind_s, hBi, iv_s1]
      have oth : ∀ s, s ≠ i → (if s < i + 1 then adR q c s k else 0) = (if s < i then adR q c s k else 0) := fun s hne => by
        by_cases z : s < i
        · rw [if_pos z, if_pos (by omega)]
        · rw [if_neg z, if_neg (by omega)]
      have skip : (Bf (alC q) q c i = 0 ∨ adR q c i k = 0) → ∀ s, s < 2 ^ (qW q + 1) → w'.2 (51 + c) s = kv (if Bf (alC q) q c s = 0 then 0 else X s + (if s < i + 1 then adR q c s k else 0)) := fun hz s hs => by
        rw [h1 s hs]
        by_cases es : s = i
        · subst es
          rcases hz with hz | hz
          · rw [if_pos hz, if_pos hz]
          · rw [hz, if_neg (show ¬ s < s by omega), if_pos (show s < s + 1 by omega)]
        · rw [oth s es]
      by_cases e0 : Bf (alC q) q c i = 0
      · rw [if_pos ((kv0 hBb).mpr e0)]
        exact ⟨(), w', rfl, skip (Or.inl e0), h2, h3⟩
      · rw [if_neg (fun z => e0 ((kv0 hBb).mp z)), afterOf_s h.1 hi, bnd_s]
        cases ht : tr (qW q) c i k with
        | none =>
          rw [stI_none, if_pos rfl]
          exact ⟨(), w', rfl, skip (Or.inr (by unfold adR; rw [ht]; exact Int.mul_zero _)), h2, h3⟩
        | some u =>
          have hu := tr_lt h.1.1.1 hi ht
          have hRu : w'.2 (51 + (c + 1)) u = kv (bh q (c + 1) u) := by rw [(h2 (51 + (c + 1)) (by omega)).2]; exact hR u hu
          rw [stI_some, if_neg (ivN_m1 (by omega)), gL_iv (by omega) (by omega), bind_s, gL_iv (by omega) (by omega), bind_s, sL_iv (by omega) (by omega), bind_s, h1 i hi, hRu, iv_kv (by omega) (by omega), kv_mul, kv_add]
          refine ⟨(), _, rfl, fun s hs => ?_, h2.trans (Kp.uL (by omega)), by rw [uL_int]; exact h3⟩
          rw [uL_at2]
          by_cases es : s = i
          · subst es
            rw [if_pos rfl, if_neg e0, if_neg e0, if_neg (show ¬ s < s by omega), if_pos (show s < s + 1 by omega), Int.add_zero]
            unfold adR
            rw [ht]; rfl
          · rw [if_neg es, oth s es]; exact h1 s hs
    · rintro _ w' kk ⟨h1, h2, h3⟩
      show ∃ w1, bX1_addBehind_57 _ _ kk _ _ _ _ _ _ _ w' = _ ∧ _
      unfold bX1_addBehind_57
      rw [if_pos iv_Nle']
      exact ⟨w', rfl, fun s hs => by rw [h1 s hs, if_pos hs], h2, h3⟩
theorem adR_all {q : Tl} (hq : qOK q) {c s : Nat} (hc : c < qN q) (hs : s < 2 ^ (qW q + 1)) (hb : Bf (alC q) q c s ≠ 0) : sm (adR q c s) 4 = Rc2 (alC q) q c s := by
  rw [R_kind (alC q) q hc]
  refine sm_congr (fun k hk => ?_)
  unfold adR
  by_cases e : nk (alC q) q c k = 0
  · rw [e, Int.zero_mul, Int.zero_mul]
  · cases ht : tr (qW q) c s k with
    | none => rfl
    | some u =>
      show nk (alC q) q c k * bh q (c + 1) u = nk (alC q) q c k * Rc2 (alC q) q (c + 1) u
      unfold bh
      rw [if_neg (fun z => Bf_pos (alC q) hs hk ht hb e z.2)]
theorem allMet_s {q : Tl} {w : Wd} (h : GT q w) : fX1_allMet w = some (iv (allM (qW q) : Nat), w) := by
  have hp : 2 ≤ 2 ^ (qW q + 1) := Nat.le_trans (by omega : 2 ≤ 2 ^ 1) (Nat.pow_le_pow_right (by omega) (by omega))
  unfold fX1_allMet allM
  rw [states_s h, bnd_s, iv_1, iv_sub, iv_sub]
  show some (iv _, w) = some (iv _, w)
  rw [show ((2 ^ (qW q + 1) - 2 : Nat) : Int) = ((2 ^ (qW q + 1) : Nat) : Int) - 1 - 1 by omega]
theorem allM_lt (W : Nat) : allM W < 2 ^ (W + 1) := by
  have : 0 < 2 ^ (W + 1) := Nat.two_pow_pos _
  unfold allM; omega
theorem countBehind_s {q : Tl} {w : Wd} (h : GT q w) (hB : TBf q (qN q + 1) w) : ∃ w1, fX1_countBehind w = some ((), w1) ∧ TR q 0 w1 ∧ Kp (fun j => j < 51 ∨ 76 < j) w w1 ∧ w1.1 = w.1 := by
  have hN := qN_le h.1
  have hS := two64 h.1.1.2.1
  have hA := allM_lt (qW q)
  have hLN := (LL_tab (qN q) (by omega)).2
  unfold fX1_countBehind
  rw [cells_q h, bnd_s, ixA_iv (by omega) (by omega), bind_s]
  obtain ⟨wa, e1, e2, e3, e4⟩ := fillL_s (k := 51 + qN q) (by omega) (by omega) 0 w
  rw [e1, bnd_s, bind_s, allMet_s (h.kept e4), bnd_s, sL_iv (by omega) (by omega), bind_s, iv_1, iv_sub]
  refine lpD (qN q) (fun r => ∃ w1, r = some ((), w1) ∧ TR q 0 w1 ∧ Kp (fun j => j < 51 ∨ 76 < j) w w1 ∧ w1.1 = w.1) (fun i w' => TR q i w' ∧ Kp (fun j => j < 51 ∨ 76 < j) w w' ∧ w'.1 = w.1) ?_ ?_ (hGn (by omega)) ⟨?_, (e3.weak fun j z => by omega).trans (Kp.uL (by omega)), by rw [uL_int]; exact e4⟩
  · rintro c w' kk hc ⟨h1, h2, h3⟩
    have h' := h.kept h3
    have hL1 := (LL_tab c (by omega)).2
    unfold bX1_countBehind_34
    rw [if_neg (by rw [iv_0, iv_lt (by omega) (by omega)]; omega), ixA_iv (by omega) (by omega), bind_s]
    obtain ⟨wb, f1, f2, f3, f4⟩ := fillL_s (k := 51 + c) (by omega) (by omega) 0 w'
    rw [f1, bnd_s]
    refine lpB (m := 4) (fun r => ∃ w'', r = kk (iv ((c : Int) - 1)) w'' ∧ TR q c w'' ∧ Kp (fun j => j < 51 ∨ 76 < j) w w'' ∧ w''.1 = w.1) (fun k x w'' => x = iv c ∧ (∀ s, s < 2 ^ (qW q + 1) → w''.2 (51 + c) s = kv (if Bf (alC q) q c s = 0 then 0 else sm (adR q c s) k)) ∧ TR q (c + 1) w'' ∧ Kp (fun j => j < 51 ∨ 76 < j) w w'' ∧ w''.1 = w.1) ?_ ?_ (hGn (by omega)) ⟨rfl, fun s hs => ?_, fun c' h0 hc' s hs => by rw [(f3 (51 + c') (by omega)).2]; exact h1 c' h0 hc' s hs, h2.trans (f3.weak fun j z => by omega), by rw [f4]; exact h3⟩
    · rintro k x w'' kk2 hk ⟨rfl, g1, g2, g3, g4⟩
      refine Or.inl ?_
      unfold bX1_countBehind_50
      rw [if_neg (by rw [iv_4, iv_le (by omega) (by omega)]; omega), iv_s1]
      obtain ⟨wc, a1, a2, a3, a4⟩ := addBehind_s (h.kept g4) hc hk (fun s hs => by rw [(g3 (24 + c) (by omega)).2]; exact hB c (by omega) s hs) (g2 (c + 1) (Nat.le_refl _) (by omega)) g1
      rw [a1, bnd_s]
      exact ⟨_, wc, rfl, rfl, a2, fun c' h0 hc' s hs => by rw [(a3 (51 + c') (by omega)).2]; exact g2 c' h0 hc' s hs, g3.trans (a3.weak fun j z => by omega), by rw [a4]; exact g4⟩
    · rintro x w'' kk2 ⟨rfl, g1, g2, g3, g4⟩
      unfold bX1_countBehind_50
      rw [if_pos (by decide), iv_p1]
      refine ⟨w'', rfl, fun c' h0 hc' s hs => ?_, g3, g4⟩
      by_cases e : c' = c
      · subst e
        rw [g1 s hs]
        unfold bh
        by_cases eb : Bf (alC q) q c' s = 0
        · rw [if_pos eb, if_pos ⟨hc, eb⟩]
        · rw [if_neg eb, if_neg (fun z => eb z.2), adR_all h.1 hc hs eb]
      · exact g2 c' (by omega) hc' s hs
    · rw [f2 s (by omega)]
      show (0 : Int64) = kv (if Bf (alC q) q c s = 0 then 0 else 0)
      split <;> rfl
  · rintro w' kk ⟨h1, h2, h3⟩
    unfold bX1_countBehind_34
    rw [if_pos (by decide)]
    exact ⟨w', rfl, h1, h2, h3⟩
  · intro c h0 hc s hs
    have : c = qN q := by omega
    subst this
    rw [uL_at2, kv_1]
    unfold bh
    rw [if_neg (fun z : qN q < qN q ∧ _ => absurd z.1 (Nat.lt_irrefl _)), R_end]
    by_cases e : s = allM (qW q)
    · rw [if_pos e, if_pos e]
    · rw [if_neg e, if_neg e, e2 s (by omega)]; rfl
/-- the tables, as the state has them -/
def FTc (q : Tl) (w : Wd) : Prop := qN q ≤ 25 ∧ FT0 q w
theorem FTkc : FTk FTc := FTk0
section STEPS
variable {t : Nat} {w : Wd}
theorem refresh_s (ht : t < 512) {a : Ab} (ha : AbOK a) (hc : CS a w) (hv : VS FTc t a w) : ∃ w1, fX8_fitted w = some (19, w1) ∧ FT0 (aTl a) w1 ∧ GT (aTl a) w1 ∧ CS a w1 ∧ VS FTc t a w1 ∧ Kp mR w w1 := by
  obtain ⟨tv, fv, v1, v2, v3, v4, v5⟩ := hv
  have hN := aN_le ha
  have hq25 : qN (aTl a) ≤ 25 := hN
  unfold fX8_fitted fX1_refresh fX5_version
  rw [bnd_s, v1, v2]
  by_cases e : fv = tv
  · rw [if_pos (by rw [e]), bnd_s]
    have hf := v5 e
    exact ⟨w, rfl, hf.2, ⟨ha.q, hc.1, hf.2.1⟩, hc, ⟨tv, fv, v1, v2, v3, v4, v5⟩, Kp.rf⟩
  · rw [if_neg (by rw [iv_eq (by omega) (by omega)]; omega), bnd_s]
    have hc1 : CS a (uI w 19 9 (iv tv)) := by
      obtain ⟨h1, h2, h3, h4, h5, h6, h7, h8⟩ := hc
      refine ⟨h1.kept (Kp.uI (by omega)), fun s hs c hc => ?_, fun x hx => ?_, fun y hy => ?_, fun c hc => ?_, fun x hx => ?_, fun y hy => ?_, ?_⟩
      · rw [uI_row (by omega)]; exact h2 s hs c hc
      · rw [uI_row (by omega)]; exact h3 x hx
      · rw [uI_row (by omega)]; exact h4 y hy
      · rw [uI_row (by omega)]; exact h5 c hc
      · rw [uI_row (by omega)]; exact h6 x hx
      · rw [uI_row (by omega)]; exact h7 y hy
      · rw [uI_other (Or.inr (by omega)), uI_other (Or.inr (by omega))]; exact h8
    obtain ⟨wa, a1, a2, a3⟩ := readTold_s ha hc1
    have hca : CS a wa := cs_cnt hc1 (a3.weak fun k z => by omega)
    have hga : GT (aTl a) wa := ⟨ha.q, hca.1, a2⟩
    obtain ⟨wb, b1, b2, b3, b4⟩ := countBefore_s hga
    obtain ⟨wc, c1, c2, c3, c4⟩ := countBehind_s (hga.kept b4) b2
    rw [a1, bnd_s, b1, bnd_s, c1, bnd_s, bnd_s]
    have hgc : GT (aTl a) wc := (hga.kept b4).kept c4
    have kac : Kp (fun k => k < 20 ∨ 76 < k) wa wc := (b3.weak fun k z => by omega).trans (c3.weak fun k z => by omega)
    have hf : FT0 (aTl a) wc := ⟨hgc.2.2, fun c hcc s hs => by rw [(c3 (24 + c) (by omega)).2]; exact b2 c hcc s hs, c2⟩
    refine ⟨wc, rfl, hf, hgc, cs_cnt hca kac, ⟨tv, tv, ?_, ?_, Nat.le_refl _, v4, fun _ => ⟨hN, hf⟩⟩, ?_⟩
    · rw [(kac 14 (by omega)).1, (a3 14 (by omega)).1, uI_row (by omega)]; exact v1
    · rw [(kac 19 (by omega)).1, (a3 19 (by omega)).1, uI_same]
    · exact ((Kp.uI (by unfold mR; omega)).trans (a3.weak fun k z => by unfold mR at z; omega)).trans (kac.weak fun k z => by unfold mR at z; omega)
end STEPS
