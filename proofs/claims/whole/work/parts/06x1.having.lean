/-! ===== counting: heaps, with, span ===== -/
theorem alO_no (q : Tl) (ov : Int) : alO q (-9) ov = alC q := by
  funext c v
  unfold alO bdO
  rw [decide_eq_false (show ¬ (-9 : Int) = (c : Int) by omega)]
  show (alC q c v && true) = alC q c v
  rw [Bool.and_true]
theorem alO_ne (q : Tl) {oc : Nat} (ov : Int) {c : Nat} (h : c ≠ oc) (v : Nat) : alO q (oc : Int) ov c v = alC q c v := by
  unfold alO bdO
  rw [decide_eq_false (show ¬ (oc : Int) = (c : Int) by omega)]
  show (alC q c v && true) = alC q c v
  rw [Bool.and_true]
theorem alO_at (q : Tl) (c v v' : Nat) : alO q (c : Int) (v : Int) c v' = (alC q c v' && decide (v = v')) := by
  unfold alO bdO
  rw [decide_eq_true (show (c : Int) = (c : Int) from rfl)]
  show (alC q c v' && decide ((v : Int) = (v' : Int))) = _
  congr 1
  by_cases e : v = v'
  · rw [decide_eq_true e, decide_eq_true (by omega)]
  · rw [decide_eq_false e, decide_eq_false (by omega)]
theorem Rn_congr {A A' : Nat → Nat → Bool} (q : Tl) : ∀ n, (∀ c, qN q - n ≤ c → ∀ v, A' c v = A c v) → ∀ s, Rn A' q n s = Rn A q n s
  | 0, _, _ => rfl
  | n + 1, h, s => by
    have ih := Rn_congr (A := A) (A' := A') q n (fun c hc => h c (by omega))
    refine sm_congr (fun v _ => ?_)
    show (if A' (qN q - (n + 1)) v then trv (tr (qW q) (qN q - (n + 1)) s (kdC q (qN q - (n + 1)) v)) (Rn A' q n) else 0) = (if A (qN q - (n + 1)) v then trv (tr (qW q) (qN q - (n + 1)) s (kdC q (qN q - (n + 1)) v)) (Rn A q n) else 0)
    rw [h _ (Nat.le_refl _), funext ih]
theorem having_eq {q : Tl} (hq : qOK q) {c v : Nat} (hc : c < qN q) (hv : v < 5) : Rc2 (alO q (c : Int) (v : Int)) q 0 0 = if alC q c v = true then sm (fun s => Bf (alC q) q c s * trv (tr (qW q) c s (kdC q c v)) (bh q (c + 1))) (2 ^ (qW q + 1)) else 0 := by
  have e0 := conv0 (alC q) (alO q (c : Int) (v : Int)) hq.1.1 c (by omega) (fun c' hc' k => by
    unfold nk
    refine sm_congr (fun v' _ => ?_)
    rw [alO_ne q v (by omega) v'])
  rw [e0]
  have e1 : ∀ s, Rc2 (alO q (c : Int) (v : Int)) q c s = if alC q c v = true then trv (tr (qW q) c s (kdC q c v)) (Rc2 (alC q) q (c + 1)) else 0 := fun s => by
    rw [R_step _ q hc]
    have e2 : ∀ v', wy (alO q (c : Int) (v : Int)) q c s v' = if v = v' then (if alC q c v' = true then trv (tr (qW q) c s (kdC q c v')) (Rc2 (alC q) q (c + 1)) else 0) else 0 := fun v' => by
      unfold wy
      rw [alO_at]
      by_cases e : v = v'
      · rw [decide_eq_true e, Bool.and_true, if_pos e]
        have e3 : Rc2 (alO q (c : Int) (v : Int)) q (c + 1) = Rc2 (alC q) q (c + 1) := by
          funext u
          unfold Rc2
          exact Rn_congr q _ (fun c' hc' v' => alO_ne q v (by omega) v') u
        rw [e3]
      · rw [decide_eq_false e, Bool.and_false, if_neg e, if_neg (by decide)]
    rw [sm_congr (fun v' _ => e2 v'), sm_pick (fun v' => if alC q c v' = true then trv (tr (qW q) c s (kdC q c v')) (Rc2 (alC q) q (c + 1)) else 0) hv]
  by_cases a : alC q c v = true
  · rw [if_pos a]
    refine sm_congr (fun s hs => ?_)
    rw [e1 s, if_pos a]
    by_cases b : Bf (alC q) q c s = 0
    · rw [b, Int.zero_mul, Int.zero_mul]
    · congr 1
      cases ht : tr (qW q) c s (kdC q c v) with
      | none => rfl
      | some u =>
        show Rc2 (alC q) q (c + 1) u = bh q (c + 1) u
        unfold bh
        rw [if_neg (fun z => Bf_pos (alC q) hs (knd_lt _ _ _ : kdC q c v < 4) ht b (nk_pos (alC q) hv a) z.2)]
  · rw [if_neg a]
    have : sm (fun s => Bf (alC q) q c s * Rc2 (alO q (c : Int) (v : Int)) q c s) (2 ^ (qW q + 1)) = sm (fun _ => 0) (2 ^ (qW q + 1)) := sm_congr (fun s _ => by rw [e1 s, if_neg a, Int.mul_zero])
    rw [this, sm_zero]
section STEPS
variable {t : Nat} {w : Wd} {q : Tl}
theorem all_s (hf : FT0 q w) : fX1_all w = some (kv (Rc2 (alC q) q 0 0), w) := by
  have hL := (LL_tab 0 (by omega)).2
  unfold fX1_all
  rw [iv_0, show iv 0 = iv ((0 : Nat) : Int) from rfl, ixA_iv (by omega) (by omega), bind_s, gL_iv (by omega) (by omega), bind_s, hf.2.2 0 (Nat.le_refl _) (by omega) 0 (Nat.two_pow_pos _)]
  unfold bh
  rw [if_neg (fun z => absurd z.2 (show ¬ ((if (0 : Nat) = 0 then (1 : Int) else 0) = 0) by decide))]
theorem b2i_if {β : Type} {b : Bool} {X Y : β} : (if b2i b = 0 then X else Y) = if b = true then Y else X := by
  cases b with
  | true => rw [if_neg (by decide), if_pos rfl]
  | false => rw [if_pos (by decide), if_neg (by decide)]
theorem has_b {x : Int32} {v : Nat} {b : Bool} (h : ((x >>> (iv v &&& 31)) &&& (1 : Int32)) = b2i b) (w : Wd) : fX1_has x (iv v) w = some (b2i b, w) := by
  unfold fX1_has
  rw [h, zr_0, zr_1, b2i_if]
  cases b <;> rfl
theorem hasA_s (h : GT q w) {c v : Nat} (hc : c < qN q) (hv : v < 5) : (gI w 20 (iv c)).bind (fun x1 => fX1_has x1 (iv v) w) = some (b2i (alC q c v), w) := by
  have hN := qN_le h.1
  have ho := cfg_ok h.1 hc
  rw [gI_iv (by rw [LI_20]; omega) (by rw [LI_20]; omega), bind_s, (h.2.2 c hc).1, has_b (a_f ho.1 ho.2.1 ho.2.2 hv).1]; rfl
theorem kindOf_s (h : GT q w) {c v : Nat} (hc : c < qN q) (hv : v < 5) : fX1_kindOf (iv c) (iv v) w = some (iv (kdC q c v : Nat), w) := by
  have hN := qN_le h.1
  have ho := cfg_ok h.1 hc
  have ht := h.2.2 c hc
  unfold fX1_kindOf jX1_kindOf_18 jX1_kindOf_36 kdC knd
  rw [gI_iv (by rw [LI_21]; omega) (by rw [LI_21]; omega), bind_s, ht.2.1, has_b (a_f ho.1 ho.2.1 ho.2.2 hv).2, bnd_s, gI_iv (by rw [LI_22]; omega) (by rw [LI_22]; omega), bind_s, ht.2.2, has_b (a_f ho.2.1 ho.1 ho.2.2 hv).2, bnd_s, bind_s, has_b (a_f ho.2.1 ho.1 ho.2.2 hv).2, bnd_s]
  by_cases a : cf q c = -9 ∨ cf q c = (v : Int)
  · rw [decide_eq_true a, if_neg (show ¬ b2i true = 0 by decide), if_pos (show qF q (c % qW q) = -9 ∨ qF q (c % qW q) = (v : Int) from a)]
    by_cases b : cg q c = -9 ∨ cg q c = (v : Int)
    · rw [decide_eq_true b, if_neg (show ¬ b2i true = 0 by decide), if_pos (show qS q (c / qW q) = -9 ∨ qS q (c / qW q) = (v : Int) from b)]; rfl
    · rw [decide_eq_false b, if_pos (show b2i false = 0 by decide), if_neg (show ¬ (qS q (c / qW q) = -9 ∨ qS q (c / qW q) = (v : Int)) from b)]; rfl
  · rw [decide_eq_false a, if_pos (show b2i false = 0 by decide), if_neg (show ¬ (qF q (c % qW q) = -9 ∨ qF q (c % qW q) = (v : Int)) from a)]
    by_cases b : cg q c = -9 ∨ cg q c = (v : Int)
    · rw [decide_eq_true b, if_neg (show ¬ b2i true = 0 by decide), if_pos (show qS q (c / qW q) = -9 ∨ qS q (c / qW q) = (v : Int) from b)]; rfl
    · rw [decide_eq_false b, if_pos (show b2i false = 0 by decide), if_neg (show ¬ (qS q (c / qW q) = -9 ∨ qS q (c / qW q) = (v : Int)) from b)]; rfl
theorem having_s (h : GT q w) (hf : FT0 q w) {c v : Nat} (hc : c < qN q) (hv : v < 5) : fX1_having (iv c) (iv v) w = some (kv (Rc2 (alO q (c : Int) (v : Int)) q 0 0), w) := by
  have hN := qN_le h.1
  have ho := cfg_ok h.1 hc
  have hS := two64 h.1.1.2.1
  rw [having_eq h.1 hc hv]
  unfold fX1_having
  rw [gI_iv (by rw [LI_20]; omega) (by rw [LI_20]; omega), bind_s, (h.2.2 c hc).1, has_b (a_f ho.1 ho.2.1 ho.2.2 hv).1, bnd_s, b2i_if]
  by_cases a : alC q c v = true
  · rw [if_pos (show alw (cf q c) (cg q c) (qT q c) v = true from a), if_pos a, kindOf_s h hc hv, bnd_s, linesMet_s (k := kdC q c v) h hc (knd_lt _ _ _ : kdC q c v < 4), bnd_s, endsRow_s h hc, bnd_s, states_s h, bnd_s]
    refine lpT (α := Int32 → Int32 → Int32 → Int64 → Int32 → Wd → Option (Int64 × Wd)) (τ := Int64) (fun f x i w => f (iv (lm (qW q) c (kdC q c v) : Nat)) (b2i (decide (c % qW q + 1 = qW q))) (iv (2 ^ (qW q + 1) : Nat)) x i w) (m := 2 ^ (qW q + 1)) (fun r => r = some (kv (sm (fun s => Bf (alC q) q c s * trv (tr (qW q) c s (kdC q c v)) (bh q (c + 1))) (2 ^ (qW q + 1))), w)) (fun i x w' => x = kv (sm (fun s => Bf (alC q) q c s * trv (tr (qW q) c s (kdC q c v)) (bh q (c + 1))) i) ∧ w' = w) ?_ ?_ (hGn (by omega)) (x := 0) ⟨rfl, rfl⟩
    · rintro i x w' kk hi ⟨rfl, rfl⟩
      refine Or.inl ?_
      have hLL := (LL_tab c (by omega)).1
      have hLL1 := (LL_tab (c + 1) (by omega)).2
      have hBb := Bf_le (alC q) h.1.1.1 (c := c) (by omega) hi
      have hBi := hf.2.1 c (by omega) i hi
      show ∃ x' w'', bX1_having_46 _ _ kk _ _ _ _ _ w' = _ ∧ _
      unfold bX1_having_46 jX1_having_113
      rw [if_neg (iv_Nle (by omega) hi), ixA_iv (by omega) (by omega), bind_s, gL_iv (by omega) (by omega), bind_s, hBi, iv_s1]
      have skip : Bf (alC q) q c i * trv (tr (qW q) c i (kdC q c v)) (bh q (c + 1)) = 0 → kv (sm (fun s => Bf (alC q) q c s * trv (tr (qW q) c s (kdC q c v)) (bh q (c + 1))) i) = kv (sm (fun s => Bf (alC q) q c s * trv (tr (qW q) c s (kdC q c v)) (bh q (c + 1))) (i + 1)) := fun hz => by
        rw [sm_s, hz, Int.add_zero]
      by_cases e0 : Bf (alC q) q c i = 0
      · rw [if_pos ((kv0 hBb).mpr e0)]
        exact ⟨_, w', rfl, skip (by rw [e0, Int.zero_mul]), rfl⟩
      · rw [if_neg (fun z => e0 ((kv0 hBb).mp z)), afterOf_s h.1 hi, bnd_s]
        cases ht : tr (qW q) c i (kdC q c v) with
        | none =>
          rw [stI_none, if_pos rfl]
          exact ⟨_, w', rfl, skip (by rw [ht]; exact Int.mul_zero _), rfl⟩
        | some u =>
          have hu := tr_lt h.1.1.1 hi ht
          rw [stI_some, if_neg (ivN_m1 (by omega)), bind_s, gL_iv (by omega) (by omega), bind_s, hBi, iv_s1, ixA_iv (by omega) (by omega), bind_s, gL_iv (by omega) (by omega), bind_s, hf.2.2 (c + 1) (by omega) (by omega) u hu, kv_mul, kv_add]
          refine ⟨_, w', rfl, ?_, rfl⟩
          rw [sm_s, ht]; rfl
    · rintro x w' kk ⟨rfl, rfl⟩
      show bX1_having_46 _ _ kk _ _ _ _ _ w' = _
      unfold bX1_having_46
      rw [if_pos iv_Nle']
  · rw [if_neg (show ¬ alw (cf q c) (cg q c) (qT q c) v = true from a), if_neg a]; rfl
/-! the model -/
theorem MS.ml {a : Ab} (ha : AbOK a) (h : MS a w) : ML (aTl a) (-9) 0 w :=
  ⟨ha.q, h.1, h.2.2.1, h.2.2.2.1, h.2.2.2.2.1, ⟨h.2.2.2.2.2.2.2, by omega, by omega⟩, fun z => absurd rfl z⟩
theorem MS.kept2 {a : Ab} {w1 : Wd} (h : MS a w) (hk : Kp (fun k => 100 ≤ k ∧ k ≤ 105) w w1) (e0 : w1.1 99 0 = w.1 99 0) (e1 : w1.1 99 1 = w.1 99 1) (e2 : w1.1 99 11 = w.1 99 11) : MS a w1 := by
  obtain ⟨h1, h2, h3, h4, h5, h6, h7, h8⟩ := h
  refine ⟨⟨h1.1, h1.2.1, h1.2.2.1, h1.2.2.2.1, by rw [e0]; exact h1.2.2.2.2.1, by rw [e1]; exact h1.2.2.2.2.2⟩, fun s hs c hc => ?_, fun x hx => ?_, fun y hy => ?_, fun c hc => ?_, fun x hx => ?_, fun y hy => ?_, ?_⟩
  · rw [(hk 100 (by omega)).1]; exact h2 s hs c hc
  · rw [(hk 101 (by omega)).1]; exact h3 x hx
  · rw [(hk 102 (by omega)).1]; exact h4 y hy
  · rw [(hk 103 (by omega)).1]; exact h5 c hc
  · rw [(hk 104 (by omega)).1]; exact h6 x hx
  · rw [(hk 105 (by omega)).1]; exact h7 y hy
  · rw [e2]; exact h8
theorem withHeight_s {a : Ab} (ha : AbOK a) (hm : MS a w) {c v : Nat} (hc : c < aN a) (hv : v < 5) : ∃ w1, fX9_withHeight (iv c) (iv v) w = some (kv (Rc2 (alO (aTl a) (c : Int) (v : Int)) (aTl a) 0 0), w1) ∧ MS a w1 ∧ Kp cR w w1 := by
  have hN := aN_le ha
  have h0 := hm.ml ha
  have hML : ML (aTl a) (c : Int) (v : Int) (uI (uI w 99 11 (iv c)) 99 12 (iv v)) := by
    obtain ⟨g1, g2, g3, g4, g5, g6, g7⟩ := h0
    refine ⟨g1, ⟨g2.1, g2.2.1, g2.2.2.1, g2.2.2.2.1, ?_, ?_⟩, ?_, ?_, ?_, ⟨?_, by omega, by omega⟩, fun _ => ⟨uI_same, by omega, by omega⟩⟩
    · rw [uI_other (Or.inr (by omega)), uI_other (Or.inr (by omega))]; exact g2.2.2.2.2.1
    · rw [uI_other (Or.inr (by omega)), uI_other (Or.inr (by omega))]; exact g2.2.2.2.2.2
    · rw [uI_row (by omega), uI_row (by omega)]; exact g3
    · rw [uI_row (by omega), uI_row (by omega)]; exact g4
    · rw [uI_row (by omega), uI_row (by omega)]; exact g5
    · rw [uI_other (Or.inr (by omega)), uI_same]
  obtain ⟨w1, e1, e2, e3, e4⟩ := layWays_s hML
  unfold fX9_withHeight
  rw [e1, bnd_s, iv_0, show iv 0 = iv ((0 : Nat) : Int) from rfl, gL_iv (by rw [LL_107]; omega) (by rw [LL_107]; omega), bind_s]
  refine ⟨uI w1 99 11 (-9), ?_, hm.kept2 ?_ ?_ ?_ ?_, ?_⟩
  · rw [uI_long]
    have := e2 0 (Nat.le_refl _) (by omega) 0 (by omega)
    rw [M_R0 _ ha.q] at this
    rw [show w1.2 107 0 = w1.2 107 (64 * 0 + 0) from rfl, this]
  · exact ((Kp.uI (by omega)).trans (Kp.uI (by omega))).trans ((e3.weak fun k z => by omega).trans (Kp.uI (by omega)))
  · rw [uI_other (Or.inr (by omega)), e4, uI_other (Or.inr (by omega)), uI_other (Or.inr (by omega))]
  · rw [uI_other (Or.inr (by omega)), e4, uI_other (Or.inr (by omega)), uI_other (Or.inr (by omega))]
  · rw [uI_same, hm.2.2.2.2.2.2.2]; rfl
  · exact ((Kp.uI (by unfold cR; omega)).trans (Kp.uI (by unfold cR; omega))).trans ((e3.weak fun k z => by unfold cR at z; omega).trans (Kp.uI (by unfold cR; omega)))
theorem mways_s {a : Ab} (ha : AbOK a) (hm : MS a w) : ∃ w1, fX9_layWays w = some ((), w1) ∧ WT (alC (aTl a)) (aTl a) 0 w1 ∧ MS a w1 ∧ Kp cR w w1 := by
  obtain ⟨w1, e1, e2, e3, e4⟩ := layWays_s (hm.ml ha)
  rw [alO_no] at e2
  exact ⟨w1, e1, e2, hm.kept (e3.weak fun k z => by unfold stM at z; omega), e3.weak fun k z => by unfold cR at z; omega⟩
theorem WT_0 {w1 : Wd} (hq : qOK q) (e : WT (alC q) q 0 w1) : gL w1 107 (0 : Int32) = some (kv (Rc2 (alC q) q 0 0)) := by
  rw [iv_0, show iv 0 = iv ((0 : Nat) : Int) from rfl, gL_iv (by rw [LL_107]; omega) (by rw [LL_107]; omega)]
  have := e 0 (Nat.le_refl _) (by omega) 0 (by omega)
  rw [M_R0 _ hq] at this
  rw [show w1.2 107 0 = w1.2 107 (64 * 0 + 0) from rfl, this]
theorem VS.up {FT : Tl → Wd → Prop} {a : Ab} (h : VS FT t a w) : VS FT (t + 1) a w := by
  obtain ⟨tv, fv, h1, h2, h3, h4, h5⟩ := h
  exact ⟨tv, fv, h1, h2, h3, by omega, h5⟩
theorem g17 (ht : t < 512) (hg : Good FTc t w) (p r d : Int32) : ∃ w', st17 p r d w = some w' ∧ Good FTc (t + 1) w' := by
  obtain ⟨a, ha, hc, hm, hv⟩ := hg
  unfold st17
  refine comb FTkc (v := kv (Rc2 (alC (aTl a)) (aTl a) 0 0)) ha hm ?_ ?_
  · obtain ⟨w1, e1, e2, e3, e4, e5, e6⟩ := refresh_s ht ha hc hv
    refine ⟨w1, ?_, e4, e5.up, e6⟩
    unfold fX8_heaps
    rw [e1, bnd_s, if_pos rfl, all_s e2, bnd_s]
  · intro w1 hm1
    obtain ⟨w2, e1, e2, e3, e4⟩ := mways_s ha hm1
    refine ⟨w2, ?_, e3, e4⟩
    unfold fX9_heaps
    rw [e1, bnd_s, WT_0 ha.q e2, bind_s]
theorem g18 (ht : t < 512) (hg : Good FTc t w) (p r d : Int32) : ∃ w', st18 p r d w = some w' ∧ Good FTc (t + 1) w' := by
  obtain ⟨a, ha, hc, hm, hv⟩ := hg
  unfold st18
  rcases rng (aN a) p with ⟨c, hcc, rfl⟩ | hb
  · rcases rng 5 r with ⟨v, hvv, rfl⟩ | hb2
    · refine comb FTkc (v := kv (Rc2 (alO (aTl a) (c : Int) (v : Int)) (aTl a) 0 0)) ha hm ?_ ?_
      · obtain ⟨w1, e1, e2, e3, e4, e5, e6⟩ := refresh_s ht ha hc hv
        refine ⟨w1, ?_, e4, e5.up, e6⟩
        unfold fX8_with
        rw [noCell_g hc.1.1 hcc, bnd_s, if_pos rfl, iv_0, iv_4, if_neg (by rw [iv_lt (by omega) (by omega)]; omega), if_pos (by rw [iv_le (by omega) (by omega)]; omega), e1, bnd_s, if_pos rfl, having_s e3 e2 hcc hvv, bnd_s]
      · intro w1 hm1
        obtain ⟨w2, e1, e2, e3⟩ := withHeight_s ha hm1 hcc hvv
        refine ⟨w2, ?_, e2, e3⟩
        unfold fX9_with
        rw [isCell_g hm1.1 hcc, bnd_s, if_neg (by decide), in_g w1 (by rw [L0, toInt_iv (by omega) (by omega)]; omega) (by rw [L4, toInt_iv (by omega) (by omega)]; omega), bnd_s, if_neg (by decide), e1, bnd_s]
    · refine comb0 FTkc (v := -2) ha hc hm hv ?_ ?_
      · unfold fX8_with
        rw [noCell_g hc.1.1 hcc, bnd_s, if_pos rfl]
        by_cases e : r < 0
        · rw [if_pos e]
        · rw [if_neg e, if_neg]
          rw [Int32.lt_iff_toInt_lt] at e
          rw [Int32.le_iff_toInt_le]
          rw [ti0] at e; rw [ti4]; omega
      · unfold fX9_with
        rw [isCell_g hm.1 hcc, bnd_s, if_neg (by decide), in_b w (by rw [L0, L4]; omega), bnd_s, if_pos rfl]
  · refine comb0 FTkc (v := -1) ha hc hm hv ?_ ?_
    · unfold fX8_with
      rw [noCell_b hc.1.1 hb, bnd_s, if_neg (by decide)]
    · unfold fX9_with
      rw [isCell_b hm.1 hb, bnd_s, if_pos rfl]
/-- the first that holds -/
noncomputable def fst5 (P : Nat → Prop) (f : Nat → Int32) (d : Int32) : Nat → Int32
  | 0 => d
  | n + 1 => @ite _ (P (5 - (n + 1))) (Classical.propDecidable _) (f (5 - (n + 1))) (fst5 P f d n)
theorem fst5_y {P : Nat → Prop} {f : Nat → Int32} {d : Int32} {i : Nat} (hi : i < 5) (h : P i) : fst5 P f d (5 - i) = f i := by
  obtain ⟨n, hn⟩ : ∃ n, 5 - i = n + 1 := ⟨4 - i, by omega⟩
  rw [hn]
  have e : 5 - (n + 1) = i := by omega
  unfold fst5
  rw [e, if_pos h]
theorem fst5_n {P : Nat → Prop} {f : Nat → Int32} {d : Int32} {i : Nat} (hi : i < 5) (h : ¬ P i) : fst5 P f d (5 - i) = fst5 P f d (5 - (i + 1)) := by
  obtain ⟨n, hn⟩ : ∃ n, 5 - i = n + 1 := ⟨4 - i, by omega⟩
  rw [hn]
  have e : 5 - (n + 1) = i := by omega
  have e2 : 5 - (i + 1) = n := by omega
  rw [e2]
  show @ite _ (P (5 - (n + 1))) (Classical.propDecidable _) (f (5 - (n + 1))) (fst5 P f d n) = _
  rw [e, if_neg h]
def hvx (m : Int32) (i : Nat) : Nat := if m = 0 then i else 4 - i
theorem hvx_lt (m : Int32) {i : Nat} (h : i < 5) : hvx m i < 5 := by unfold hvx; split <;> omega
theorem hvx_i (m : Int32) {i : Nat} (h : i < 5) : (if m = 0 then iv i else (4 : Int32) - iv i) = iv (hvx m i : Nat) := by
  unfold hvx
  by_cases e : m = 0
  · rw [if_pos e, if_pos e]
  · rw [if_neg e, if_neg e, iv_4, iv_sub, show ((4 - i : Nat) : Int) = 4 - (i : Int) by omega]
theorem kv_pos {z : Int} (h : 0 ≤ z ∧ z ≤ 298023223876953125) : ((0 : Int64) < kv z) ↔ 0 < z := by rw [kv_0, kv_lt (by omega) (by omega)]
def spP (q : Tl) (c : Nat) (m : Int32) (i : Nat) : Prop := 0 < Rc2 (alO q (c : Int) (hvx m i : Nat)) q 0 0
noncomputable def spR (q : Tl) (c : Nat) (m : Int32) : Int32 := fst5 (spP q c m) (fun i => iv (hvx m i : Nat)) (-9) 5
theorem extreme_s (h : GT q w) (hf : FT0 q w) {c : Nat} (hc : c < qN q) (m : Int32) : fX1_extreme (iv c) m w = some (spR q c m, w) := by
  have hN := qN_le h.1
  unfold fX1_extreme
  refine lpA (m := 5) (fun r => r = some (spR q c m, w)) (fun i w' => spR q c m = fst5 (spP q c m) (fun i => iv (hvx m i : Nat)) (-9) (5 - i) ∧ w' = w) ?_ ?_ (hGn (by omega)) ⟨rfl, rfl⟩
  · rintro i w' kk hi ⟨e, rfl⟩
    have hb := R_bd (alO q (c : Int) (hvx m i : Nat)) hN 0 0
    have goal : ∀ x, x = iv (hvx m i : Nat) → (∃ w'', jX1_extreme_18 (iv c) m kk (iv i) x w' = kk (iv ((i + 1 : Nat) : Int)) w'' ∧ spR q c m = fst5 (spP q c m) (fun i => iv (hvx m i : Nat)) (-9) (5 - (i + 1)) ∧ w'' = w') ∨ jX1_extreme_18 (iv c) m kk (iv i) x w' = some (spR q c m, w') := by
      rintro x rfl
      unfold jX1_extreme_18
      rw [having_s h hf hc (hvx_lt m hi), bnd_s, iv_s1]
      by_cases z : spP q c m i
      · rw [if_pos ((kv_pos hb).mpr z), e, fst5_y hi z]; exact Or.inr rfl
      · rw [if_neg (fun y => z ((kv_pos hb).mp y))]
        exact Or.inl ⟨w', rfl, by rw [e, fst5_n hi z], rfl⟩
    unfold bX1_extreme_2
    rw [if_neg (by rw [iv_4, iv_lt (by omega) (by omega)]; omega)]
    have hx := hvx_i m hi
    by_cases z : m = 0
    · rw [if_pos z] at hx ⊢; exact goal _ hx
    · rw [if_neg z] at hx ⊢; exact goal _ hx
  · rintro w' kk ⟨e, rfl⟩
    unfold bX1_extreme_2
    rw [if_pos (by decide), e]; rfl
theorem mspan_s {a : Ab} (ha : AbOK a) (hm : MS a w) {c : Nat} (hc : c < aN a) (m : Int32) : ∃ w1, lp (fun _ _ => none) (bX9_span_12 (iv c) m) G (0 : Int32) w = some (spR (aTl a) c m, w1) ∧ MS a w1 ∧ Kp cR w w1 := by
  have hN := aN_le ha
  refine lpA (m := 5) (fun r => ∃ w1, r = some (spR (aTl a) c m, w1) ∧ MS a w1 ∧ Kp cR w w1) (fun i w' => spR (aTl a) c m = fst5 (spP (aTl a) c m) (fun i => iv (hvx m i : Nat)) (-9) (5 - i) ∧ MS a w' ∧ Kp cR w w') ?_ ?_ (hGn (by omega)) ⟨rfl, hm, Kp.rf⟩
  · rintro i w' kk hi ⟨e, hm', hk⟩
    have hb := R_bd (alO (aTl a) (c : Int) (hvx m i : Nat)) (q := aTl a) hN 0 0
    have goal : ∀ x, x = iv (hvx m i : Nat) → (∃ w'', jX9_span_28 (iv c) m kk (iv i) x w' = kk (iv ((i + 1 : Nat) : Int)) w'' ∧ spR (aTl a) c m = fst5 (spP (aTl a) c m) (fun i => iv (hvx m i : Nat)) (-9) (5 - (i + 1)) ∧ MS a w'' ∧ Kp cR w w'') ∨ ∃ w1, jX9_span_28 (iv c) m kk (iv i) x w' = some (spR (aTl a) c m, w1) ∧ MS a w1 ∧ Kp cR w w1 := by
      rintro x rfl
      obtain ⟨w2, e1, e2, e3⟩ := withHeight_s ha hm' hc (hvx_lt m hi)
      unfold jX9_span_28
      rw [e1, bnd_s, iv_s1]
      by_cases z : spP (aTl a) c m i
      · rw [if_pos ((kv_pos hb).mpr z), e, fst5_y hi z]; exact Or.inr ⟨w2, rfl, e2, hk.trans e3⟩
      · rw [if_neg (fun y => z ((kv_pos hb).mp y))]
        exact Or.inl ⟨w2, rfl, by rw [e, fst5_n hi z], e2, hk.trans e3⟩
    unfold bX9_span_12
    rw [if_neg (by rw [iv_5, iv_le (by omega) (by omega)]; omega)]
    have hx := hvx_i m hi
    by_cases z : m = 0
    · rw [if_pos z] at hx ⊢; exact goal _ hx
    · rw [if_neg z] at hx ⊢; exact goal _ hx
  · rintro w' kk ⟨e, hm', hk⟩
    unfold bX9_span_12
    rw [if_pos (by decide), e]; exact ⟨w', rfl, hm', hk⟩
theorem g19 (ht : t < 512) (hg : Good FTc t w) (p r d : Int32) : ∃ w', st19 p r d w = some w' ∧ Good FTc (t + 1) w' := by
  obtain ⟨a, ha, hc, hm, hv⟩ := hg
  unfold st19
  generalize bz r = m
  rcases rng (aN a) p with ⟨c, hcc, rfl⟩ | hb
  · refine comb FTkc (v := spR (aTl a) c m) ha hm ?_ ?_
    · obtain ⟨w1, e1, e2, e3, e4, e5, e6⟩ := refresh_s ht ha hc hv
      refine ⟨w1, ?_, e4, e5.up, e6⟩
      unfold fX8_span
      rw [noCell_g hc.1.1 hcc, bnd_s, if_pos rfl, e1, bnd_s, if_pos rfl, extreme_s e3 e2 hcc, bnd_s]
    · intro w1 hm1
      obtain ⟨w2, e1, e2, e3⟩ := mspan_s ha hm1 hcc m
      refine ⟨w2, ?_, e2, e3⟩
      unfold fX9_span
      rw [isCell_g hm1.1 hcc, bnd_s, if_neg (by decide), e1]
  · refine comb0 FTkc (v := -1) ha hc hm hv ?_ ?_
    · unfold fX8_span
      rw [noCell_b hc.1.1 hb, bnd_s, if_neg (by decide)]
    · unfold fX9_span
      rw [isCell_b hm.1 hb, bnd_s, if_pos rfl]
end STEPS
