/-! ===== counting: the class's small functions ===== -/
/-- what the counting reads, and never writes: the ground, what is told -/
def GT (q : Tl) (w : Wd) : Prop := qOK q ∧ Gnd (qW q) (qH q) w ∧ TT q w
theorem GT.kept {q : Tl} {w w1 : Wd} (h : GT q w) (e : w1.1 = w.1) : GT q w1 := by
  obtain ⟨h1, ⟨h2, h3, h4, h5⟩, h6⟩ := h
  refine ⟨h1, ⟨h2.kept (by rw [e]), ?_, ?_, ?_⟩, ?_⟩
  · rw [e]; exact h3
  · rw [e]; exact h4
  · rw [e]; exact h5
  · unfold TT; rw [e]; exact h6
theorem cells_q {q : Tl} {w : Wd} (h : GT q w) : fX2_cells w = some (iv ((qN q : Nat) : Int), w) := cells_s h.2.1.1
theorem k4 {k : Nat} (h : k < 4) : k = 0 ∨ k = 1 ∨ k = 2 ∨ k = 3 := by omega
theorem heightsOf_s {q : Tl} {w : Wd} (h : GT q w) {c k : Nat} (hc : c < qN q) (hk : k < 4) : fX1_heightsOf (iv c) (iv k) w = some (iv (hm (cf q c) (cg q c) (qT q c) k : Nat), w) := by
  have hN := qN_le h.1
  have ho := cfg_ok h.1 hc
  have e := (h_f ho.1 ho.2.1 ho.2.2 hk).1
  have ht := h.2.2 c hc
  rw [← e]
  unfold fX1_heightsOf jX1_heightsOf_29 jX1_heightsOf_53 hoI
  rw [gI_iv (by rw [LI_20]; omega) (by rw [LI_20]; omega), bind_s, gI_iv (by rw [LI_21]; omega) (by rw [LI_21]; omega), gI_iv (by rw [LI_22]; omega) (by rw [LI_22]; omega), ht.1, ht.2.1, ht.2.2]
  rcases k4 hk with rfl | rfl | rfl | rfl
  · rw [if_pos (by decide), bind_s, if_pos (by decide), bind_s, if_pos (by decide), if_pos (by decide)]
  · rw [if_neg (by decide), bind_s, if_pos (by decide), bind_s, if_neg (by decide), if_pos (by decide)]
  · rw [if_pos (by decide), bind_s, if_neg (by decide), bind_s, if_pos (by decide), if_neg (by decide)]
  · rw [if_neg (by decide), bind_s, if_neg (by decide), bind_s, if_neg (by decide), if_neg (by decide)]
theorem nk_nkf (q : Tl) (c k : Nat) : nk (alC q) q c k = nkf (cf q c) (cg q c) (qT q c) k := rfl
theorem lm64 {W c k : Nat} (h1 : 1 ≤ W) (h2 : W ≤ 5) : lm W c k < 64 := Nat.lt_of_lt_of_le (lm_lt h1) (two64 h2)
theorem linesMet_s {q : Tl} {w : Wd} (h : GT q w) {c k : Nat} (hc : c < qN q) (hk : k < 4) : fX1_linesMet (iv c) (iv k) w = some (iv (lm (qW q) c k : Nat), w) := by
  have hx : c % qW q < qW q := Nat.mod_lt _ h.1.1.1
  have hW := h.1.1.2.1
  have hp : 2 ^ (c % qW q + 1) < 64 := by
    have : 2 ^ (c % qW q + 1) ≤ 2 ^ 5 := Nat.pow_le_pow_right (by omega) (by omega)
    omega
  unfold fX1_linesMet jX1_linesMet_20 jX1_linesMet_31 lm
  rw [x_s h.2.1 hc, bnd_s, shl_all _ (by omega), iv_0, iv_1]
  have o1 := or_all (2 ^ (c % qW q + 1)) hp 1 (by omega)
  have o2 := or_all (2 ^ (c % qW q + 1)) hp 0 (by omega)
  have o3 := or_all 0 (by omega) 1 (by omega)
  have o4 := or_all 0 (by omega) 0 (by omega)
  rcases k4 hk with rfl | rfl | rfl | rfl
  · rw [if_pos (by decide), if_pos (by decide), if_neg (by decide), if_neg (by decide), ← o4]; rfl
  · rw [if_neg (by decide), if_pos (by decide), if_pos (by decide), if_neg (by decide), ← o2]; rfl
  · rw [if_pos (by decide), if_neg (by decide), if_neg (by decide), if_pos (by decide), ← o3]; rfl
  · rw [if_neg (by decide), if_neg (by decide), if_pos (by decide), if_pos (by decide), ← o1]; rfl
theorem endsRow_s {q : Tl} {w : Wd} (h : GT q w) {c : Nat} (hc : c < qN q) : fX1_endsRow (iv c) w = some (b2i (decide (c % qW q + 1 = qW q)), w) := by
  have hx : c % qW q < qW q := Nat.mod_lt _ h.1.1.1
  have hW := h.1.1.2.1
  unfold fX1_endsRow
  rw [x_s h.2.1 hc, bnd_s, lines_s h.2.1.1, bnd_s, nL_1, iv_1, iv_sub]
  by_cases e : c % qW q + 1 = qW q
  · rw [if_pos (by rw [iv_eq (by omega) (by omega)]; omega), decide_eq_true e, ← iv_1, zr_1]; rfl
  · rw [if_neg (by rw [iv_eq (by omega) (by omega)]; omega), decide_eq_false e, zr_0]; rfl
theorem states_s {q : Tl} {w : Wd} (h : GT q w) : fX1_states w = some (iv (2 ^ (qW q + 1) : Nat), w) := by
  unfold fX1_states
  rw [lines_s h.2.1.1, bnd_s, nL_1, shl_all _ (by have := h.1.1.2.1; omega)]
/-- the state behind, as the class tells it -/
def stI (o : Option Nat) : Int32 := match o with
  | none => -1
  | some u => iv (u : Nat)
theorem after_s {u : Nat} (hu : u < 64) (e : Bool) (w : Wd) : fX1_after (iv u) (b2i e) w = some (stI (aft u e), w) := by
  unfold fX1_after aft
  cases e with
  | false => rw [if_pos (by decide), if_neg (by decide)]; rfl
  | true =>
    rw [if_neg (by decide), and1_all u hu, if_pos (c := (true : Bool) = true) rfl]
    by_cases p : u % 2 = 0
    · rw [p, if_pos (by decide), if_pos rfl]; rfl
    · have p1 : u % 2 = 1 := by omega
      rw [p1, if_neg (by decide), if_neg (by decide), iv_1, iv_sub]
      show some (iv ((u : Int) - 1), w) = some (iv ((u - 1 : Nat) : Int), w)
      rw [show ((u - 1 : Nat) : Int) = (u : Int) - 1 by omega]
theorem afterOf_s {q : Tl} (hq : qOK q) {c s k : Nat} (hs : s < 2 ^ (qW q + 1)) (w : Wd) : fX1_after (iv s ||| iv (lm (qW q) c k : Nat)) (b2i (decide (c % qW q + 1 = qW q))) w = some (stI (tr (qW q) c s k), w) := by
  have h2 := lm64 (c := c) (k := k) hq.1.1 hq.1.2.1
  have h3 := two64 hq.1.2.1
  rw [or_all s (by omega) _ h2, after_s (Nat.or_lt_two_pow (n := 6) (by omega) (by omega))]; rfl
theorem stI_none : stI none = -1 := rfl
theorem stI_some (u : Nat) : stI (some u) = iv (u : Nat) := rfl
theorem ivN_m1 {u : Nat} (h : u < 1000000) : ¬ iv u = (-1 : Int32) := by rw [iv_m1, iv_eq (by omega) (by omega)]; omega
theorem kv0 {z : Int} (h : 0 ≤ z ∧ z ≤ 298023223876953125) : (kv z = (0 : Int64)) ↔ z = 0 := by rw [kv_0, kv_eq (by omega) (by omega)]
theorem iv0N {z : Int} (h : 0 ≤ z ∧ z ≤ 1000000) : (iv z = (0 : Int32)) ↔ z = 0 := by rw [iv_0, iv_eq (by omega) (by omega)]
/-- one kind more, before: what it adds -/
def adB (q : Tl) (c k u n : Nat) : Int := sm (fun s => if tr (qW q) c s k = some u then nk (alC q) q c k * Bf (alC q) q c s else 0) n
theorem adB_s (q : Tl) (c k u n : Nat) : adB q c k u (n + 1) = adB q c k u n + (if tr (qW q) c n k = some u then nk (alC q) q c k * Bf (alC q) q c n else 0) := rfl
theorem uL_at2 {w : Wd} {k i j : Nat} {x : Int64} : (uL w k i x).2 k j = if j = i then x else w.2 k j := by rw [uL_at]; rfl
theorem addBefore_s {q : Tl} {w : Wd} (h : GT q w) {c k : Nat} (hc : c < qN q) (hk : k < 4) (hB : ∀ s, s < 2 ^ (qW q + 1) → w.2 (24 + c) s = kv (Bf (alC q) q c s)) {X : Nat → Int} (hX : ∀ s, s < 2 ^ (qW q + 1) → w.2 (24 + (c + 1)) s = kv (X s)) : ∃ w1, fX1_addBefore (iv c) (iv k) w = some ((), w1) ∧ (∀ s, s < 2 ^ (qW q + 1) → w1.2 (24 + (c + 1)) s = kv (X s + adB q c k s (2 ^ (qW q + 1)))) ∧ Kp (fun j => j ≠ 24 + (c + 1)) w w1 ∧ w1.1 = w.1 := by
  have hN := qN_le h.1
  have ho := cfg_ok h.1 hc
  have eh := h_f ho.1 ho.2.1 ho.2.2 hk
  have hS := two64 h.1.1.2.1
  have hnk := nk_bd (alC q) q c k
  unfold fX1_addBefore
  rw [heightsOf_s h hc hk, bnd_s, bitCount_s eh.2.1, bnd_s, eh.2.2, ← nk_nkf]
  by_cases e : nk (alC q) q c k = 0
  · rw [if_pos ((iv0N (by omega)).mpr e)]
    refine ⟨w, rfl, fun s hs => ?_, Kp.rf, rfl⟩
    have : adB q c k s (2 ^ (qW q + 1)) = 0 := by
      unfold adB
      rw [e]
      have : sm (fun s' => if tr (qW q) c s' k = some s then 0 * Bf (alC q) q c s' else 0) (2 ^ (qW q + 1)) = sm (fun _ => 0) (2 ^ (qW q + 1)) := sm_congr (fun i _ => by split <;> simp)
      rw [this, sm_zero]
    rw [this, Int.add_zero]; exact hX s hs
  · rw [if_neg (fun z => e ((iv0N (by omega)).mp z)), linesMet_s h hc hk, bnd_s, endsRow_s h hc, bnd_s, states_s h, bnd_s, ixA_iv (by omega) (by omega), bind_s, iv_s1, ixA_iv (by omega) (by omega), bind_s]
    refine lpT (α := Int32 → Int32 → Int32 → Int32 → Nat → Nat → Int32 → Wd → Option (Unit × Wd)) (τ := Unit) (fun f _ i w => f (iv (nk (alC q) q c k)) (iv (lm (qW q) c k : Nat)) (b2i (decide (c % qW q + 1 = qW q))) (iv (2 ^ (qW q + 1) : Nat)) (24 + c) (24 + (c + 1)) i w) (m := 2 ^ (qW q + 1)) (fun r => ∃ w1, r = some ((), w1) ∧ (∀ s, s < 2 ^ (qW q + 1) → w1.2 (24 + (c + 1)) s = kv (X s + adB q c k s (2 ^ (qW q + 1)))) ∧ Kp (fun j => j ≠ 24 + (c + 1)) w w1 ∧ w1.1 = w.1) (fun i _ w' => (∀ s, s < 2 ^ (qW q + 1) → w'.2 (24 + (c + 1)) s = kv (X s + adB q c k s i)) ∧ Kp (fun j => j ≠ 24 + (c + 1)) w w' ∧ w'.1 = w.1) ?_ ?_ (hGn (by omega)) (x := ()) ⟨fun s hs => by rw [hX s hs]; show kv (X s) = kv (X s + 0); rw [Int.add_zero], Kp.rf, rfl⟩
    · rintro i _ w' kk hi ⟨h1, h2, h3⟩
      refine Or.inl ?_
      have hLL := (LL_tab c (by omega)).1
      have hLL1 := (LL_tab (c + 1) (by omega)).1
      have hBb := Bf_le (alC q) h.1.1.1 (c := c) (by omega) hi
      have hBi : w'.2 (24 + c) i = kv (Bf (alC q) q c i) := by rw [(h2 (24 + c) (by omega)).2]; exact hB i hi
      show ∃ x' w'', bX1_addBefore_57 _ _ kk _ _ _ _ _ _ _ w' = _ ∧ _
      unfold bX1_addBefore_57 jX1_addBefore_111
      rw [if_neg (iv_Nle (by omega) hi), gL_iv (by omega) (by omega), bind_s, hBi, iv_s1]
      have skip : (∀ s, s < 2 ^ (qW q + 1) → (if tr (qW q) c i k = some s then nk (alC q) q c k * Bf (alC q) q c i else 0) = 0) → ∀ s, s < 2 ^ (qW q + 1) → w'.2 (24 + (c + 1)) s = kv (X s + adB q c k s (i + 1)) := fun hz s hs => by
        rw [adB_s, hz s hs, Int.add_zero]; exact h1 s hs
      by_cases e0 : Bf (alC q) q c i = 0
      · rw [if_pos ((kv0 hBb).mpr e0)]
        exact ⟨(), w', rfl, skip (fun s _ => by rw [e0, Int.mul_zero]; split <;> rfl), h2, h3⟩
      · rw [if_neg (fun z => e0 ((kv0 hBb).mp z)), afterOf_s h.1 hi, bnd_s]
        cases ht : tr (qW q) c i k with
        | none =>
          rw [stI_none, if_pos rfl]
          rw [ht] at skip
          exact ⟨(), w', rfl, skip (fun s _ => if_neg (by simp)), h2, h3⟩
        | some u =>
          have hu := tr_lt h.1.1.1 hi ht
          rw [stI_some, if_neg (ivN_m1 (by omega)), gL_iv (by omega) (by omega), bind_s, gL_iv (by omega) (by omega), bind_s, sL_iv (by omega) (by omega), bind_s, h1 u hu, hBi, iv_kv (by omega) (by omega), kv_mul, kv_add]
          refine ⟨(), _, rfl, fun s hs => ?_, h2.trans (Kp.uL (by omega)), by rw [uL_int]; exact h3⟩
          rw [uL_at2, adB_s, ht]
          by_cases es : s = u
          · rw [if_pos es, if_pos (by rw [es]), es, Int.add_assoc]
          · rw [if_neg es, if_neg (fun z => es (Option.some.inj z).symm), Int.add_zero]; exact h1 s hs
    · rintro _ w' kk ⟨h1, h2, h3⟩
      show ∃ w1, bX1_addBefore_57 _ _ kk _ _ _ _ _ _ _ w' = _ ∧ _
      unfold bX1_addBefore_57
      rw [if_pos iv_Nle']
      exact ⟨w', rfl, h1, h2, h3⟩
