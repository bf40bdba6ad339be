/-! ===== the model's loops that only read; the simple calls ===== -/
theorem LI_slot {s : Nat} (h : s < 4) : LI (6 + s) = 25 := by
  rcases (show s = 0 ∨ s = 1 ∨ s = 2 ∨ s = 3 by omega) with rfl | rfl | rfl | rfl <;> decide +kernel
theorem LI_100 : LI 100 = 100 := by decide +kernel
theorem LI_101 : LI 101 = 5 := by decide +kernel
theorem LI_102 : LI 102 = 5 := by decide +kernel
theorem LI_103 : LI 103 = 25 := by decide +kernel
theorem LI_104 : LI 104 = 5 := by decide +kernel
theorem LI_105 : LI 105 = 5 := by decide +kernel
theorem LI_106 : LI 106 = 25 := by decide +kernel
theorem LI_16 : LI 16 = 5 := by decide +kernel
theorem LI_17 : LI 17 = 5 := by decide +kernel
theorem LI_18 : LI 18 = 25 := by decide +kernel
theorem LI_81 : LI 81 = 5 := by decide +kernel
theorem LI_82 : LI 82 = 5 := by decide +kernel
theorem LI_2 : LI 2 = 25 := by decide +kernel
theorem LI_3 : LI 3 = 25 := by decide +kernel
theorem LI_4 : LI 4 = 100 := by decide +kernel
theorem LI_11 : LI 11 = 25 := by decide +kernel
theorem LI_12 : LI 12 = 25 := by decide +kernel
theorem LI_13 : LI 13 = 25 := by decide +kernel
theorem iv_25sc (s c : Nat) : (25 : Int32) * iv s + iv c = iv ((25 * s + c : Nat) : Int) := by
  rw [iv_25, iv_mul, iv_add, Int.natCast_add, Int.natCast_mul]; rfl
theorem step_of {β : Type} {dq : DecidableEq β} {f1 : Option (β × Wd)} {f2 : Wd → Option (β × Wd)} {v : β} {w1 w2 : Wd} (h1 : f1 = some (v, w1)) (h2 : f2 w1 = some (v, w2)) : (bnd f1 fun x w1 => bnd (f2 w1) fun y w2 => if x = y then some w2 else none) = some w2 := by
  rw [h1, bnd_s, h2, bnd_s, if_pos rfl]
theorem cubesOf_s {W H : Nat} {w : Wd} (hg : MW W H w) {s : Nat} (hs : s < 4) {f : Nat → Int} (hf : ∀ c, c < W * H → w.1 100 (25 * s + c) = iv (f c) ∧ Hgt (f c)) : fX9_cubesOf (iv s) w = some (iv (sm f (W * H)), w) := by
  have hWH := WH_le hg.2.1 hg.2.2.2.1
  have key : ∀ n i, i ≤ W * H → W * H - i < n → lp (fun _ _ _ => none) (bX9_cubesOf_4 (iv s)) n (iv (sm f i)) (iv i) w = some (iv (sm f (W * H)), w) := by
    intro n
    induction n with
    | zero => intro i h1 h2; omega
    | succ n ih =>
      intro i h1 h2
      rw [lp_s]
      unfold bX9_cubesOf_4
      rw [mcells_s hg, bnd_s]
      by_cases z : i = W * H
      · rw [if_pos (by rw [iv_le (by omega) (by omega)]; omega), z]
      · rw [if_neg (by rw [iv_le (by omega) (by omega)]; omega), iv_25sc, gI_iv (by rw [LI_100]; omega) (by rw [LI_100]; omega), bind_s, (hf i (by omega)).1, iv_add, iv_s1]
        exact ih (i + 1) (by omega) (by omega)
  unfold fX9_cubesOf
  rw [iv_0]
  exact key G 0 (by omega) (by have := hG; omega)
theorem sumOf_s {W H : Nat} {w : Wd} (hg : MW W H w) {s : Nat} (hs : s < 4) {f : Nat → Int} (hf : ∀ c, c < W * H → w.1 100 (25 * s + c) = iv (f c) ∧ Hgt (f c)) {col : Int32} {line : Nat} (hl : line < nL W H col) : fX9_sumOf (iv s) col (iv line) w = some (iv (sm (fun i => f (onL W col line i)) (lL W H col)), w) := by
  have hWH := WH_le hg.2.1 hg.2.2.2.1
  have hL5 := lL_le hg.2.1 hg.2.2.2.1 col
  have key : ∀ n i, i ≤ lL W H col → lL W H col - i < n → lp (fun _ _ _ => none) (bX9_sumOf_6 (iv s) col (iv line)) n (iv (sm (fun i => f (onL W col line i)) i)) (iv i) w = some (iv (sm (fun i => f (onL W col line i)) (lL W H col)), w) := by
    intro n
    induction n with
    | zero => intro i h1 h2; omega
    | succ n ih =>
      intro i h1 h2
      rw [lp_s]
      unfold bX9_sumOf_6
      rw [mlength_s hg, bnd_s]
      by_cases z : i = lL W H col
      · rw [if_pos (by rw [iv_le (by omega) (by omega)]; omega), z]
      · have ho := onL_lt hl (show i < lL W H col by omega)
        rw [if_neg (by rw [iv_le (by omega) (by omega)]; omega), monLine_s hg, bnd_s, iv_25sc, gI_iv (by rw [LI_100]; omega) (by rw [LI_100]; omega), bind_s, (hf _ ho).1, iv_add, iv_s1]
        exact ih (i + 1) (by omega) (by omega)
  unfold fX9_sumOf
  rw [iv_0]
  exact key G 0 (by omega) (by have := hG; omega)
theorem greatestOf_s {W H : Nat} {w : Wd} (hg : MW W H w) {s : Nat} (hs : s < 4) {f : Nat → Int} (hf : ∀ c, c < W * H → w.1 100 (25 * s + c) = iv (f c) ∧ Hgt (f c)) {col : Int32} {line : Nat} (hl : line < nL W H col) : fX9_greatestOf (iv s) col (iv line) w = some (iv (mxN (fun i => f (onL W col line i)) (lL W H col)), w) := by
  have hWH := WH_le hg.2.1 hg.2.2.2.1
  have hL5 := lL_le hg.2.1 hg.2.2.2.1 col
  have key : ∀ n i, i ≤ lL W H col → lL W H col - i < n → lp (fun _ _ _ => none) (bX9_greatestOf_6 (iv s) col (iv line)) n (iv (mxN (fun i => f (onL W col line i)) i)) (iv i) w = some (iv (mxN (fun i => f (onL W col line i)) (lL W H col)), w) := by
    intro n
    induction n with
    | zero => intro i h1 h2; omega
    | succ n ih =>
      intro i h1 h2
      rw [lp_s]
      unfold bX9_greatestOf_6 jX9_greatestOf_50
      rw [mlength_s hg, bnd_s]
      by_cases z : i = lL W H col
      · rw [if_pos (by rw [iv_le (by omega) (by omega)]; omega), z]
      · have ho := onL_lt hl (show i < lL W H col by omega)
        have hfo := hf _ ho
        have hfb := hfo.2
        have hb := mxN_bound (f := fun i => f (onL W col line i)) (hi := 4) (by omega) (n := i) (fun j hj => (hf _ (onL_lt hl (by omega))).2.2)
        unfold Hgt at hfb
        rw [if_neg (by rw [iv_le (by omega) (by omega)]; omega), monLine_s hg, bnd_s, iv_25sc, gI_iv (by rw [LI_100]; omega) (by rw [LI_100]; omega), bind_s, hfo.1, iv_s1]
        have nx := ih (i + 1) (by omega) (by omega)
        rw [mxN_s] at nx
        by_cases q : f (onL W col line i) ≤ mxN (fun i => f (onL W col line i)) i
        · rw [if_pos (by rw [iv_le (by omega) (by omega)]; exact q)]
          rw [show max (mxN (fun i => f (onL W col line i)) i) (f (onL W col line i)) = mxN (fun i => f (onL W col line i)) i by omega] at nx
          exact nx
        · rw [if_neg (by rw [iv_le (by omega) (by omega)]; exact q)]
          rw [show max (mxN (fun i => f (onL W col line i)) i) (f (onL W col line i)) = f (onL W col line i) by omega] at nx
          exact nx
  unfold fX9_greatestOf
  rw [iv_0]
  exact key G 0 (by omega) (by have := hG; omega)
/-- a slot's heights, on both sides -/
theorem CS.slot {a : Ab} (ha : AbOK a) {w : Wd} (h : CS a w) {s : Nat} (hs : s < 4) : ∀ c, c < aN a → w.1 (6 + s) c = iv (aP a s c) ∧ Hgt (aP a s c) := fun c hc => ⟨h.2.1 s hs c hc, ha.2.1 s hs c hc⟩
theorem MS.slot {a : Ab} (ha : AbOK a) {w : Wd} (h : MS a w) {s : Nat} (hs : s < 4) : ∀ c, c < aN a → w.1 100 (25 * s + c) = iv (aP a s c) ∧ Hgt (aP a s c) := fun c hc => ⟨h.2.1 s hs c hc, ha.2.1 s hs c hc⟩
theorem Hgt.ti {z : Int} (h : Hgt z) : (iv z).toInt = z := toInt_iv (by unfold Hgt at h; omega) (by unfold Hgt at h; omega)
theorem aN_le {a : Ab} (ha : AbOK a) : aN a ≤ 25 := WH_le ha.1.2.1 ha.1.2.2.2
theorem total_a {a : Ab} (ha : AbOK a) {w : Wd} (h : CS a w) {s : Nat} (hs : s < 4) : fX2_total (6 + s) w = some (iv (sm (aP a s) (aN a)), w) := by
  have hN := aN_le ha
  rw [total_s h.1.1 (by rw [LI_slot hs]; exact hN) (by rw [LI_slot hs]; omega)]
  rw [sm_congr (g := aP a s) (fun c hc => by rw [(h.slot ha hs c hc).1]; exact (h.slot ha hs c hc).2.ti)]
section STEPS
variable {FT : Tl → Wd → Prop} {t : Nat} {w : Wd}
theorem g2 (hF : FTk FT) (hg : Good FT t w) (p q d : Int32) : ∃ w', st2 p q d w = some w' ∧ Good FT (t + 1) w' := by
  obtain ⟨a, ha, hc, hm, hv⟩ := hg
  have hN := aN_le ha
  refine ⟨w, ?_, Good.same hF ha hc hm hv Kp.rf Kp.rf⟩
  unfold st2
  rcases rng 4 p with ⟨s, hs, rfl⟩ | hb
  · rcases rng (aN a) q with ⟨c, hcc, rfl⟩ | hb2
    · refine step_of (w1 := w) (v := iv (aP a s c)) ?_ ?_
      · unfold fX8_height
        rw [noSlot_g hs, bnd_s, if_pos rfl, noCell_g hc.1.1 hcc, bnd_s, if_pos rfl, ixA_iv hs (by omega), bind_s, gI_iv (by rw [LI_slot hs]; omega) (by rw [LI_slot hs]; omega), bind_s, (hc.slot ha hs c hcc).1]
      · unfold fX9_height
        rw [isSlot_g hs, bnd_s, if_neg (by decide), isCell_g hm.1 hcc, bnd_s, if_neg (by decide), iv_25sc, gI_iv (by rw [LI_100]; omega) (by rw [LI_100]; omega), bind_s, (hm.slot ha hs c hcc).1]
    · refine step_of (w1 := w) (v := -1) ?_ ?_
      · unfold fX8_height
        rw [noSlot_g hs, bnd_s, if_pos rfl, noCell_b hc.1.1 hb2, bnd_s, if_neg (by decide)]
      · unfold fX9_height
        rw [isSlot_g hs, bnd_s, if_neg (by decide), isCell_b hm.1 hb2, bnd_s, if_pos rfl]
  · refine step_of (w1 := w) (v := -1) ?_ ?_
    · unfold fX8_height
      rw [noSlot_b hb, bnd_s, if_neg (by decide)]
    · unfold fX9_height
      rw [isSlot_b hb, bnd_s, if_pos rfl]
theorem g4 (hF : FTk FT) (hg : Good FT t w) (p q d : Int32) : ∃ w', st4 p q d w = some w' ∧ Good FT (t + 1) w' := by
  obtain ⟨a, ha, hc, hm, hv⟩ := hg
  refine ⟨w, ?_, Good.same hF ha hc hm hv Kp.rf Kp.rf⟩
  unfold st4
  rcases rng 4 p with ⟨s, hs, rfl⟩ | hb
  · refine step_of (w1 := w) (v := iv (sm (aP a s) (aN a))) ?_ ?_
    · unfold fX8_cubes
      rw [noSlot_g hs, bnd_s, if_pos rfl, ixA_iv hs (by omega), bind_s, total_a ha hc hs, bnd_s]
    · unfold fX9_cubes
      rw [isSlot_g hs, bnd_s, if_neg (by decide), cubesOf_s hm.1 hs (hm.slot ha hs), bnd_s]
  · refine step_of (w1 := w) (v := -1) ?_ ?_
    · unfold fX8_cubes
      rw [noSlot_b hb, bnd_s, if_neg (by decide)]
    · unfold fX9_cubes
      rw [isSlot_b hb, bnd_s, if_pos rfl]
theorem tallest_a {a : Ab} (ha : AbOK a) (h : CS a w) {s : Nat} (hs : s < 4) {col : Int32} {line : Nat} (hl : line < nL (aW a) (aH a) col) : fX7_tallest (6 + s) col (iv line) w = some (iv (mxN (fun i => aP a s (onL (aW a) col line i)) (lL (aW a) (aH a) col)), w) :=
  tallest_s h.1.1 (by rw [LI_slot hs]; exact aN_le ha) (by rw [LI_slot hs]; omega) (h.slot ha hs) hl
theorem g5 (hF : FTk FT) (hg : Good FT t w) (p q d : Int32) : ∃ w', st5 p q d w = some w' ∧ Good FT (t + 1) w' := by
  obtain ⟨a, ha, hc, hm, hv⟩ := hg
  refine ⟨w, ?_, Good.same hF ha hc hm hv Kp.rf Kp.rf⟩
  unfold st5
  rcases rng 4 p with ⟨s, hs, rfl⟩ | hb
  · rcases rng (nL (aW a) (aH a) 1) q with ⟨c, hcc, rfl⟩ | hb2
    · refine step_of (w1 := w) (v := iv (mxN (fun i => aP a s (onL (aW a) 1 c i)) (lL (aW a) (aH a) 1))) ?_ ?_
      · unfold fX8_front
        rw [noSlot_g hs, bnd_s, if_pos rfl, noLine_g hc.1.1 hcc, bnd_s, if_pos rfl, ixA_iv hs (by omega), bind_s, tallest_a ha hc hs hcc, bnd_s]
      · unfold fX9_front
        rw [isSlot_g hs, bnd_s, if_neg (by decide), isLine_g hm.1 hcc, bnd_s, if_neg (by decide), greatestOf_s hm.1 hs (hm.slot ha hs) hcc, bnd_s]
    · refine step_of (w1 := w) (v := -1) ?_ ?_
      · unfold fX8_front
        rw [noSlot_g hs, bnd_s, if_pos rfl, noLine_b hc.1.1 hb2, bnd_s, if_neg (by decide)]
      · unfold fX9_front
        rw [isSlot_g hs, bnd_s, if_neg (by decide), isLine_b hm.1 hb2, bnd_s, if_pos rfl]
  · refine step_of (w1 := w) (v := -1) ?_ ?_
    · unfold fX8_front
      rw [noSlot_b hb, bnd_s, if_neg (by decide)]
    · unfold fX9_front
      rw [isSlot_b hb, bnd_s, if_pos rfl]
theorem g6 (hF : FTk FT) (hg : Good FT t w) (p q d : Int32) : ∃ w', st6 p q d w = some w' ∧ Good FT (t + 1) w' := by
  obtain ⟨a, ha, hc, hm, hv⟩ := hg
  refine ⟨w, ?_, Good.same hF ha hc hm hv Kp.rf Kp.rf⟩
  unfold st6
  rcases rng 4 p with ⟨s, hs, rfl⟩ | hb
  · rcases rng (nL (aW a) (aH a) 0) q with ⟨c, hcc, rfl⟩ | hb2
    · refine step_of (w1 := w) (v := iv (mxN (fun i => aP a s (onL (aW a) 0 c i)) (lL (aW a) (aH a) 0))) ?_ ?_
      · unfold fX8_side
        rw [noSlot_g hs, bnd_s, if_pos rfl, noLine_g hc.1.1 hcc, bnd_s, if_pos rfl, ixA_iv hs (by omega), bind_s, tallest_a ha hc hs hcc, bnd_s]
      · unfold fX9_side
        rw [isSlot_g hs, bnd_s, if_neg (by decide), isLine_g hm.1 hcc, bnd_s, if_neg (by decide), greatestOf_s hm.1 hs (hm.slot ha hs) hcc, bnd_s]
    · refine step_of (w1 := w) (v := -1) ?_ ?_
      · unfold fX8_side
        rw [noSlot_g hs, bnd_s, if_pos rfl, noLine_b hc.1.1 hb2, bnd_s, if_neg (by decide)]
      · unfold fX9_side
        rw [isSlot_g hs, bnd_s, if_neg (by decide), isLine_b hm.1 hb2, bnd_s, if_pos rfl]
  · refine step_of (w1 := w) (v := -1) ?_ ?_
    · unfold fX8_side
      rw [noSlot_b hb, bnd_s, if_neg (by decide)]
    · unfold fX9_side
      rw [isSlot_b hb, bnd_s, if_pos rfl]
theorem lineTotal_a {a : Ab} (ha : AbOK a) (h : CS a w) {s : Nat} (hs : s < 4) {col : Int32} {line : Nat} (hl : line < nL (aW a) (aH a) col) : fX2_lineTotal (6 + s) col (iv line) w = some (iv (sm (fun i => aP a s (onL (aW a) col line i)) (lL (aW a) (aH a) col)), w) := by
  rw [lineTotal_s h.1.1 (by rw [LI_slot hs]; exact aN_le ha) (by rw [LI_slot hs]; omega) hl]
  rw [sm_congr (g := fun i => aP a s (onL (aW a) col line i)) (fun i hi => by rw [(h.slot ha hs _ (onL_lt hl hi)).1]; exact (h.slot ha hs _ (onL_lt hl hi)).2.ti)]
theorem g7 (hF : FTk FT) (hg : Good FT t w) (p q d : Int32) : ∃ w', st7 p q d w = some w' ∧ Good FT (t + 1) w' := by
  obtain ⟨a, ha, hc, hm, hv⟩ := hg
  refine ⟨w, ?_, Good.same hF ha hc hm hv Kp.rf Kp.rf⟩
  unfold st7
  generalize bz q = col
  rcases rng 4 p with ⟨s, hs, rfl⟩ | hb
  · rcases rng (nL (aW a) (aH a) col) d with ⟨c, hcc, rfl⟩ | hb2
    · refine step_of (w1 := w) (v := iv (sm (fun i => aP a s (onL (aW a) col c i)) (lL (aW a) (aH a) col))) ?_ ?_
      · unfold fX8_sum
        rw [noSlot_g hs, bnd_s, if_pos rfl, noLine_g hc.1.1 hcc, bnd_s, if_pos rfl, ixA_iv hs (by omega), bind_s, lineTotal_a ha hc hs hcc, bnd_s]
      · unfold fX9_sum
        rw [isSlot_g hs, bnd_s, if_neg (by decide), isLine_g hm.1 hcc, bnd_s, if_neg (by decide), sumOf_s hm.1 hs (hm.slot ha hs) hcc, bnd_s]
    · refine step_of (w1 := w) (v := -1) ?_ ?_
      · unfold fX8_sum
        rw [noSlot_g hs, bnd_s, if_pos rfl, noLine_b hc.1.1 hb2, bnd_s, if_neg (by decide)]
      · unfold fX9_sum
        rw [isSlot_g hs, bnd_s, if_neg (by decide), isLine_b hm.1 hb2, bnd_s, if_pos rfl]
  · refine step_of (w1 := w) (v := -1) ?_ ?_
    · unfold fX8_sum
      rw [noSlot_b hb, bnd_s, if_neg (by decide)]
    · unfold fX9_sum
      rw [isSlot_b hb, bnd_s, if_pos rfl]
end STEPS
