/-! ===== told by sides and by sums: single numbers ===== -/
theorem VS.bump {FT : Tl → Wd → Prop} {t : Nat} {a a1 : Ab} {w w1 : Wd} (h : VS FT t a w) {n : Nat} (hn : 1 ≤ n) (hn2 : n ≤ 50) (h14 : w1.1 14 4 = w.1 14 4 + iv n) (h19 : w1.1 19 9 = w.1 19 9) : VS FT (t + 1) a1 w1 := by
  obtain ⟨tv, fv, h1, h2, h3, h4, h5⟩ := h
  refine ⟨tv + n, fv, ?_, by rw [h19]; exact h2, by omega, by omega, fun z => by omega⟩
  rw [h14, h1, iv_add, Int.natCast_add]
theorem Tol.rg {z : Int} (h : Tol z) : -2147483648 ≤ z ∧ z < 2147483648 := by unfold Tol at h; omega
theorem Tol.ti {z : Int} (h : Tol z) : (iv z).toInt = z := toInt_iv h.rg.1 h.rg.2
theorem Top.rg {z : Int} (h : Top z) : -2147483648 ≤ z ∧ z < 2147483648 := by unfold Top at h; omega
theorem Top.ti {z : Int} (h : Top z) : (iv z).toInt = z := toInt_iv h.rg.1 h.rg.2
theorem Sum.rg {z : Int} (h : Sum z) : -2147483648 ≤ z ∧ z < 2147483648 := by unfold Sum at h; omega
theorem Sum.ti {z : Int} (h : Sum z) : (iv z).toInt = z := toInt_iv h.rg.1 h.rg.2
theorem ti0 : (0 : Int32).toInt = 0 := by decide
theorem ti1 : (1 : Int32).toInt = 1 := by decide
theorem ti4 : (4 : Int32).toInt = 4 := by decide
theorem ti20 : (20 : Int32).toInt = 20 := by decide
theorem tim9 : (-9 : Int32).toInt = -9 := by decide
theorem ne_m9 {p : Int32} (h : ¬ p.toInt = -9) : ¬ p = -9 := fun z => h (by rw [z]; exact tim9)
theorem tolC (p : Int32) : (∃ z, p = iv z ∧ Tol z) ∨ (¬ p.toInt = -9 ∧ (p.toInt < 0 ∨ 4 < p.toInt)) := by
  by_cases h : p.toInt = -9 ∨ (0 ≤ p.toInt ∧ p.toInt ≤ 4)
  · exact Or.inl ⟨p.toInt, (iv_toInt p).symm, h⟩
  · right; omega
theorem topC (p : Int32) : (∃ z, p = iv z ∧ Top z) ∨ (¬ p.toInt = -9 ∧ (p.toInt < 0 ∨ 1 < p.toInt)) := by
  by_cases h : p.toInt = -9 ∨ p.toInt = 0 ∨ p.toInt = 1
  · exact Or.inl ⟨p.toInt, (iv_toInt p).symm, h⟩
  · right; omega
theorem sumC (p : Int32) : (∃ z, p = iv z ∧ Sum z) ∨ (p.toInt < 0 ∨ 20 < p.toInt) := by
  by_cases h : 0 ≤ p.toInt ∧ p.toInt ≤ 20
  · exact Or.inl ⟨p.toInt, (iv_toInt p).symm, h⟩
  · right; omega
theorem ifTol {β : Type} {z : Int} (h : Tol z) {X Y Z : Option β} : (if iv z = (-9 : Int32) then X else if iv z < 0 then Y else if iv z ≤ (4 : Int32) then X else Z) = X := by
  have hr := h.rg
  by_cases e : z = -9
  · rw [if_pos (by rw [e]; decide)]
  · have h' : 0 ≤ z ∧ z ≤ 4 := h.resolve_left e
    rw [iv_m9, iv_0, iv_4, if_neg (by rw [iv_eq hr (by omega)]; exact e), if_neg (by rw [iv_lt hr (by omega)]; omega), if_pos (by rw [iv_le hr (by omega)]; omega)]
theorem ifTolB {β : Type} {p : Int32} (h1 : ¬ p.toInt = -9) (h2 : p.toInt < 0 ∨ 4 < p.toInt) {X Y : Option β} : (if p = (-9 : Int32) then X else if p < 0 then Y else if p ≤ (4 : Int32) then X else Y) = Y := by
  rw [if_neg (ne_m9 h1)]
  by_cases e : p < 0
  · rw [if_pos e]
  · rw [if_neg e, if_neg]
    rw [Int32.lt_iff_toInt_lt, ti0] at e
    rw [Int32.le_iff_toInt_le, ti4]; omega
theorem ifTop {β : Type} {z : Int} (h : Top z) {X Z : Option β} : (if iv z = (-9 : Int32) then X else if iv z = 0 then X else if iv z = (1 : Int32) then X else Z) = X := by
  rcases h with rfl | rfl | rfl
  · rw [if_pos (by decide)]
  · rw [if_neg (by decide), if_pos (by decide)]
  · rw [if_neg (by decide), if_neg (by decide), if_pos (by decide)]
theorem ifTopB {β : Type} {p : Int32} (h1 : ¬ p.toInt = -9) (h2 : p.toInt < 0 ∨ 1 < p.toInt) {X Z : Option β} : (if p = (-9 : Int32) then X else if p = 0 then X else if p = (1 : Int32) then X else Z) = Z := by
  rw [if_neg (ne_m9 h1), if_neg (fun z => by rw [z, ti0] at h2; omega), if_neg (fun z => by rw [z, ti1] at h2; omega)]
/-- a number of a line: fronts for columns, sides for rows -/
def setL (col : Int32) (f g : Nat → Int) (line : Nat) (z : Int) : (Nat → Int) × (Nat → Int) := if col = 0 then (f, fun y => if y = line then z else g y) else ((fun x => if x = line then z else f x), g)
def aTell (a : Ab) (col : Int32) (line : Nat) (z : Int) : Ab := (a.1, a.2.1, ((setL col (aF a) (aS a) line z).1, (setL col (aF a) (aS a) line z).2, aT a), a.2.2.2)
def aTop (a : Ab) (c : Nat) (z : Int) : Ab := (a.1, a.2.1, (aF a, aS a, fun c' => if c' = c then z else aT a c'), a.2.2.2)
def aSum (a : Ab) (col : Int32) (line : Nat) (z : Int) : Ab := (a.1, a.2.1, a.2.2.1, ((setL col (aC a) (aR a) line z).1, (setL col (aC a) (aR a) line z).2))
def getL (col : Int32) (f g : Nat → Int) (line : Nat) : Int := if col = 0 then g line else f line
theorem setL_ok {W H : Nat} {P : Int → Prop} {col : Int32} {f g : Nat → Int} {line : Nat} {z : Int} (hz : P z) (hf : ∀ x, x < W → P (f x)) (hg : ∀ y, y < H → P (g y)) : (∀ x, x < W → P ((setL col f g line z).1 x)) ∧ (∀ y, y < H → P ((setL col f g line z).2 y)) := by
  unfold setL
  by_cases e : col = 0
  · rw [if_pos e]
    refine ⟨hf, fun y hy => ?_⟩
    show P (if y = line then z else g y)
    split
    · exact hz
    · exact hg y hy
  · rw [if_neg e]
    refine ⟨fun y hy => ?_, hg⟩
    show P (if y = line then z else f y)
    split
    · exact hz
    · exact hf y hy
/-- a row of columns kf, one of rows kg; the number of a line is put -/
theorem setL_row {W H : Nat} {kf kg : Nat} (hne : kf ≠ kg) {w : Wd} {col : Int32} {f g : Nat → Int} {line : Nat} {z : Int} (hf : ∀ x, x < W → w.1 kf x = iv (f x)) (hg : ∀ y, y < H → w.1 kg y = iv (g y)) : (∀ x, x < W → (uI w (if col = 0 then kg else kf) line (iv z)).1 kf x = iv ((setL col f g line z).1 x)) ∧ (∀ y, y < H → (uI w (if col = 0 then kg else kf) line (iv z)).1 kg y = iv ((setL col f g line z).2 y)) := by
  unfold setL
  by_cases e : col = 0
  · rw [if_pos e, if_pos e]
    refine ⟨fun x hx => by rw [uI_other (Or.inl hne)]; exact hf x hx, fun y hy => ?_⟩
    show _ = iv (if y = line then z else g y)
    by_cases q : y = line
    · subst q; rw [if_pos rfl, uI_same]
    · rw [if_neg q, uI_other (Or.inr q)]; exact hg y hy
  · rw [if_neg e, if_neg e]
    refine ⟨fun x hx => ?_, fun y hy => by rw [uI_other (Or.inl hne.symm)]; exact hg y hy⟩
    show _ = iv (if x = line then z else f x)
    by_cases q : x = line
    · subst q; rw [if_pos rfl, uI_same]
    · rw [if_neg q, uI_other (Or.inr q)]; exact hf x hx
section STEPS
variable {FT : Tl → Wd → Prop} {t : Nat} {w : Wd}
theorem putLine_s {a : Ab} (ha : AbOK a) (hc : CS a w) {col : Int32} {line : Nat} (hl : line < nL (aW a) (aH a) col) (x : Int32) : fX5_putLine col (iv line) x w = some (iv (getL col (aF a) (aS a) line), uI (uI w 14 4 (w.1 14 4 + 1)) (if col = 0 then 17 else 16) line x) := by
  have h5 := nL_le ha.1.2.1 ha.1.2.2.2 col
  unfold fX5_putLine fX3_putT jX3_putT_15 getL
  unfold nL at hl h5
  by_cases e : col = 0
  · rw [if_pos e] at hl h5 ⊢
    rw [gI_iv (by rw [LI_17]; omega) (by rw [LI_17]; omega), bind_s, sI_iv (by rw [LI_17]; omega) (by rw [LI_17]; omega), bind_s, bnd_s, uI_row (by omega), hc.2.2.2.1 line hl, if_pos e, if_pos e]
  · rw [if_neg e] at hl h5 ⊢
    rw [gI_iv (by rw [LI_16]; omega) (by rw [LI_16]; omega), bind_s, sI_iv (by rw [LI_16]; omega) (by rw [LI_16]; omega), bind_s, bnd_s, uI_row (by omega), hc.2.2.1 line hl, if_neg e, if_neg e]
theorem col1617 (col : Int32) : (if col = 0 then 17 else 16) = 17 ∨ (if col = 0 then 17 else 16) = 16 := by split <;> simp
theorem CS.tell {a : Ab} (hc : CS a w) (col : Int32) (line : Nat) (z : Int) (x : Int32) : CS (aTell a col line z) (uI (uI w 14 4 x) (if col = 0 then 17 else 16) line (iv z)) := by
  obtain ⟨h1, h2, h3, h4, h5, h6, h7, h8⟩ := hc
  have hk := col1617 col
  have kp : Kp (fun k => k ≠ 14 ∧ k ≠ 16 ∧ k ≠ 17) w (uI (uI w 14 4 x) (if col = 0 then 17 else 16) line (iv z)) := (Kp.uI (fun z => z.1 rfl)).trans (Kp.uI (fun q => by omega))
  have hr := setL_row (W := aW a) (H := aH a) (kf := 16) (kg := 17) (by omega) (w := uI w 14 4 x) (col := col) (line := line) (z := z) (f := aF a) (g := aS a) (fun x hx => by rw [uI_row (by omega)]; exact h3 x hx) (fun y hy => by rw [uI_row (by omega)]; exact h4 y hy)
  refine ⟨h1.kept (kp.weak fun k q => by omega), fun s hs c hcc => ?_, hr.1, hr.2, fun c hcc => ?_, fun x hx => ?_, fun y hy => ?_, ?_⟩
  · rw [(kp (6 + s) (by omega)).1]; exact h2 s hs c hcc
  · rw [(kp 18 (by omega)).1]; exact h5 c hcc
  · rw [(kp 81 (by omega)).1]; exact h6 x hx
  · rw [(kp 82 (by omega)).1]; exact h7 y hy
  · rw [(kp 19 (by omega)).1]; exact h8
theorem AbOK.tell {a : Ab} (ha : AbOK a) (col : Int32) (line : Nat) {z : Int} (hz : Tol z) : AbOK (aTell a col line z) := by
  have h := setL_ok (W := aW a) (H := aH a) (P := Tol) (col := col) (line := line) hz ha.2.2.1 ha.2.2.2.1
  exact ⟨ha.1, ha.2.1, h.1, h.2, ha.2.2.2.2.1, ha.2.2.2.2.2.1, ha.2.2.2.2.2.2⟩
theorem col100 (col : Int32) : (if col = 0 then 102 else 101) = 102 ∨ (if col = 0 then 102 else 101) = 101 := by split <;> simp
theorem MS.tell {a : Ab} (hm : MS a w) (col : Int32) (line : Nat) (z : Int) : MS (aTell a col line z) (uI w (if col = 0 then 102 else 101) line (iv z)) := by
  obtain ⟨h1, h2, h3, h4, h5, h6, h7, h8⟩ := hm
  have hk := col100 col
  have kp : Kp (fun k => k ≠ 101 ∧ k ≠ 102) w (uI w (if col = 0 then 102 else 101) line (iv z)) := Kp.uI (fun q => by omega)
  have hr := setL_row (W := aW a) (H := aH a) (kf := 101) (kg := 102) (by omega) (w := w) (col := col) (line := line) (z := z) (f := aF a) (g := aS a) h3 h4
  refine ⟨h1.kept (kp 99 (by omega)).1, fun s hs c hcc => ?_, hr.1, hr.2, fun c hcc => ?_, fun x hx => ?_, fun y hy => ?_, ?_⟩
  · rw [(kp 100 (by omega)).1]; exact h2 s hs c hcc
  · rw [(kp 103 (by omega)).1]; exact h5 c hcc
  · rw [(kp 104 (by omega)).1]; exact h6 x hx
  · rw [(kp 105 (by omega)).1]; exact h7 y hy
  · rw [(kp 99 (by omega)).1]; exact h8
theorem mtell_s {a : Ab} (ha : AbOK a) (hm : MS a w) {col : Int32} {line : Nat} (hl : line < nL (aW a) (aH a) col) (z : Int) : jX9_tell_32 col (iv line) (iv z) w = some (iv (getL col (aF a) (aS a) line), uI w (if col = 0 then 102 else 101) line (iv z)) := by
  have h5 := nL_le ha.1.2.1 ha.1.2.2.2 col
  unfold jX9_tell_32 jX9_tell_51 getL
  unfold nL at hl h5
  by_cases e : col = 0
  · rw [if_pos e] at hl h5 ⊢
    rw [gI_iv (by rw [LI_102]; omega) (by rw [LI_102]; omega), bind_s, if_pos e, sI_iv (by rw [LI_102]; omega) (by rw [LI_102]; omega), bind_s, hm.2.2.2.1 line hl, if_pos e, if_pos e]
  · rw [if_neg e] at hl h5 ⊢
    rw [gI_iv (by rw [LI_101]; omega) (by rw [LI_101]; omega), bind_s, if_neg e, sI_iv (by rw [LI_101]; omega) (by rw [LI_101]; omega), bind_s, hm.2.2.1 line hl, if_neg e, if_neg e]
theorem g13 (hF : FTk FT) (hg : Good FT t w) (p q d : Int32) : ∃ w', st13 p q d w = some w' ∧ Good FT (t + 1) w' := by
  obtain ⟨a, ha, hc, hm, hv⟩ := hg
  unfold st13
  generalize bz p = col
  rcases rng (nL (aW a) (aH a) col) q with ⟨c, hcc, rfl⟩ | hb
  · rcases tolC d with ⟨z, rfl, hz⟩ | ⟨hb1, hb2⟩
    · have hk := col1617 col
      refine comb hF (v := iv (getL col (aF a) (aS a) c)) (a1 := aTell a col c z) (ha.tell col c hz) hm ⟨uI (uI w 14 4 (w.1 14 4 + 1)) (if col = 0 then 17 else 16) c (iv z), ?_, hc.tell col c z _, ?_, ?_⟩ (fun w1 hm1 => ⟨uI w1 (if col = 0 then 102 else 101) c (iv z), ?_, hm1.tell col c z, ?_⟩)
      · unfold fX8_tell jX8_tell_29
        rw [noLine_g hc.1.1 hcc, bnd_s, if_pos rfl, ifTol hz, putLine_s ha hc hcc, bnd_s]
      · refine hv.bump (n := 1) (by omega) (by omega) ?_ ?_
        · rw [uI_row (by omega), uI_same]; rfl
        · rw [uI_row (by omega), uI_row (by omega)]
      · exact (Kp.uI (by unfold mR; omega)).trans (Kp.uI (by unfold mR; omega))
      · unfold fX9_tell
        rw [isLine_g hm1.1 hcc, bnd_s, if_neg (by decide)]
        by_cases e : z = -9
        · rw [if_pos (by rw [e]; decide), mtell_s ha hm1 hcc]
        · have h' : 0 ≤ z ∧ z ≤ 4 := hz.resolve_left e
          rw [if_neg (ne_m9 (by rw [hz.ti]; exact e)), in_g w1 (by rw [L0, hz.ti]; omega) (by rw [L4, hz.ti]; omega), bnd_s, if_neg (by decide), mtell_s ha hm1 hcc]
      · have := col100 col
        exact Kp.uI (by unfold cR; omega)
    · refine comb0 hF (v := -2) ha hc hm hv ?_ ?_
      · unfold fX8_tell
        rw [noLine_g hc.1.1 hcc, bnd_s, if_pos rfl, ifTolB hb1 hb2]
      · unfold fX9_tell
        rw [isLine_g hm.1 hcc, bnd_s, if_neg (by decide), if_neg (ne_m9 hb1), in_b w (by rw [L0, L4]; exact hb2), bnd_s, if_pos rfl]
  · refine comb0 hF (v := -1) ha hc hm hv ?_ ?_
    · unfold fX8_tell
      rw [noLine_b hc.1.1 hb, bnd_s, if_neg (by decide)]
    · unfold fX9_tell
      rw [isLine_b hm.1 hb, bnd_s, if_pos rfl]
theorem putTop_s {a : Ab} (ha : AbOK a) (hc : CS a w) {c : Nat} (hcc : c < aN a) (x : Int32) : fX5_putTop (iv c) x w = some (iv (aT a c), uI (uI w 14 4 (w.1 14 4 + 1)) 18 c x) := by
  have hN := aN_le ha
  unfold fX5_putTop
  rw [gI_iv (by rw [LI_18]; omega) (by rw [LI_18]; omega), bind_s, sI_iv (by rw [LI_18]; omega) (by rw [LI_18]; omega), bind_s, uI_row (by omega), hc.2.2.2.2.1 c hcc]
theorem CS.top {a : Ab} (hc : CS a w) (c : Nat) (z : Int) (x : Int32) : CS (aTop a c z) (uI (uI w 14 4 x) 18 c (iv z)) := by
  obtain ⟨h1, h2, h3, h4, h5, h6, h7, h8⟩ := hc
  have kp : Kp (fun k => k ≠ 14 ∧ k ≠ 18) w (uI (uI w 14 4 x) 18 c (iv z)) := (Kp.uI (fun z => z.1 rfl)).trans (Kp.uI (fun q => q.2 rfl))
  refine ⟨h1.kept (kp.weak fun k q => by omega), fun s hs c hcc => ?_, fun x hx => ?_, fun y hy => ?_, fun c' hcc => ?_, fun x hx => ?_, fun y hy => ?_, ?_⟩
  · rw [(kp (6 + s) (by omega)).1]; exact h2 s hs c hcc
  · rw [(kp 16 (by omega)).1]; exact h3 x hx
  · rw [(kp 17 (by omega)).1]; exact h4 y hy
  · show _ = iv (if c' = c then z else aT a c')
    by_cases e : c' = c
    · subst e; rw [if_pos rfl, uI_same]
    · rw [if_neg e, uI_other (Or.inr e), uI_row (by omega)]; exact h5 c' hcc
  · rw [(kp 81 (by omega)).1]; exact h6 x hx
  · rw [(kp 82 (by omega)).1]; exact h7 y hy
  · rw [(kp 19 (by omega)).1]; exact h8
theorem AbOK.top {a : Ab} (ha : AbOK a) (c : Nat) {z : Int} (hz : Top z) : AbOK (aTop a c z) := by
  refine ⟨ha.1, ha.2.1, ha.2.2.1, ha.2.2.2.1, fun c' hc' => ?_, ha.2.2.2.2.2.1, ha.2.2.2.2.2.2⟩
  show Top (if c' = c then z else aT a c')
  split
  · exact hz
  · exact ha.2.2.2.2.1 c' hc'
theorem MS.top {a : Ab} (hm : MS a w) (c : Nat) (z : Int) : MS (aTop a c z) (uI w 103 c (iv z)) := by
  obtain ⟨h1, h2, h3, h4, h5, h6, h7, h8⟩ := hm
  have kp : Kp (fun k => k ≠ 103) w (uI w 103 c (iv z)) := Kp.uI (fun q => q rfl)
  refine ⟨h1.kept (kp 99 (by omega)).1, fun s hs c hcc => ?_, fun x hx => ?_, fun y hy => ?_, fun c' hcc => ?_, fun x hx => ?_, fun y hy => ?_, ?_⟩
  · rw [(kp 100 (by omega)).1]; exact h2 s hs c hcc
  · rw [(kp 101 (by omega)).1]; exact h3 x hx
  · rw [(kp 102 (by omega)).1]; exact h4 y hy
  · show _ = iv (if c' = c then z else aT a c')
    by_cases e : c' = c
    · subst e; rw [if_pos rfl, uI_same]
    · rw [if_neg e, uI_other (Or.inr e)]; exact h5 c' hcc
  · rw [(kp 104 (by omega)).1]; exact h6 x hx
  · rw [(kp 105 (by omega)).1]; exact h7 y hy
  · rw [(kp 99 (by omega)).1]; exact h8
theorem g14 (hF : FTk FT) (hg : Good FT t w) (p q d : Int32) : ∃ w', st14 p q d w = some w' ∧ Good FT (t + 1) w' := by
  obtain ⟨a, ha, hc, hm, hv⟩ := hg
  have hN := aN_le ha
  unfold st14
  rcases rng (aN a) p with ⟨c, hcc, rfl⟩ | hb
  · rcases topC q with ⟨z, rfl, hz⟩ | ⟨hb1, hb2⟩
    · refine comb hF (v := iv (aT a c)) (a1 := aTop a c z) (ha.top c hz) hm ⟨uI (uI w 14 4 (w.1 14 4 + 1)) 18 c (iv z), ?_, hc.top c z _, ?_, ?_⟩ (fun w1 hm1 => ⟨uI w1 103 c (iv z), ?_, hm1.top c z, ?_⟩)
      · unfold fX8_tellTop jX8_tellTop_28
        rw [noCell_g hc.1.1 hcc, bnd_s, if_pos rfl, ifTop hz, putTop_s ha hc hcc, bnd_s]
      · refine hv.bump (n := 1) (by omega) (by omega) ?_ ?_
        · rw [uI_row (by omega), uI_same]; rfl
        · rw [uI_row (by omega), uI_row (by omega)]
      · exact (Kp.uI (by unfold mR; omega)).trans (Kp.uI (by unfold mR; omega))
      · have mt : jX9_tellTop_29 (iv c) (iv z) w1 = some (iv (aT a c), uI w1 103 c (iv z)) := by
          unfold jX9_tellTop_29
          rw [gI_iv (by rw [LI_103]; omega) (by rw [LI_103]; omega), bind_s, sI_iv (by rw [LI_103]; omega) (by rw [LI_103]; omega), bind_s, hm1.2.2.2.2.1 c hcc]
        unfold fX9_tellTop
        rw [isCell_g hm1.1 hcc, bnd_s, if_neg (by decide)]
        by_cases e : z = -9
        · rw [if_pos (by rw [e]; decide), mt]
        · have h' : z = 0 ∨ z = 1 := hz.resolve_left e
          rw [if_neg (ne_m9 (by rw [hz.ti]; exact e)), in_g w1 (by rw [L0, hz.ti]; omega) (by rw [L1, hz.ti]; omega), bnd_s, if_neg (by decide), mt]
      · exact Kp.uI (by unfold cR; omega)
    · refine comb0 hF (v := -2) ha hc hm hv ?_ ?_
      · unfold fX8_tellTop
        rw [noCell_g hc.1.1 hcc, bnd_s, if_pos rfl, ifTopB hb1 hb2]
      · unfold fX9_tellTop
        rw [isCell_g hm.1 hcc, bnd_s, if_neg (by decide), if_neg (ne_m9 hb1), in_b w (by rw [L0, L1]; exact hb2), bnd_s, if_pos rfl]
  · refine comb0 hF (v := -1) ha hc hm hv ?_ ?_
    · unfold fX8_tellTop
      rw [noCell_b hc.1.1 hb, bnd_s, if_neg (by decide)]
    · unfold fX9_tellTop
      rw [isCell_b hm.1 hb, bnd_s, if_pos rfl]
/-! sums -/
theorem col81 (col : Int32) : (if col = 0 then 82 else 81) = 82 ∨ (if col = 0 then 82 else 81) = 81 := by split <;> simp
theorem col103 (col : Int32) : (if col = 0 then 105 else 104) = 105 ∨ (if col = 0 then 105 else 104) = 104 := by split <;> simp
theorem putSum_s {a : Ab} (ha : AbOK a) (hc : CS a w) {col : Int32} {line : Nat} (hl : line < nL (aW a) (aH a) col) (x : Int32) : fX4_put col (iv line) x w = some (iv (getL col (aC a) (aR a) line), uI w (if col = 0 then 82 else 81) line x) := by
  have h5 := nL_le ha.1.2.1 ha.1.2.2.2 col
  unfold fX4_put fX3_putS jX3_putS_15 getL
  unfold nL at hl h5
  by_cases e : col = 0
  · rw [if_pos e] at hl h5 ⊢
    rw [gI_iv (by rw [LI_82]; omega) (by rw [LI_82]; omega), bind_s, sI_iv (by rw [LI_82]; omega) (by rw [LI_82]; omega), bind_s, bnd_s, hc.2.2.2.2.2.2.1 line hl, if_pos e, if_pos e]
  · rw [if_neg e] at hl h5 ⊢
    rw [gI_iv (by rw [LI_81]; omega) (by rw [LI_81]; omega), bind_s, sI_iv (by rw [LI_81]; omega) (by rw [LI_81]; omega), bind_s, bnd_s, hc.2.2.2.2.2.1 line hl, if_neg e, if_neg e]
theorem CS.sum {a : Ab} (hc : CS a w) (col : Int32) (line : Nat) (z : Int) : CS (aSum a col line z) (uI w (if col = 0 then 82 else 81) line (iv z)) := by
  obtain ⟨h1, h2, h3, h4, h5, h6, h7, h8⟩ := hc
  have hk := col81 col
  have kp : Kp (fun k => k ≠ 81 ∧ k ≠ 82) w (uI w (if col = 0 then 82 else 81) line (iv z)) := Kp.uI (fun q => by omega)
  have hr := setL_row (W := aW a) (H := aH a) (kf := 81) (kg := 82) (by omega) (w := w) (col := col) (line := line) (z := z) (f := aC a) (g := aR a) h6 h7
  refine ⟨h1.kept (kp.weak fun k q => by omega), fun s hs c hcc => ?_, fun x hx => ?_, fun y hy => ?_, fun c hcc => ?_, hr.1, hr.2, ?_⟩
  · rw [(kp (6 + s) (by omega)).1]; exact h2 s hs c hcc
  · rw [(kp 16 (by omega)).1]; exact h3 x hx
  · rw [(kp 17 (by omega)).1]; exact h4 y hy
  · rw [(kp 18 (by omega)).1]; exact h5 c hcc
  · rw [(kp 19 (by omega)).1]; exact h8
theorem AbOK.sum {a : Ab} (ha : AbOK a) (col : Int32) (line : Nat) {z : Int} (hz : Sum z) : AbOK (aSum a col line z) := by
  have h := setL_ok (W := aW a) (H := aH a) (P := Sum) (col := col) (line := line) hz ha.2.2.2.2.2.1 ha.2.2.2.2.2.2
  exact ⟨ha.1, ha.2.1, ha.2.2.1, ha.2.2.2.1, ha.2.2.2.2.1, h.1, h.2⟩
theorem MS.sum {a : Ab} (hm : MS a w) (col : Int32) (line : Nat) (z : Int) : MS (aSum a col line z) (uI w (if col = 0 then 105 else 104) line (iv z)) := by
  obtain ⟨h1, h2, h3, h4, h5, h6, h7, h8⟩ := hm
  have hk := col103 col
  have kp : Kp (fun k => k ≠ 104 ∧ k ≠ 105) w (uI w (if col = 0 then 105 else 104) line (iv z)) := Kp.uI (fun q => by omega)
  have hr := setL_row (W := aW a) (H := aH a) (kf := 104) (kg := 105) (by omega) (w := w) (col := col) (line := line) (z := z) (f := aC a) (g := aR a) h6 h7
  refine ⟨h1.kept (kp 99 (by omega)).1, fun s hs c hcc => ?_, fun x hx => ?_, fun y hy => ?_, fun c hcc => ?_, hr.1, hr.2, ?_⟩
  · rw [(kp 100 (by omega)).1]; exact h2 s hs c hcc
  · rw [(kp 101 (by omega)).1]; exact h3 x hx
  · rw [(kp 102 (by omega)).1]; exact h4 y hy
  · rw [(kp 103 (by omega)).1]; exact h5 c hcc
  · rw [(kp 99 (by omega)).1]; exact h8
theorem g23 (hF : FTk FT) (hg : Good FT t w) (p q d : Int32) : ∃ w', st23 p q d w = some w' ∧ Good FT (t + 1) w' := by
  obtain ⟨a, ha, hc, hm, hv⟩ := hg
  unfold st23
  generalize bz p = col
  rcases rng (nL (aW a) (aH a) col) q with ⟨c, hcc, rfl⟩ | hb
  · rcases sumC d with ⟨z, rfl, hz⟩ | hb2
    · have hk := col81 col
      have hk3 := col103 col
      have hz' : 0 ≤ z ∧ z ≤ 20 := hz
      refine comb hF (v := iv (getL col (aC a) (aR a) c)) (a1 := aSum a col c z) (ha.sum col c hz) hm ⟨uI w (if col = 0 then 82 else 81) c (iv z), ?_, hc.sum col c z, hv.kept hF (Kp.uI (by omega)) rfl, Kp.uI (by unfold mR; omega)⟩ (fun w1 hm1 => ⟨uI w1 (if col = 0 then 105 else 104) c (iv z), ?_, hm1.sum col c z, Kp.uI (by unfold cR; omega)⟩)
      · unfold fX8_tellSum
        rw [noLine_g hc.1.1 hcc, bnd_s, if_pos rfl, if_neg (by rw [iv_0, iv_lt hz.rg (by omega)]; omega), if_pos (by rw [iv_20, iv_le hz.rg (by omega)]; omega), putSum_s ha hc hcc, bnd_s]
      · have h5 := nL_le ha.1.2.1 ha.1.2.2.2 col
        unfold fX9_tellSum jX9_tellSum_45
        rw [isLine_g hm1.1 hcc, bnd_s, if_neg (by decide), in_g w1 (by rw [L0, hz.ti]; omega) (by rw [L20, hz.ti]; omega), bnd_s, if_neg (by decide)]
        unfold getL
        unfold nL at hcc h5
        by_cases e : col = 0
        · rw [if_pos e] at hcc h5 ⊢
          rw [gI_iv (by rw [LI_105]; omega) (by rw [LI_105]; omega), bind_s, if_pos e, sI_iv (by rw [LI_105]; omega) (by rw [LI_105]; omega), bind_s, hm1.2.2.2.2.2.2.1 c hcc, if_pos e, if_pos e]
        · rw [if_neg e] at hcc h5 ⊢
          rw [gI_iv (by rw [LI_104]; omega) (by rw [LI_104]; omega), bind_s, if_neg e, sI_iv (by rw [LI_104]; omega) (by rw [LI_104]; omega), bind_s, hm1.2.2.2.2.2.1 c hcc, if_neg e, if_neg e]
    · refine comb0 hF (v := -2) ha hc hm hv ?_ ?_
      · unfold fX8_tellSum
        rw [noLine_g hc.1.1 hcc, bnd_s, if_pos rfl]
        by_cases e : d < 0
        · rw [if_pos e]
        · rw [if_neg e, if_neg]
          rw [Int32.lt_iff_toInt_lt, ti0] at e
          rw [Int32.le_iff_toInt_le, ti20]; omega
      · unfold fX9_tellSum
        rw [isLine_g hm.1 hcc, bnd_s, if_neg (by decide), in_b w (by rw [L0, L20]; exact hb2), bnd_s, if_pos rfl]
  · refine comb0 hF (v := -1) ha hc hm hv ?_ ?_
    · unfold fX8_tellSum
      rw [noLine_b hc.1.1 hb, bnd_s, if_neg (by decide)]
    · unfold fX9_tellSum
      rw [isLine_b hm.1 hb, bnd_s, if_pos rfl]
end STEPS
