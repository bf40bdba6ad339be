/-! ===== guards and the ground ===== -/
theorem rng (n : Nat) (p : Int32) : (∃ s : Nat, s < n ∧ p = iv s) ∨ (p.toInt < 0 ∨ (n : Int) ≤ p.toInt) := by
  by_cases h : p.toInt < 0 ∨ (n : Int) ≤ p.toInt
  · exact Or.inr h
  · refine Or.inl ⟨p.toInt.toNat, by omega, ?_⟩
    rw [show ((p.toInt.toNat : Nat) : Int) = p.toInt by omega, iv_toInt]
/-- the ground as the class has it, and as the model has it -/
def GW (W H : Nat) (w : Wd) : Prop := 1 ≤ W ∧ W ≤ 5 ∧ 1 ≤ H ∧ H ≤ 5 ∧ w.1 1 3 = iv W ∧ w.1 1 4 = iv H
def MW (W H : Nat) (w : Wd) : Prop := 1 ≤ W ∧ W ≤ 5 ∧ 1 ≤ H ∧ H ≤ 5 ∧ w.1 99 0 = iv W ∧ w.1 99 1 = iv H
theorem WH_le {W H : Nat} (h1 : W ≤ 5) (h2 : H ≤ 5) : W * H ≤ 25 := Nat.mul_le_mul h1 h2
theorem WH_pos {W H : Nat} (h1 : 1 ≤ W) (h2 : 1 ≤ H) : 1 ≤ W * H := Nat.mul_le_mul h1 h2
theorem iv_WH (W H : Nat) : iv W * iv H = iv ((W * H : Nat) : Int) := by rw [iv_mul, Int.natCast_mul]
theorem cells_s {W H : Nat} {w : Wd} (h : GW W H w) : fX2_cells w = some (iv ((W * H : Nat) : Int), w) := by
  unfold fX2_cells
  rw [h.2.2.2.2.1, h.2.2.2.2.2, iv_WH]
theorem mcells_s {W H : Nat} {w : Wd} (h : MW W H w) : fX9_cells w = some (iv ((W * H : Nat) : Int), w) := by
  unfold fX9_cells
  rw [h.2.2.2.2.1, h.2.2.2.2.2, iv_WH]
theorem noSlot_g {s : Nat} (h : s < 4) (w : Wd) : fX8_noSlot (iv s) w = some (0, w) := by
  unfold fX8_noSlot
  rw [iv_0, iv_4, if_neg (by rw [iv_lt (by omega) (by omega)]; omega), if_pos (by rw [iv_lt (by omega) (by omega)]; omega)]
  rw [← iv_0]; exact zr_0
theorem noSlot_b {p : Int32} (h : p.toInt < 0 ∨ ((4 : Nat) : Int) ≤ p.toInt) (w : Wd) : fX8_noSlot p w = some (1, w) := by
  unfold fX8_noSlot jX8_noSlot_9
  by_cases h1 : p < 0
  · rw [if_pos h1]; exact zr_1
  · rw [if_neg h1, if_neg, zr_1]
    rw [Int32.lt_iff_toInt_lt] at h1 ⊢
    have e0 : (0 : Int32).toInt = 0 := by decide
    have e4 : (4 : Int32).toInt = 4 := by decide
    rw [e0] at h1; rw [e4]; omega
theorem noCell_g {W H : Nat} {w : Wd} (hg : GW W H w) {c : Nat} (h : c < W * H) : fX8_noCell (iv c) w = some (0, w) := by
  have := WH_le hg.2.1 hg.2.2.2.1
  unfold fX8_noCell
  rw [cells_s hg, iv_0, if_neg (by rw [iv_lt (by omega) (by omega)]; omega), bnd_s, if_pos (by rw [iv_lt (by omega) (by omega)]; omega)]
  rw [← iv_0]; exact zr_0
theorem noCell_b {W H : Nat} {w : Wd} (hg : GW W H w) {p : Int32} (h : p.toInt < 0 ∨ ((W * H : Nat) : Int) ≤ p.toInt) : fX8_noCell p w = some (1, w) := by
  have := WH_le hg.2.1 hg.2.2.2.1
  unfold fX8_noCell jX8_noCell_15
  by_cases h1 : p < 0
  · rw [if_pos h1]; exact zr_1
  · rw [if_neg h1, cells_s hg, bnd_s, if_neg, zr_1]
    rw [Int32.lt_iff_toInt_lt] at h1 ⊢
    have e0 : (0 : Int32).toInt = 0 := by decide
    rw [e0] at h1; rw [toInt_iv (by omega) (by omega)]; omega
/-- how many lines there are, and how long they are; col is 0 for rows -/
def nL (W H : Nat) (col : Int32) : Nat := if col = 0 then H else W
def lL (W H : Nat) (col : Int32) : Nat := if col = 0 then W else H
theorem nL_le {W H : Nat} (h1 : W ≤ 5) (h2 : H ≤ 5) (col : Int32) : nL W H col ≤ 5 := by unfold nL; split <;> omega
theorem lL_le {W H : Nat} (h1 : W ≤ 5) (h2 : H ≤ 5) (col : Int32) : lL W H col ≤ 5 := by unfold lL; split <;> omega
theorem lines_s {W H : Nat} {w : Wd} (h : GW W H w) (col : Int32) : fX2_lines col w = some (iv (nL W H col : Nat), w) := by
  unfold fX2_lines nL
  by_cases z : col = 0
  · rw [if_pos z, if_pos z, h.2.2.2.2.2]
  · rw [if_neg z, if_neg z, h.2.2.2.2.1]
theorem length_s {W H : Nat} {w : Wd} (h : GW W H w) (col : Int32) : fX2_length col w = some (iv (lL W H col : Nat), w) := by
  unfold fX2_length lL
  by_cases z : col = 0
  · rw [if_pos z, if_pos z, h.2.2.2.2.1]
  · rw [if_neg z, if_neg z, h.2.2.2.2.2]
theorem mlength_s {W H : Nat} {w : Wd} (h : MW W H w) (col : Int32) : fX9_lengthOf col w = some (iv (lL W H col : Nat), w) := by
  unfold fX9_lengthOf lL
  by_cases z : col = 0
  · rw [if_pos z, if_pos z, h.2.2.2.2.1]
  · rw [if_neg z, if_neg z, h.2.2.2.2.2]
/-- the cell at place i of a line -/
def onL (W : Nat) (col : Int32) (line i : Nat) : Nat := if col = 0 then line * W + i else i * W + line
theorem onL_lt {W H : Nat} {col : Int32} {line i : Nat} (h1 : line < nL W H col) (h2 : i < lL W H col) : onL W col line i < W * H := by
  unfold onL nL lL at *
  by_cases z : col = 0
  · rw [if_pos z] at *
    calc line * W + i < line * W + W := by omega
      _ = (line + 1) * W := by rw [Nat.add_mul, Nat.one_mul]
      _ ≤ H * W := Nat.mul_le_mul_right _ (by omega)
      _ = W * H := Nat.mul_comm _ _
  · rw [if_neg z] at *
    calc i * W + line < i * W + W := by omega
      _ = (i + 1) * W := by rw [Nat.add_mul, Nat.one_mul]
      _ ≤ H * W := Nat.mul_le_mul_right _ (by omega)
      _ = W * H := Nat.mul_comm _ _
theorem onLine_s {W H : Nat} {w : Wd} (h : GW W H w) (col : Int32) (line i : Nat) : fX2_onLine col (iv line) (iv i) w = some (iv (onL W col line i : Nat), w) := by
  unfold fX2_onLine onL
  by_cases z : col = 0
  · rw [if_pos z, if_pos z, h.2.2.2.2.1, iv_mul, iv_add, Int.natCast_add, Int.natCast_mul]
  · rw [if_neg z, if_neg z, h.2.2.2.2.1, iv_mul, iv_add, Int.natCast_add, Int.natCast_mul]
theorem monLine_s {W H : Nat} {w : Wd} (h : MW W H w) (col : Int32) (line i : Nat) : fX9_cellOf col (iv line) (iv i) w = some (iv (onL W col line i : Nat), w) := by
  unfold fX9_cellOf onL
  by_cases z : col = 0
  · rw [if_pos z, if_pos z, h.2.2.2.2.1, iv_mul, iv_add, Int.natCast_add, Int.natCast_mul]
  · rw [if_neg z, if_neg z, h.2.2.2.2.1, iv_mul, iv_add, Int.natCast_add, Int.natCast_mul]
theorem noLine_g {W H : Nat} {w : Wd} (hg : GW W H w) {col : Int32} {c : Nat} (h : c < nL W H col) : fX8_noLine col (iv c) w = some (0, w) := by
  have := nL_le hg.2.1 hg.2.2.2.1 col
  unfold fX8_noLine
  rw [lines_s hg, iv_0, if_neg (by rw [iv_lt (by omega) (by omega)]; omega), bnd_s, if_pos (by rw [iv_lt (by omega) (by omega)]; omega)]
  rw [← iv_0]; exact zr_0
theorem noLine_b {W H : Nat} {w : Wd} (hg : GW W H w) {col p : Int32} (h : p.toInt < 0 ∨ ((nL W H col : Nat) : Int) ≤ p.toInt) : fX8_noLine col p w = some (1, w) := by
  have := nL_le hg.2.1 hg.2.2.2.1 col
  unfold fX8_noLine jX8_noLine_16
  by_cases h1 : p < 0
  · rw [if_pos h1]; exact zr_1
  · rw [if_neg h1, lines_s hg, bnd_s, if_neg, zr_1]
    rw [Int32.lt_iff_toInt_lt] at h1 ⊢
    have e0 : (0 : Int32).toInt = 0 := by decide
    rw [e0] at h1; rw [toInt_iv (by omega) (by omega)]; omega
/-- the model's 'in' -/
theorem in_s (x a b : Int64) (w : Wd) : fX9_in x a b w = some (if x.toInt < a.toInt ∨ b.toInt < x.toInt then 0 else 1, w) := by
  unfold fX9_in
  by_cases h1 : x < a
  · rw [if_pos h1, if_pos (Or.inl (Int64.lt_iff_toInt_lt.mp h1))]; exact zr_0
  · rw [if_neg h1]
    by_cases h2 : b < x
    · rw [if_pos h2, if_pos (Or.inr (Int64.lt_iff_toInt_lt.mp h2))]; exact zr_0
    · rw [if_neg h2, if_neg (fun z => z.elim (fun z => h1 (Int64.lt_iff_toInt_lt.mpr z)) (fun z => h2 (Int64.lt_iff_toInt_lt.mpr z)))]; exact zr_1
theorem in_g {p : Int32} {a b : Int64} (w : Wd) (h1 : a.toInt ≤ p.toInt) (h2 : p.toInt ≤ b.toInt) : fX9_in p.toInt64 a b w = some (1, w) := by
  rw [in_s, Int32.toInt_toInt64, if_neg (by omega)]
theorem in_b {p : Int32} {a b : Int64} (w : Wd) (h : p.toInt < a.toInt ∨ b.toInt < p.toInt) : fX9_in p.toInt64 a b w = some (0, w) := by
  rw [in_s, Int32.toInt_toInt64, if_pos h]
theorem L0 : (0 : Int64).toInt = 0 := by decide
theorem L1 : (1 : Int64).toInt = 1 := by decide
theorem L3 : (3 : Int64).toInt = 3 := by decide
theorem L4 : (4 : Int64).toInt = 4 := by decide
theorem L5 : (5 : Int64).toInt = 5 := by decide
theorem L7 : (7 : Int64).toInt = 7 := by decide
theorem L20 : (20 : Int64).toInt = 20 := by decide
theorem isSlot_g {s : Nat} (h : s < 4) (w : Wd) : fX9_isSlot (iv s) w = some (1, w) := by
  unfold fX9_isSlot
  rw [in_g w (by rw [L0, toInt_iv (by omega) (by omega)]; omega) (by rw [L3, toInt_iv (by omega) (by omega)]; omega), bnd_s]; exact zr_1
theorem isSlot_b {p : Int32} (h : p.toInt < 0 ∨ ((4 : Nat) : Int) ≤ p.toInt) (w : Wd) : fX9_isSlot p w = some (0, w) := by
  unfold fX9_isSlot
  rw [in_b w (by rw [L0, L3]; omega), bnd_s]; exact zr_0
theorem L_iv {z : Int} (h1 : -2147483648 ≤ z) (h2 : z < 2147483648) : (iv z).toInt64.toInt = z := by rw [Int32.toInt_toInt64, toInt_iv h1 h2]
theorem isCell_g {W H : Nat} {w : Wd} (hg : MW W H w) {c : Nat} (h : c < W * H) : fX9_isCell (iv c) w = some (1, w) := by
  have := WH_le hg.2.1 hg.2.2.2.1
  unfold fX9_isCell
  rw [mcells_s hg, bnd_s, iv_1, iv_sub, in_g w (by rw [L0, toInt_iv (by omega) (by omega)]; omega) (by rw [L_iv (by omega) (by omega), toInt_iv (by omega) (by omega)]; omega), bnd_s]
  exact zr_1
theorem isCell_b {W H : Nat} {w : Wd} (hg : MW W H w) {p : Int32} (h : p.toInt < 0 ∨ ((W * H : Nat) : Int) ≤ p.toInt) : fX9_isCell p w = some (0, w) := by
  have := WH_le hg.2.1 hg.2.2.2.1
  unfold fX9_isCell
  rw [mcells_s hg, bnd_s, iv_1, iv_sub, in_b w (by rw [L0, L_iv (by omega) (by omega)]; omega), bnd_s]
  exact zr_0
theorem isLine_g {W H : Nat} {w : Wd} (hg : MW W H w) {col : Int32} {c : Nat} (h : c < nL W H col) : fX9_isLine col (iv c) w = some (1, w) := by
  have := nL_le hg.2.1 hg.2.2.2.1 col
  unfold fX9_isLine jX9_isLine_24
  unfold nL at h this
  by_cases z : col = 0
  · rw [if_pos z] at h this ⊢
    rw [hg.2.2.2.2.2, iv_1, iv_sub, in_g w (by rw [L0, toInt_iv (by omega) (by omega)]; omega) (by rw [L_iv (by omega) (by omega), toInt_iv (by omega) (by omega)]; omega), bnd_s]
    exact zr_1
  · rw [if_neg z] at h this ⊢
    rw [hg.2.2.2.2.1, iv_1, iv_sub, in_g w (by rw [L0, toInt_iv (by omega) (by omega)]; omega) (by rw [L_iv (by omega) (by omega), toInt_iv (by omega) (by omega)]; omega), bnd_s]
    exact zr_1
theorem isLine_b {W H : Nat} {w : Wd} (hg : MW W H w) {col p : Int32} (h : p.toInt < 0 ∨ ((nL W H col : Nat) : Int) ≤ p.toInt) : fX9_isLine col p w = some (0, w) := by
  have := nL_le hg.2.1 hg.2.2.2.1 col
  unfold fX9_isLine jX9_isLine_24
  unfold nL at h this
  by_cases z : col = 0
  · rw [if_pos z] at h this ⊢
    rw [hg.2.2.2.2.2, iv_1, iv_sub, in_b w (by rw [L0, L_iv (by omega) (by omega)]; omega), bnd_s]
    exact zr_0
  · rw [if_neg z] at h this ⊢
    rw [hg.2.2.2.2.1, iv_1, iv_sub, in_b w (by rw [L0, L_iv (by omega) (by omega)]; omega), bnd_s]
    exact zr_0
