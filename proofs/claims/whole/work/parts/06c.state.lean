/-! ===== the state: what it is, and what class and model hold of it ===== -/
abbrev Tl : Type := (Nat × Nat) × ((Nat → Int) × (Nat → Int) × (Nat → Int))
abbrev Ab : Type := (Nat × Nat) × (Nat → Nat → Int) × ((Nat → Int) × (Nat → Int) × (Nat → Int)) × ((Nat → Int) × (Nat → Int))
abbrev aW (a : Ab) : Nat := a.1.1
abbrev aH (a : Ab) : Nat := a.1.2
abbrev aN (a : Ab) : Nat := a.1.1 * a.1.2
abbrev aP (a : Ab) : Nat → Nat → Int := a.2.1
abbrev aF (a : Ab) : Nat → Int := a.2.2.1.1
abbrev aS (a : Ab) : Nat → Int := a.2.2.1.2.1
abbrev aT (a : Ab) : Nat → Int := a.2.2.1.2.2
abbrev aC (a : Ab) : Nat → Int := a.2.2.2.1
abbrev aR (a : Ab) : Nat → Int := a.2.2.2.2
abbrev aTl (a : Ab) : Tl := (a.1, a.2.2.1)
def Hgt (z : Int) : Prop := 0 ≤ z ∧ z ≤ 4
def Tol (z : Int) : Prop := z = -9 ∨ (0 ≤ z ∧ z ≤ 4)
def Top (z : Int) : Prop := z = -9 ∨ z = 0 ∨ z = 1
def Sum (z : Int) : Prop := 0 ≤ z ∧ z ≤ 20
def AbOK (a : Ab) : Prop := (1 ≤ aW a ∧ aW a ≤ 5 ∧ 1 ≤ aH a ∧ aH a ≤ 5) ∧ (∀ s, s < 4 → ∀ c, c < aN a → Hgt (aP a s c)) ∧ (∀ x, x < aW a → Tol (aF a x)) ∧ (∀ y, y < aH a → Tol (aS a y)) ∧ (∀ c, c < aN a → Top (aT a c)) ∧ (∀ x, x < aW a → Sum (aC a x)) ∧ (∀ y, y < aH a → Sum (aR a y))
/-- the neighbour of a cell as the class counts directions; -1: beyond -/
def nbr (W H c d : Nat) : Int :=
  if d = 0 then (if c % W = 0 then -1 else (c : Int) - 1)
  else if d = 1 then (if c / W = 0 then -1 else (c : Int) - W)
  else if d = 2 then (if c % W + 1 = W then -1 else (c : Int) + 1)
  else (if c / W + 1 = H then -1 else (c : Int) + W)
def Gnd (W H : Nat) (w : Wd) : Prop := GW W H w ∧ (∀ c, c < W * H → w.1 2 c = iv (c % W : Nat)) ∧ (∀ c, c < W * H → w.1 3 c = iv (c / W : Nat)) ∧ (∀ c, c < W * H → ∀ d, d < 4 → w.1 4 (4 * c + d) = iv (nbr W H c d))
def CS (a : Ab) (w : Wd) : Prop := Gnd (aW a) (aH a) w ∧ (∀ s, s < 4 → ∀ c, c < aN a → w.1 (6 + s) c = iv (aP a s c)) ∧ (∀ x, x < aW a → w.1 16 x = iv (aF a x)) ∧ (∀ y, y < aH a → w.1 17 y = iv (aS a y)) ∧ (∀ c, c < aN a → w.1 18 c = iv (aT a c)) ∧ (∀ x, x < aW a → w.1 81 x = iv (aC a x)) ∧ (∀ y, y < aH a → w.1 82 y = iv (aR a y)) ∧ ((w.1 19 7 = iv 77 ∧ w.1 19 8 = iv 78) ∨ (w.1 19 7 = iv 78 ∧ w.1 19 8 = iv 77))
def MS (a : Ab) (w : Wd) : Prop := MW (aW a) (aH a) w ∧ (∀ s, s < 4 → ∀ c, c < aN a → w.1 100 (25 * s + c) = iv (aP a s c)) ∧ (∀ x, x < aW a → w.1 101 x = iv (aF a x)) ∧ (∀ y, y < aH a → w.1 102 y = iv (aS a y)) ∧ (∀ c, c < aN a → w.1 103 c = iv (aT a c)) ∧ (∀ x, x < aW a → w.1 104 x = iv (aC a x)) ∧ (∀ y, y < aH a → w.1 105 y = iv (aR a y)) ∧ w.1 99 11 = iv (-9)
def VS (FT : Tl → Wd → Prop) (t : Nat) (a : Ab) (w : Wd) : Prop := ∃ tv fv : Nat, w.1 14 4 = iv tv ∧ w.1 19 9 = iv fv ∧ fv ≤ tv ∧ tv ≤ 50 * t + 2 ∧ (fv = tv → FT (aTl a) w)
def Good (FT : Tl → Wd → Prop) (t : Nat) (w : Wd) : Prop := ∃ a, AbOK a ∧ CS a w ∧ MS a w ∧ VS FT t a w
/-- the counted tables are told by the rows 20 to 76 alone -/
def FTk (FT : Tl → Wd → Prop) : Prop := ∀ (q : Tl) (w w1 : Wd), (∀ k, 20 ≤ k → k ≤ 76 → w1.1 k = w.1 k ∧ w1.2 k = w.2 k) → FT q w → FT q w1
/-- rows that stay -/
def Kp (P : Nat → Prop) (w w1 : Wd) : Prop := ∀ k, P k → w1.1 k = w.1 k ∧ w1.2 k = w.2 k
theorem Kp.rf {P : Nat → Prop} {w : Wd} : Kp P w w := fun _ _ => ⟨rfl, rfl⟩
theorem Kp.trans {P : Nat → Prop} {w w1 w2 : Wd} (h : Kp P w w1) (h' : Kp P w1 w2) : Kp P w w2 := fun k hk => ⟨(h' k hk).1.trans (h k hk).1, (h' k hk).2.trans (h k hk).2⟩
theorem Kp.weak {P P' : Nat → Prop} {w w1 : Wd} (h : Kp P w w1) (hp : ∀ k, P' k → P k) : Kp P' w w1 := fun k hk => h k (hp k hk)
theorem Kp.uI {P : Nat → Prop} {w : Wd} {k i : Nat} {x : Int32} (h : ¬ P k) : Kp P w (uI w k i x) := fun j hj => uI_ne j (fun z => h (z ▸ hj))
theorem Kp.uL {P : Nat → Prop} {w : Wd} {k i : Nat} {x : Int64} (h : ¬ P k) : Kp P w (uL w k i x) := fun j hj => uL_ne j (fun z => h (z ▸ hj))
/-- what the model's rows are, and the class's -/
def mR (k : Nat) : Prop := 99 ≤ k
def cR (k : Nat) : Prop := k < 99
theorem GW.kept {W H : Nat} {w w1 : Wd} (h : GW W H w) (hk : w1.1 1 = w.1 1) : GW W H w1 := ⟨h.1, h.2.1, h.2.2.1, h.2.2.2.1, by rw [hk]; exact h.2.2.2.2.1, by rw [hk]; exact h.2.2.2.2.2⟩
theorem MW.kept {W H : Nat} {w w1 : Wd} (h : MW W H w) (hk : w1.1 99 = w.1 99) : MW W H w1 := ⟨h.1, h.2.1, h.2.2.1, h.2.2.2.1, by rw [hk]; exact h.2.2.2.2.1, by rw [hk]; exact h.2.2.2.2.2⟩
theorem Gnd.kept {W H : Nat} {w w1 : Wd} (h : Gnd W H w) (hk : Kp (fun k => 1 ≤ k ∧ k ≤ 4) w w1) : Gnd W H w1 := by
  refine ⟨h.1.kept (hk 1 (by omega)).1, fun c hc => ?_, fun c hc => ?_, fun c hc d hd => ?_⟩
  · rw [(hk 2 (by omega)).1]; exact h.2.1 c hc
  · rw [(hk 3 (by omega)).1]; exact h.2.2.1 c hc
  · rw [(hk 4 (by omega)).1]; exact h.2.2.2 c hc d hd
/-- the class's rows that hold the state -/
def stC (k : Nat) : Prop := (1 ≤ k ∧ k ≤ 4) ∨ (6 ≤ k ∧ k ≤ 9) ∨ (14 ≤ k ∧ k ≤ 76) ∨ (81 ≤ k ∧ k ≤ 82)
def stM (k : Nat) : Prop := 99 ≤ k ∧ k ≤ 105
theorem CS.kept {a : Ab} {w w1 : Wd} (h : CS a w) (hk : Kp stC w w1) : CS a w1 := by
  obtain ⟨h1, h2, h3, h4, h5, h6, h7, h8⟩ := h
  refine ⟨h1.kept (hk.weak fun k z => Or.inl z), fun s hs c hc => ?_, fun x hx => ?_, fun y hy => ?_, fun c hc => ?_, fun x hx => ?_, fun y hy => ?_, ?_⟩
  · rw [(hk (6 + s) (Or.inr (Or.inl (by omega)))).1]; exact h2 s hs c hc
  · rw [(hk 16 (Or.inr (Or.inr (Or.inl (by omega))))).1]; exact h3 x hx
  · rw [(hk 17 (Or.inr (Or.inr (Or.inl (by omega))))).1]; exact h4 y hy
  · rw [(hk 18 (Or.inr (Or.inr (Or.inl (by omega))))).1]; exact h5 c hc
  · rw [(hk 81 (Or.inr (Or.inr (Or.inr (by omega))))).1]; exact h6 x hx
  · rw [(hk 82 (Or.inr (Or.inr (Or.inr (by omega))))).1]; exact h7 y hy
  · rw [(hk 19 (Or.inr (Or.inr (Or.inl (by omega))))).1]; exact h8
theorem MS.kept {a : Ab} {w w1 : Wd} (h : MS a w) (hk : Kp stM w w1) : MS a w1 := by
  obtain ⟨h1, h2, h3, h4, h5, h6, h7, h8⟩ := h
  have k98 := (hk 99 (by constructor <;> omega)).1
  refine ⟨h1.kept k98, fun s hs c hc => ?_, fun x hx => ?_, fun y hy => ?_, fun c hc => ?_, fun x hx => ?_, fun y hy => ?_, ?_⟩
  · rw [(hk 100 (by constructor <;> omega)).1]; exact h2 s hs c hc
  · rw [(hk 101 (by constructor <;> omega)).1]; exact h3 x hx
  · rw [(hk 102 (by constructor <;> omega)).1]; exact h4 y hy
  · rw [(hk 103 (by constructor <;> omega)).1]; exact h5 c hc
  · rw [(hk 104 (by constructor <;> omega)).1]; exact h6 x hx
  · rw [(hk 105 (by constructor <;> omega)).1]; exact h7 y hy
  · rw [k98]; exact h8
theorem VS.kept {FT : Tl → Wd → Prop} (hF : FTk FT) {t : Nat} {a a1 : Ab} {w w1 : Wd} (h : VS FT t a w) (hk : Kp (fun k => 14 ≤ k ∧ k ≤ 76) w w1) (ha : aTl a1 = aTl a) : VS FT (t + 1) a1 w1 := by
  obtain ⟨tv, fv, h1, h2, h3, h4, h5⟩ := h
  refine ⟨tv, fv, by rw [(hk 14 (by omega)).1]; exact h1, by rw [(hk 19 (by omega)).1]; exact h2, h3, by omega, fun z => ?_⟩
  rw [ha]
  exact hF _ w w1 (fun k q1 q2 => hk k (by omega)) (h5 z)
/-- a call that changes nothing but rows beside the state -/
theorem Good.same {FT : Tl → Wd → Prop} (hF : FTk FT) {t : Nat} {a : Ab} {w w1 : Wd} (ha : AbOK a) (hc : CS a w) (hm : MS a w) (hv : VS FT t a w) (k1 : Kp stC w w1) (k2 : Kp stM w w1) : Good FT (t + 1) w1 :=
  ⟨a, ha, hc.kept k1, hm.kept k2, hv.kept hF (k1.weak fun _ z => Or.inr (Or.inr (Or.inl z))) rfl⟩
/-! ===== loops that only read ===== -/
theorem iv_s1 (i : Nat) : iv i + (1 : Int32) = iv ((i + 1 : Nat) : Int) := by rw [iv_1, iv_add]; rfl
theorem iv_addr (z : Int) (x : Int32) : iv z + x = iv (z + x.toInt) := by rw [← iv_add, iv_toInt]
theorem total_s {W H : Nat} {w : Wd} (hg : GW W H w) {k : Nat} (hk : W * H ≤ LI k) (hk2 : LI k ≤ 2000) : fX2_total k w = some (iv (sm (fun c => (w.1 k c).toInt) (W * H)), w) := by
  have hWH := WH_le hg.2.1 hg.2.2.2.1
  have key : ∀ n i, i ≤ W * H → W * H - i < n → lp (fun _ _ _ => none) (bX2_total_4 k) n (iv (sm (fun c => (w.1 k c).toInt) i)) (iv i) w = some (iv (sm (fun c => (w.1 k c).toInt) (W * H)), w) := by
    intro n
    induction n with
    | zero => intro i h1 h2; omega
    | succ n ih =>
      intro i h1 h2
      rw [lp_s]
      unfold bX2_total_4
      rw [cells_s hg, bnd_s]
      by_cases z : i = W * H
      · rw [if_pos (by rw [iv_le (by omega) (by omega)]; omega), z]
      · rw [if_neg (by rw [iv_le (by omega) (by omega)]; omega), gI_iv (by omega) hk2, bind_s, iv_addr, iv_s1]
        exact ih (i + 1) (by omega) (by omega)
  unfold fX2_total
  rw [iv_0]
  exact key G 0 (by omega) (by have := hG; omega)
theorem lineTotal_s {W H : Nat} {w : Wd} (hg : GW W H w) {k : Nat} (hk : W * H ≤ LI k) (hk2 : LI k ≤ 2000) {col : Int32} {line : Nat} (hl : line < nL W H col) : fX2_lineTotal k col (iv line) w = some (iv (sm (fun i => (w.1 k (onL W col line i)).toInt) (lL W H col)), w) := by
  have hWH := WH_le hg.2.1 hg.2.2.2.1
  have hL5 := lL_le hg.2.1 hg.2.2.2.1 col
  have key : ∀ n i, i ≤ lL W H col → lL W H col - i < n → lp (fun _ _ _ => none) (bX2_lineTotal_6 k col (iv line)) n (iv (sm (fun i => (w.1 k (onL W col line i)).toInt) i)) (iv i) w = some (iv (sm (fun i => (w.1 k (onL W col line i)).toInt) (lL W H col)), w) := by
    intro n
    induction n with
    | zero => intro i h1 h2; omega
    | succ n ih =>
      intro i h1 h2
      rw [lp_s]
      unfold bX2_lineTotal_6
      rw [length_s hg, bnd_s]
      by_cases z : i = lL W H col
      · rw [if_pos (by rw [iv_le (by omega) (by omega)]; omega), z]
      · have ho := onL_lt hl (show i < lL W H col by omega)
        rw [if_neg (by rw [iv_le (by omega) (by omega)]; omega), onLine_s hg, bnd_s, gI_iv (by omega) hk2, bind_s, iv_addr, iv_s1]
        exact ih (i + 1) (by omega) (by omega)
  unfold fX2_lineTotal
  rw [iv_0]
  exact key G 0 (by omega) (by have := hG; omega)
theorem iv_max {a b : Int} (ha : -2147483648 ≤ a ∧ a < 2147483648) (hb : -2147483648 ≤ b ∧ b < 2147483648) : (if iv a < iv b then iv b else iv a) = iv (max a b) := by
  by_cases h : a < b
  · rw [if_pos (by rw [iv_lt ha hb]; exact h)]; congr 1; omega
  · rw [if_neg (by rw [iv_lt ha hb]; exact h)]; congr 1; omega
theorem iv_min {a b : Int} (ha : -2147483648 ≤ a ∧ a < 2147483648) (hb : -2147483648 ≤ b ∧ b < 2147483648) : (if iv b < iv a then iv b else iv a) = iv (min a b) := by
  by_cases h : b < a
  · rw [if_pos (by rw [iv_lt hb ha]; exact h)]; congr 1; omega
  · rw [if_neg (by rw [iv_lt hb ha]; exact h)]; congr 1; omega
theorem tallest_s {W H : Nat} {w : Wd} (hg : GW W H w) {k : Nat} (hk : W * H ≤ LI k) (hk2 : LI k ≤ 2000) {f : Nat → Int} (hf : ∀ c, c < W * H → w.1 k c = iv (f c) ∧ Hgt (f c)) {col : Int32} {line : Nat} (hl : line < nL W H col) : fX7_tallest k col (iv line) w = some (iv (mxN (fun i => f (onL W col line i)) (lL W H col)), w) := by
  have hWH := WH_le hg.2.1 hg.2.2.2.1
  have hL5 := lL_le hg.2.1 hg.2.2.2.1 col
  have key : ∀ n i, i ≤ lL W H col → lL W H col - i < n → lp (fun _ _ _ => none) (bX7_tallest_6 k col (iv line)) n (iv (mxN (fun i => f (onL W col line i)) i)) (iv i) w = some (iv (mxN (fun i => f (onL W col line i)) (lL W H col)), w) := by
    intro n
    induction n with
    | zero => intro i h1 h2; omega
    | succ n ih =>
      intro i h1 h2
      rw [lp_s]
      unfold bX7_tallest_6
      rw [length_s hg, bnd_s]
      by_cases z : i = lL W H col
      · rw [if_pos (by rw [iv_le (by omega) (by omega)]; omega), z]
      · have ho := onL_lt hl (show i < lL W H col by omega)
        have hfo := hf _ ho
        have hfb := hfo.2
        have hb := mxN_bound (f := fun i => f (onL W col line i)) (hi := 4) (by omega) (n := i) (fun j hj => (hf _ (onL_lt hl (by omega))).2.2)
        unfold Hgt at hfb
        rw [if_neg (by rw [iv_le (by omega) (by omega)]; omega), onLine_s hg, bnd_s, gI_iv (by omega) hk2, bind_s, hfo.1, iv_max (by omega) (by omega), iv_s1]
        exact ih (i + 1) (by omega) (by omega)
  unfold fX7_tallest
  rw [iv_0]
  exact key G 0 (by omega) (by have := hG; omega)
