/-! ===== numbers: Int32 by Int ===== -/
def iv (z : Int) : Int32 := Int32.ofInt z
theorem iv_add (a b : Int) : iv a + iv b = iv (a + b) := (Int32.ofInt_add a b).symm
theorem iv_sub (a b : Int) : iv a - iv b = iv (a - b) := (Int32.ofInt_sub a b).symm
theorem iv_mul (a b : Int) : iv a * iv b = iv (a * b) := (Int32.ofInt_mul a b).symm
theorem iv_neg (a : Int) : -iv a = iv (-a) := (Int32.ofInt_neg a).symm
theorem iv_toInt (x : Int32) : iv x.toInt = x := Int32.ofInt_toInt x
theorem iv_nat (n : Nat) : nI n = iv n := (Int32.ofInt_eq_ofNat).symm
theorem toInt_iv {z : Int} (h1 : -2147483648 ≤ z) (h2 : z < 2147483648) : (iv z).toInt = z := Int32.toInt_ofInt_of_le h1 h2
theorem iv_lt {a b : Int} (ha : -2147483648 ≤ a ∧ a < 2147483648) (hb : -2147483648 ≤ b ∧ b < 2147483648) : (iv a < iv b) ↔ a < b := by
  rw [Int32.lt_iff_toInt_lt, toInt_iv ha.1 ha.2, toInt_iv hb.1 hb.2]
theorem iv_le {a b : Int} (ha : -2147483648 ≤ a ∧ a < 2147483648) (hb : -2147483648 ≤ b ∧ b < 2147483648) : (iv a ≤ iv b) ↔ a ≤ b := by
  rw [Int32.le_iff_toInt_le, toInt_iv ha.1 ha.2, toInt_iv hb.1 hb.2]
theorem iv_eq {a b : Int} (ha : -2147483648 ≤ a ∧ a < 2147483648) (hb : -2147483648 ≤ b ∧ b < 2147483648) : (iv a = iv b) ↔ a = b := by
  rw [← Int32.toInt_inj, toInt_iv ha.1 ha.2, toInt_iv hb.1 hb.2]
theorem iv_0 : (0 : Int32) = iv 0 := by decide
theorem iv_1 : (1 : Int32) = iv 1 := by decide
theorem iv_2 : (2 : Int32) = iv 2 := by decide
theorem iv_3 : (3 : Int32) = iv 3 := by decide
theorem iv_4 : (4 : Int32) = iv 4 := by decide
theorem iv_5 : (5 : Int32) = iv 5 := by decide
theorem iv_m1 : (-1 : Int32) = iv (-1) := by decide
theorem iv_m2 : (-2 : Int32) = iv (-2) := by decide
theorem iv_m3 : (-3 : Int32) = iv (-3) := by decide
theorem iv_m9 : (-9 : Int32) = iv (-9) := by decide
theorem iv_7 : (7 : Int32) = iv 7 := by decide
theorem iv_8 : (8 : Int32) = iv 8 := by decide
theorem iv_10 : (10 : Int32) = iv 10 := by decide
theorem iv_20 : (20 : Int32) = iv 20 := by decide
theorem iv_25 : (25 : Int32) = iv 25 := by decide
theorem iv_26 : (26 : Int32) = iv 26 := by decide
theorem iv_52 : (52 : Int32) = iv 52 := by decide
theorem iv_64 : (64 : Int32) = iv 64 := by decide
theorem iv_100 : (100 : Int32) = iv 100 := by decide
theorem iv_625 : (625 : Int32) = iv 625 := by decide
theorem iv_1000 : (1000 : Int32) = iv 1000 := by decide
theorem iv_clamp {z : Int} (h1 : 0 ≤ z) (h2 : z < 2147483648) : (iv z).toNatClampNeg = z.toNat := by
  obtain ⟨n, rfl⟩ := Int.eq_ofNat_of_zero_le h1
  rw [← iv_nat]
  rw [nI_clamp (by omega)]
  rfl
theorem iv_clampN {n : Nat} (h2 : n < 2147483648) : (iv n).toNatClampNeg = n := by
  rw [← iv_nat]; exact nI_clamp (by omega)
/-- Java's division and remainder over numbers that are not below 0 -/
theorem dv_iv {a b : Nat} (ha : a < 2147483648) (h0 : 0 < b) (hb : b < 2147483648) : dvI (iv a) (iv b) = some (iv (a / b : Nat)) := by
  have hz : ¬ iv b = 0 := by
    rw [iv_0, iv_eq (by omega) (by omega)]; omega
  unfold dvI
  rw [if_neg hz, ← iv_nat, ← iv_nat, pk_div (by omega) h0 (by omega), iv_nat]
theorem rm_iv {a b : Nat} (ha : a < 2147483648) (h0 : 0 < b) (hb : b < 2147483648) : rmI (iv a) (iv b) = some (iv (a % b : Nat)) := by
  have hz : ¬ iv b = 0 := by
    rw [iv_0, iv_eq (by omega) (by omega)]; omega
  unfold rmI
  rw [if_neg hz, ← iv_nat, ← iv_nat, pk_rem (by omega) h0 (by omega), iv_nat]
/-! ===== rows of the world ===== -/
theorem gI_iv {w : Wd} {k : Nat} {i : Nat} (h : i < LI k) (hk : LI k ≤ 2000) : gI w k (iv i) = some (w.1 k i) := by
  unfold gI
  have h1 : ¬ iv i < 0 := by rw [iv_0, iv_lt (by omega) (by omega)]; omega
  rw [iv_clampN (by omega), if_neg (fun z => z.elim h1 (fun z => by omega))]
theorem gL_iv {w : Wd} {k : Nat} {i : Nat} (h : i < LL k) (hk : LL k ≤ 2000) : gL w k (iv i) = some (w.2 k i) := by
  unfold gL
  have h1 : ¬ iv i < 0 := by rw [iv_0, iv_lt (by omega) (by omega)]; omega
  rw [iv_clampN (by omega), if_neg (fun z => z.elim h1 (fun z => by omega))]
theorem sI_iv {w : Wd} {k : Nat} {i : Nat} {x : Int32} (h : i < LI k) (hk : LI k ≤ 2000) : sI w k (iv i) x = some (uI w k i x) := by
  unfold sI
  have h1 : ¬ iv i < 0 := by rw [iv_0, iv_lt (by omega) (by omega)]; omega
  rw [iv_clampN (by omega), if_neg (fun z => z.elim h1 (fun z => by omega))]
theorem sL_iv {w : Wd} {k : Nat} {i : Nat} {x : Int64} (h : i < LL k) (hk : LL k ≤ 2000) : sL w k (iv i) x = some (uL w k i x) := by
  unfold sL
  have h1 : ¬ iv i < 0 := by rw [iv_0, iv_lt (by omega) (by omega)]; omega
  rw [iv_clampN (by omega), if_neg (fun z => z.elim h1 (fun z => by omega))]
theorem ixA_iv {n : Nat} {i : Nat} (h : i < n) (hk : n ≤ 2000) : ixA n (iv i) = some i := by
  unfold ixA
  have h1 : ¬ iv i < 0 := by rw [iv_0, iv_lt (by omega) (by omega)]; omega
  rw [iv_clampN (by omega), if_neg (fun z => z.elim h1 (fun z => by omega))]
theorem uI_same {w : Wd} {k i : Nat} {x : Int32} : (uI w k i x).1 k i = x := by
  rw [uI_at]; exact if_pos rfl
theorem uI_other {w : Wd} {k i k' i' : Nat} {x : Int32} (h : k' ≠ k ∨ i' ≠ i) : (uI w k i x).1 k' i' = w.1 k' i' := by
  by_cases hk : k' = k
  · subst hk
    rw [uI_at]
    exact if_neg (h.resolve_left (fun z => z rfl))
  · rw [(uI_ne k' hk).1]
theorem uI_row {w : Wd} {k i k' : Nat} {x : Int32} (h : k' ≠ k) : (uI w k i x).1 k' = w.1 k' := (uI_ne k' h).1
theorem uI_long {w : Wd} {k i : Nat} {x : Int32} : (uI w k i x).2 = w.2 := rfl
theorem uL_int {w : Wd} {k i : Nat} {x : Int64} : (uL w k i x).1 = w.1 := rfl
theorem uL_row {w : Wd} {k i k' : Nat} {x : Int64} (h : k' ≠ k) : (uL w k i x).2 k' = w.2 k' := (uL_ne k' h).2
theorem uL_same {w : Wd} {k i : Nat} {x : Int64} : (uL w k i x).2 k i = x := by
  rw [uL_at]; exact if_pos rfl
theorem uL_other {w : Wd} {k i k' i' : Nat} {x : Int64} (h : k' ≠ k ∨ i' ≠ i) : (uL w k i x).2 k' i' = w.2 k' i' := by
  by_cases hk : k' = k
  · subst hk
    rw [uL_at]
    exact if_neg (h.resolve_left (fun z => z rfl))
  · rw [(uL_ne k' hk).2]
theorem bnd_s {α β : Type} {v : α} {w : Wd} {F : α → Wd → Option β} : bnd (some (v, w)) F = F v w := rfl
theorem bind_s {α β : Type} {v : α} {F : α → Option β} : (some v).bind F = F v := rfl
theorem zr_0 {w : Wd} : zr 0 w = some (0, w) := if_pos (Or.inl rfl)
theorem zr_1 {w : Wd} : zr 1 w = some (1, w) := if_pos (Or.inr rfl)
theorem lp_s {α : Type} (z : α) (b : α → α) (n : Nat) : lp z b (n + 1) = b (lp z b n) := rfl
/-- sums -/
def sm (f : Nat → Int) : Nat → Int
  | 0 => 0
  | n + 1 => sm f n + f n
theorem sm_s (f : Nat → Int) (n : Nat) : sm f (n + 1) = sm f n + f n := rfl
theorem sm_congr {f g : Nat → Int} : ∀ {n : Nat}, (∀ i, i < n → f i = g i) → sm f n = sm g n
  | 0, _ => rfl
  | n + 1, h => by rw [sm_s, sm_s, sm_congr (fun i hi => h i (by omega)), h n (by omega)]
theorem sm_bound {f : Nat → Int} {lo hi : Int} : ∀ {n : Nat}, (∀ i, i < n → lo ≤ f i ∧ f i ≤ hi) → lo * n ≤ sm f n ∧ sm f n ≤ hi * n
  | 0, _ => by simp [sm]
  | n + 1, h => by
    have h1 := sm_bound (n := n) (fun i hi => h i (by omega))
    have h2 := h n (by omega)
    rw [sm_s]
    have e1 : lo * ((n + 1 : Nat) : Int) = lo * n + lo := by rw [Int.natCast_add, Int.mul_add]; simp
    have e2 : hi * ((n + 1 : Nat) : Int) = hi * n + hi := by rw [Int.natCast_add, Int.mul_add]; simp
    omega
theorem sm_add (f g : Nat → Int) : ∀ n : Nat, sm (fun i => f i + g i) n = sm f n + sm g n
  | 0 => rfl
  | n + 1 => by rw [sm_s, sm_s, sm_s, sm_add f g n]; omega
theorem sm_zero : ∀ n : Nat, sm (fun _ => 0) n = 0
  | 0 => rfl
  | n + 1 => by rw [sm_s, sm_zero n]; rfl
theorem sm_nonneg {f : Nat → Int} {n : Nat} (h : ∀ i, i < n → 0 ≤ f i) : 0 ≤ sm f n := by
  induction n with
  | zero => exact Int.le_refl _
  | succ n ih => rw [sm_s]; have := ih (fun i hi => h i (by omega)); have := h n (by omega); omega
/-- greatest of a row, from 0 on -/
def mxN (f : Nat → Int) : Nat → Int
  | 0 => 0
  | n + 1 => max (mxN f n) (f n)
theorem mxN_s (f : Nat → Int) (n : Nat) : mxN f (n + 1) = max (mxN f n) (f n) := rfl
theorem mxN_congr {f g : Nat → Int} : ∀ {n : Nat}, (∀ i, i < n → f i = g i) → mxN f n = mxN g n
  | 0, _ => rfl
  | n + 1, h => by rw [mxN_s, mxN_s, mxN_congr (fun i hi => h i (by omega)), h n (by omega)]
theorem mxN_bound {f : Nat → Int} {hi : Int} (h0 : 0 ≤ hi) : ∀ {n : Nat}, (∀ i, i < n → f i ≤ hi) → 0 ≤ mxN f n ∧ mxN f n ≤ hi
  | 0, _ => ⟨Int.le_refl _, h0⟩
  | n + 1, h => by
    have h1 := mxN_bound h0 (n := n) (fun i hi => h i (by omega))
    have h2 := h n (by omega)
    rw [mxN_s]; omega
