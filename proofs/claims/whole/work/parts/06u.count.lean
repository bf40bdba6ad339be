/-! ===== counting: the numbers ===== -/
def kv (z : Int) : Int64 := Int64.ofInt z
theorem kv_add (a b : Int) : kv a + kv b = kv (a + b) := (Int64.ofInt_add a b).symm
theorem kv_sub (a b : Int) : kv a - kv b = kv (a - b) := (Int64.ofInt_sub a b).symm
theorem kv_mul (a b : Int) : kv a * kv b = kv (a * b) := (Int64.ofInt_mul a b).symm
theorem toInt_kv {z : Int} (h : -9223372036854775808 ≤ z ∧ z < 9223372036854775808) : (kv z).toInt = z := Int64.toInt_ofInt_of_le h.1 h.2
theorem kv_lt {a b : Int} (ha : -9223372036854775808 ≤ a ∧ a < 9223372036854775808) (hb : -9223372036854775808 ≤ b ∧ b < 9223372036854775808) : (kv a < kv b) ↔ a < b := by
  rw [Int64.lt_iff_toInt_lt, toInt_kv ha, toInt_kv hb]
theorem kv_eq {a b : Int} (ha : -9223372036854775808 ≤ a ∧ a < 9223372036854775808) (hb : -9223372036854775808 ≤ b ∧ b < 9223372036854775808) : (kv a = kv b) ↔ a = b := by
  rw [← Int64.toInt_inj, toInt_kv ha, toInt_kv hb]
theorem kv_0 : (0 : Int64) = kv 0 := by decide
theorem kv_1 : (1 : Int64) = kv 1 := by decide
theorem kv_toInt (x : Int64) : kv x.toInt = x := Int64.ofInt_toInt x
theorem iv_kv {z : Int} (h1 : -2147483648 ≤ z) (h2 : z < 2147483648) : (iv z).toInt64 = kv z := by
  rw [← Int64.toInt_inj, L_iv h1 h2, toInt_kv (by omega)]
theorem sm_mul (a : Int) (f : Nat → Int) : ∀ n, sm (fun i => a * f i) n = a * sm f n
  | 0 => by show (0 : Int) = a * 0; rw [Int.mul_zero]
  | n + 1 => by rw [sm_s, sm_s, sm_mul a f n, Int.mul_add]
theorem sm_swap (f : Nat → Nat → Int) (m : Nat) : ∀ n, sm (fun i => sm (f i) m) n = sm (fun j => sm (fun i => f i j) n) m
  | 0 => by
    show (0 : Int) = sm (fun j => 0) m
    rw [sm_zero]
  | n + 1 => by
    rw [sm_s, sm_swap f m n, ← sm_add]
    rfl
theorem sm_pick (f : Nat → Int) {u : Nat} : ∀ {n : Nat}, u < n → sm (fun j => if u = j then f j else 0) n = f u
  | 0, h => by omega
  | n + 1, h => by
    rw [sm_s]
    by_cases e : u = n
    · rw [if_pos e]
      have : sm (fun j => if u = j then f j else 0) n = sm (fun _ => 0) n := sm_congr (fun i hi => if_neg (by omega))
      rw [this, sm_zero, e]; omega
    · rw [if_neg e, sm_pick f (n := n) (by omega)]; omega
/-- dims and what is told, out of Tl -/
abbrev qW (q : Tl) : Nat := q.1.1
abbrev qH (q : Tl) : Nat := q.1.2
abbrev qN (q : Tl) : Nat := q.1.1 * q.1.2
abbrev qF (q : Tl) : Nat → Int := q.2.1
abbrev qS (q : Tl) : Nat → Int := q.2.2.1
abbrev qT (q : Tl) : Nat → Int := q.2.2.2
def qOK (q : Tl) : Prop := (1 ≤ qW q ∧ qW q ≤ 5 ∧ 1 ≤ qH q ∧ qH q ≤ 5) ∧ (∀ x, x < qW q → Tol (qF q x)) ∧ (∀ y, y < qH q → Tol (qS q y)) ∧ (∀ c, c < qN q → Top (qT q c))
/-- a height that may be; what it meets: 1 its column, 2 its row -/
def alw (f g t : Int) (v : Nat) : Bool := (decide (f = -9) || decide ((v : Int) ≤ f)) && ((decide (g = -9) || decide ((v : Int) ≤ g)) && (decide (t = -9) || decide (t = tpO v)))
def knd (f g : Int) (v : Nat) : Nat := (if f = -9 ∨ f = (v : Int) then 1 else 0) + (if g = -9 ∨ g = (v : Int) then 2 else 0)
theorem knd_lt (f g : Int) (v : Nat) : knd f g v < 4 := by unfold knd; split <;> split <;> omega
def alC (q : Tl) (c v : Nat) : Bool := alw (qF q (c % qW q)) (qS q (c / qW q)) (qT q c) v
def kdC (q : Tl) (c v : Nat) : Nat := knd (qF q (c % qW q)) (qS q (c / qW q)) v
/-- lines met, the state behind a cell -/
def lm (W c k : Nat) : Nat := (if k % 2 = 1 then 2 ^ (c % W + 1) else 0) ||| (if k / 2 = 1 then 1 else 0)
def aft (u : Nat) (e : Bool) : Option Nat := if e then (if u % 2 = 0 then none else some (u - 1)) else some u
def tr (W c s k : Nat) : Option Nat := aft (s ||| lm W c k) (decide (c % W + 1 = W))
def trv (o : Option Nat) (f : Nat → Int) : Int := match o with
  | none => 0
  | some u => f u
def allM (W : Nat) : Nat := 2 ^ (W + 1) - 2
theorem lm_lt {W c k : Nat} (h1 : 1 ≤ W) : lm W c k < 2 ^ (W + 1) := by
  have hx : c % W < W := Nat.mod_lt _ h1
  have h2 : 2 ^ (c % W + 1) < 2 ^ (W + 1) := Nat.pow_lt_pow_right (by omega) (by omega)
  have h0 : 0 < 2 ^ (W + 1) := Nat.two_pow_pos _
  have h3 : 1 < 2 ^ (W + 1) := Nat.one_lt_two_pow (by omega)
  unfold lm
  refine Nat.or_lt_two_pow ?_ ?_
  · split <;> omega
  · split <;> omega
theorem tr_lt {W c s k u : Nat} (h1 : 1 ≤ W) (hs : s < 2 ^ (W + 1)) (h : tr W c s k = some u) : u < 2 ^ (W + 1) := by
  have h2 : s ||| lm W c k < 2 ^ (W + 1) := Nat.or_lt_two_pow hs (lm_lt h1)
  unfold tr aft at h
  split at h
  · split at h
    · exact absurd h (by simp)
    · have := Option.some.inj h; omega
  · have := Option.some.inj h; omega
theorem two64 {W : Nat} (h : W ≤ 5) : 2 ^ (W + 1) ≤ 64 := by
  have : 2 ^ (W + 1) ≤ 2 ^ 6 := Nat.pow_le_pow_right (by omega) (by omega)
  omega
/-- in how many ways the cells from one on are filled -/
def Rn (A : Nat → Nat → Bool) (q : Tl) : Nat → Nat → Int
  | 0, s => if s = allM (qW q) then 1 else 0
  | n + 1, s => sm (fun v => if A (qN q - (n + 1)) v then trv (tr (qW q) (qN q - (n + 1)) s (kdC q (qN q - (n + 1)) v)) (Rn A q n) else 0) 5
def Rc2 (A : Nat → Nat → Bool) (q : Tl) (c s : Nat) : Int := Rn A q (qN q - c) s
def wy (A : Nat → Nat → Bool) (q : Tl) (c s v : Nat) : Int := if A c v then trv (tr (qW q) c s (kdC q c v)) (Rc2 A q (c + 1)) else 0
theorem R_end (A : Nat → Nat → Bool) (q : Tl) (s : Nat) : Rc2 A q (qN q) s = if s = allM (qW q) then 1 else 0 := by
  unfold Rc2; rw [Nat.sub_self]; rfl
theorem R_step (A : Nat → Nat → Bool) (q : Tl) {c : Nat} (hc : c < qN q) (s : Nat) : Rc2 A q c s = sm (wy A q c s) 5 := by
  unfold Rc2 wy
  obtain ⟨n, hn⟩ : ∃ n, qN q - c = n + 1 := ⟨qN q - c - 1, by omega⟩
  rw [hn]
  have e1 : qN q - (n + 1) = c := by omega
  have e2 : qN q - (c + 1) = n := by omega
  show sm (fun v => if A (qN q - (n + 1)) v then trv (tr (qW q) (qN q - (n + 1)) s (kdC q (qN q - (n + 1)) v)) (Rn A q n) else 0) 5 = _
  rw [e1]
  refine sm_congr (fun v _ => ?_)
  unfold Rc2
  rw [e2]
/-- how many heights of a kind a cell may have -/
def nk (A : Nat → Nat → Bool) (q : Tl) (c k : Nat) : Int := sm (fun v => if A c v = true ∧ kdC q c v = k then 1 else 0) 5
theorem nk_bd (A : Nat → Nat → Bool) (q : Tl) (c k : Nat) : 0 ≤ nk A q c k ∧ nk A q c k ≤ 5 := by
  have := sm_bound (f := fun v => if A c v = true ∧ kdC q c v = k then (1 : Int) else 0) (lo := 0) (hi := 1) (n := 5) (fun i _ => by split <;> omega)
  unfold nk; omega
theorem regroup (A : Nat → Nat → Bool) (q : Tl) (c : Nat) (X : Nat → Int) : sm (fun v => if A c v then X (kdC q c v) else 0) 5 = sm (fun k => nk A q c k * X k) 4 := by
  have e1 : ∀ k, nk A q c k * X k = sm (fun v => if A c v = true ∧ kdC q c v = k then X k else 0) 5 := fun k => by
    unfold nk
    rw [Int.mul_comm, ← sm_mul]
    refine sm_congr (fun v _ => ?_)
    split
    · rw [Int.mul_one]
    · rw [Int.mul_zero]
  rw [sm_congr (fun k _ => e1 k), sm_swap]
  refine sm_congr (fun v _ => ?_)
  by_cases h : A c v = true
  · rw [if_pos h]
    have : sm (fun i => if A c v = true ∧ kdC q c v = i then X i else 0) 4 = sm (fun i => if kdC q c v = i then X i else 0) 4 := sm_congr (fun i _ => by
      by_cases e : kdC q c v = i
      · rw [if_pos ⟨h, e⟩, if_pos e]
      · rw [if_neg (fun z => e z.2), if_neg e])
    rw [this, sm_pick X (show kdC q c v < 4 from knd_lt _ _ _)]
  · rw [if_neg h]
    have : sm (fun i => if A c v = true ∧ kdC q c v = i then X i else 0) 4 = sm (fun _ => 0) 4 := sm_congr (fun i _ => if_neg (fun z => h z.1))
    rw [this, sm_zero]
theorem nk_sum (A : Nat → Nat → Bool) (q : Tl) (c : Nat) : sm (nk A q c) 4 ≤ 5 := by
  have h := regroup A q c (fun _ => 1)
  have e : sm (fun k => nk A q c k * 1) 4 = sm (nk A q c) 4 := sm_congr (fun k _ => Int.mul_one _)
  rw [e] at h
  rw [← h]
  have := sm_bound (f := fun v => if A c v = true then (1 : Int) else 0) (lo := 0) (hi := 1) (n := 5) (fun i _ => by split <;> omega)
  omega
theorem R_kind (A : Nat → Nat → Bool) (q : Tl) {c : Nat} (hc : c < qN q) (s : Nat) : Rc2 A q c s = sm (fun k => nk A q c k * trv (tr (qW q) c s k) (Rc2 A q (c + 1))) 4 := by
  rw [R_step A q hc, ← regroup A q c (fun k => trv (tr (qW q) c s k) (Rc2 A q (c + 1)))]
  rfl
/-- in how many ways the cells before one come to a state -/
def Bf (A : Nat → Nat → Bool) (q : Tl) : Nat → Nat → Int
  | 0, s => if s = 0 then 1 else 0
  | c + 1, u => sm (fun k => sm (fun s => if tr (qW q) c s k = some u then nk A q c k * Bf A q c s else 0) (2 ^ (qW q + 1))) 4
theorem Bf_nn (A : Nat → Nat → Bool) (q : Tl) : ∀ c s, 0 ≤ Bf A q c s
  | 0, s => by show 0 ≤ (if s = 0 then (1 : Int) else 0); split <;> omega
  | c + 1, u => sm_nonneg (fun k _ => sm_nonneg (fun s _ => by
      show 0 ≤ (if tr (qW q) c s k = some u then nk A q c k * Bf A q c s else 0)
      split
      · exact Int.mul_nonneg (nk_bd A q c k).1 (Bf_nn A q c s)
      · omega))
theorem conv (A A' : Nat → Nat → Bool) {q : Tl} (h1 : 1 ≤ qW q) {c : Nat} (hc : c < qN q) (hA : ∀ k, nk A' q c k = nk A q c k) : sm (fun s => Bf A q c s * Rc2 A' q c s) (2 ^ (qW q + 1)) = sm (fun u => Bf A q (c + 1) u * Rc2 A' q (c + 1) u) (2 ^ (qW q + 1)) := by
  generalize hS : 2 ^ (qW q + 1) = S
  -- the right side
  have e2 : ∀ u, Bf A q (c + 1) u * Rc2 A' q (c + 1) u = sm (fun k => sm (fun s => if tr (qW q) c s k = some u then nk A q c k * Bf A q c s * Rc2 A' q (c + 1) u else 0) S) 4 := fun u => by
    have : Bf A q (c + 1) u = sm (fun k => sm (fun s => if tr (qW q) c s k = some u then nk A q c k * Bf A q c s else 0) S) 4 := by rw [← hS]; rfl
    rw [this, Int.mul_comm, ← sm_mul]
    refine sm_congr (fun k _ => ?_)
    rw [← sm_mul]
    refine sm_congr (fun s _ => ?_)
    split
    · rw [Int.mul_comm]
    · rw [Int.mul_zero]
  rw [sm_congr (fun u _ => e2 u), sm_swap]
  have e3 : ∀ k, sm (fun u => sm (fun s => if tr (qW q) c s k = some u then nk A q c k * Bf A q c s * Rc2 A' q (c + 1) u else 0) S) S = sm (fun s => nk A q c k * Bf A q c s * trv (tr (qW q) c s k) (Rc2 A' q (c + 1))) S := fun k => by
    rw [sm_swap]
    refine sm_congr (fun s hs => ?_)
    cases ht : tr (qW q) c s k with
    | none =>
      have : sm (fun i => if (none : Option Nat) = some i then nk A q c k * Bf A q c s * Rc2 A' q (c + 1) i else 0) S = sm (fun _ => 0) S := sm_congr (fun i _ => if_neg (by simp))
      rw [this, sm_zero]
      show (0 : Int) = nk A q c k * Bf A q c s * 0
      rw [Int.mul_zero]
    | some u0 =>
      have hu : u0 < S := by rw [← hS]; exact tr_lt h1 (by rw [hS]; exact hs) ht
      have : sm (fun i => if (some u0 : Option Nat) = some i then nk A q c k * Bf A q c s * Rc2 A' q (c + 1) i else 0) S = sm (fun i => if u0 = i then nk A q c k * Bf A q c s * Rc2 A' q (c + 1) i else 0) S := sm_congr (fun i _ => by
        by_cases e : u0 = i
        · rw [if_pos e, if_pos (by rw [e])]
        · rw [if_neg e, if_neg (fun z => e (Option.some.inj z))])
      rw [this, sm_pick _ hu]
      rfl
  rw [sm_congr (fun k _ => e3 k), sm_swap]
  refine sm_congr (fun s _ => ?_)
  rw [R_kind A' q hc, ← sm_mul]
  refine sm_congr (fun k _ => ?_)
  rw [hA k, ← Int.mul_assoc, Int.mul_comm (Bf A q c s)]
theorem conv0 (A A' : Nat → Nat → Bool) {q : Tl} (h1 : 1 ≤ qW q) : ∀ c, c ≤ qN q → (∀ c', c' < c → ∀ k, nk A' q c' k = nk A q c' k) → Rc2 A' q 0 0 = sm (fun s => Bf A q c s * Rc2 A' q c s) (2 ^ (qW q + 1))
  | 0, _, _ => by
    have hp : 0 < 2 ^ (qW q + 1) := Nat.two_pow_pos _
    have : sm (fun s => Bf A q 0 s * Rc2 A' q 0 s) (2 ^ (qW q + 1)) = sm (fun s => if 0 = s then Rc2 A' q 0 s else 0) (2 ^ (qW q + 1)) := sm_congr (fun s _ => by
      show (if s = 0 then (1 : Int) else 0) * Rc2 A' q 0 s = (if 0 = s then Rc2 A' q 0 s else 0)
      by_cases e : s = 0
      · rw [if_pos e, if_pos e.symm, Int.one_mul]
      · rw [if_neg e, if_neg (fun z => e z.symm), Int.zero_mul])
    rw [this, sm_pick _ hp]
  | c + 1, h, hA => by
    rw [conv0 A A' h1 c (by omega) (fun c' hc' => hA c' (by omega)), conv A A' h1 (by omega) (hA c (by omega))]
/-- bounds -/
theorem Bf_sum (A : Nat → Nat → Bool) {q : Tl} (h1 : 1 ≤ qW q) : ∀ c, sm (Bf A q c) (2 ^ (qW q + 1)) ≤ 5 ^ c
  | 0 => by
    have hp : 0 < 2 ^ (qW q + 1) := Nat.two_pow_pos _
    have : sm (Bf A q 0) (2 ^ (qW q + 1)) = sm (fun s => if 0 = s then (1 : Int) else 0) (2 ^ (qW q + 1)) := sm_congr (fun s _ => by
      show (if s = 0 then (1 : Int) else 0) = _
      by_cases e : s = 0
      · rw [if_pos e, if_pos e.symm]
      · rw [if_neg e, if_neg (fun z => e z.symm)])
    rw [this, sm_pick (fun _ => 1) hp]; decide
  | c + 1 => by
    have ih := Bf_sum A h1 c
    have hnn : 0 ≤ sm (Bf A q c) (2 ^ (qW q + 1)) := sm_nonneg (fun s _ => Bf_nn A q c s)
    generalize hS : 2 ^ (qW q + 1) = S at *
    have e0 : sm (Bf A q (c + 1)) S = sm (fun u => sm (fun k => sm (fun s => if tr (qW q) c s k = some u then nk A q c k * Bf A q c s else 0) S) 4) S := sm_congr (fun u _ => by rw [← hS]; rfl)
    rw [e0, sm_swap]
    have e1 : ∀ k, sm (fun u => sm (fun s => if tr (qW q) c s k = some u then nk A q c k * Bf A q c s else 0) S) S ≤ nk A q c k * sm (Bf A q c) S := fun k => by
      rw [sm_swap, ← sm_mul]
      refine sm_le (fun s hs => ?_)
      have hx : 0 ≤ nk A q c k * Bf A q c s := Int.mul_nonneg (nk_bd A q c k).1 (Bf_nn A q c s)
      cases ht : tr (qW q) c s k with
      | none =>
        have : sm (fun i => if (none : Option Nat) = some i then nk A q c k * Bf A q c s else 0) S = sm (fun _ => 0) S := sm_congr (fun i _ => if_neg (by simp))
        rw [this, sm_zero]; exact hx
      | some u0 =>
        have hu : u0 < S := by rw [← hS]; exact tr_lt h1 (by rw [hS]; exact hs) ht
        have : sm (fun i => if (some u0 : Option Nat) = some i then nk A q c k * Bf A q c s else 0) S = sm (fun i => if u0 = i then nk A q c k * Bf A q c s else 0) S := sm_congr (fun i _ => by
          by_cases e : u0 = i
          · rw [if_pos e, if_pos (by rw [e])]
          · rw [if_neg e, if_neg (fun z => e (Option.some.inj z))])
        rw [this, sm_pick (fun _ => nk A q c k * Bf A q c s) hu]; exact Int.le_refl _
    have e2 : sm (fun k => sm (fun u => sm (fun s => if tr (qW q) c s k = some u then nk A q c k * Bf A q c s else 0) S) S) 4 ≤ sm (fun k => nk A q c k * sm (Bf A q c) S) 4 := sm_le (fun k _ => e1 k)
    have e3 : sm (fun k => nk A q c k * sm (Bf A q c) S) 4 = sm (Bf A q c) S * sm (nk A q c) 4 := by
      rw [← sm_mul]; exact sm_congr (fun k _ => Int.mul_comm _ _)
    have e4 : sm (Bf A q c) S * sm (nk A q c) 4 ≤ sm (Bf A q c) S * 5 := Int.mul_le_mul_of_nonneg_left (nk_sum A q c) hnn
    rw [Int.pow_succ]
    refine Int.le_trans e2 (Int.le_trans (Int.le_of_eq e3) (Int.le_trans e4 ?_))
    exact Int.mul_le_mul_of_nonneg_right ih (by omega)
theorem p525 : (5 : Int) ^ 25 = 298023223876953125 := by decide
theorem pow5_le {n : Nat} (h : n ≤ 25) : (5 : Int) ^ n ≤ 298023223876953125 := by
  have : (5 : Nat) ^ n ≤ 5 ^ 25 := Nat.pow_le_pow_right (by omega) h
  have e : ((5 ^ n : Nat) : Int) = (5 : Int) ^ n := by rw [Int.natCast_pow]; rfl
  rw [← e]
  have e2 : (5 : Nat) ^ 25 = 298023223876953125 := by decide
  omega
theorem sm_mem {f : Nat → Int} {i : Nat} : ∀ {n : Nat}, (∀ j, j < n → 0 ≤ f j) → i < n → f i ≤ sm f n
  | 0, _, h => by omega
  | n + 1, h, hi => by
    rw [sm_s]
    have h1 := h n (by omega)
    have h0 : 0 ≤ sm f n := sm_nonneg (fun j hj => h j (by omega))
    by_cases e : i = n
    · subst e; omega
    · have := sm_mem (n := n) (fun j hj => h j (by omega)) (i := i) (by omega)
      omega
theorem Bf_le (A : Nat → Nat → Bool) {q : Tl} (h1 : 1 ≤ qW q) {c s : Nat} (hc : c ≤ 25) (hs : s < 2 ^ (qW q + 1)) : 0 ≤ Bf A q c s ∧ Bf A q c s ≤ 298023223876953125 := by
  refine ⟨Bf_nn A q c s, ?_⟩
  have e1 := sm_mem (f := Bf A q c) (fun j _ => Bf_nn A q c j) hs
  have e2 := Bf_sum A h1 c
  have e3 := pow5_le hc
  omega
theorem Rn_bd (A : Nat → Nat → Bool) (q : Tl) : ∀ n s, 0 ≤ Rn A q n s ∧ Rn A q n s ≤ 5 ^ n
  | 0, s => by
    show 0 ≤ (if s = allM (qW q) then (1 : Int) else 0) ∧ (if s = allM (qW q) then (1 : Int) else 0) ≤ 5 ^ 0
    split
    · decide
    · decide
  | n + 1, s => by
    have ih := fun u => Rn_bd A q n u
    have hp : (0 : Int) ≤ 5 ^ n := Int.pow_nonneg (by omega)
    have := sm_bound (f := fun v => if A (qN q - (n + 1)) v then trv (tr (qW q) (qN q - (n + 1)) s (kdC q (qN q - (n + 1)) v)) (Rn A q n) else 0) (lo := 0) (hi := 5 ^ n) (n := 5) (fun v _ => by
      show 0 ≤ (if A (qN q - (n + 1)) v = true then trv (tr (qW q) (qN q - (n + 1)) s (kdC q (qN q - (n + 1)) v)) (Rn A q n) else 0) ∧ (if A (qN q - (n + 1)) v = true then trv (tr (qW q) (qN q - (n + 1)) s (kdC q (qN q - (n + 1)) v)) (Rn A q n) else 0) ≤ 5 ^ n
      split
      · cases tr (qW q) (qN q - (n + 1)) s (kdC q (qN q - (n + 1)) v) with
        | none => exact ⟨Int.le_refl _, hp⟩
        | some u => exact ih u
      · exact ⟨Int.le_refl _, hp⟩)
    show 0 ≤ sm (fun v => if A (qN q - (n + 1)) v then trv (tr (qW q) (qN q - (n + 1)) s (kdC q (qN q - (n + 1)) v)) (Rn A q n) else 0) 5 ∧ sm (fun v => if A (qN q - (n + 1)) v then trv (tr (qW q) (qN q - (n + 1)) s (kdC q (qN q - (n + 1)) v)) (Rn A q n) else 0) 5 ≤ 5 ^ (n + 1)
    rw [Int.pow_succ]
    omega
theorem R_bd (A : Nat → Nat → Bool) {q : Tl} (hN : qN q ≤ 25) (c s : Nat) : 0 ≤ Rc2 A q c s ∧ Rc2 A q c s ≤ 298023223876953125 := by
  have h := Rn_bd A q (qN q - c) s
  have := pow5_le (n := qN q - c) (by omega)
  unfold Rc2
  omega
theorem wy_nn (A : Nat → Nat → Bool) (q : Tl) (hN : qN q ≤ 25) (c s v : Nat) : 0 ≤ wy A q c s v ∧ wy A q c s v ≤ 298023223876953125 := by
  unfold wy
  split
  · cases tr (qW q) c s (kdC q c v) with
    | none => exact ⟨Int.le_refl _, by show (0 : Int) ≤ _; omega⟩
    | some u => exact R_bd A hN (c + 1) u
  · omega
/-- a state that is come to leads to states that are come to -/
theorem Bf_pos (A : Nat → Nat → Bool) {q : Tl} {c s k u : Nat} (hs : s < 2 ^ (qW q + 1)) (hk : k < 4) (ht : tr (qW q) c s k = some u) (hb : Bf A q c s ≠ 0) (hn : nk A q c k ≠ 0) : Bf A q (c + 1) u ≠ 0 := by
  have h1 : 0 < Bf A q c s := by have := Bf_nn A q c s; omega
  have h2 : 0 < nk A q c k := by have := (nk_bd A q c k).1; omega
  have h3 : 0 < nk A q c k * Bf A q c s := Int.mul_pos h2 h1
  have nn : ∀ k s, 0 ≤ (if tr (qW q) c s k = some u then nk A q c k * Bf A q c s else 0) := fun k s => by
    split
    · exact Int.mul_nonneg (nk_bd A q c k).1 (Bf_nn A q c s)
    · omega
  have e1 := sm_mem (f := fun s => if tr (qW q) c s k = some u then nk A q c k * Bf A q c s else 0) (fun j _ => nn k j) hs
  have e2 := sm_mem (f := fun k => sm (fun s => if tr (qW q) c s k = some u then nk A q c k * Bf A q c s else 0) (2 ^ (qW q + 1))) (i := k) (n := 4) (fun j _ => sm_nonneg (fun s _ => nn j s)) hk
  have e3 : (if tr (qW q) c s k = some u then nk A q c k * Bf A q c s else 0) = nk A q c k * Bf A q c s := if_pos ht
  have e4 : Bf A q (c + 1) u = sm (fun k => sm (fun s => if tr (qW q) c s k = some u then nk A q c k * Bf A q c s else 0) (2 ^ (qW q + 1))) 4 := rfl
  have e1' : nk A q c k * Bf A q c s ≤ sm (fun s => if tr (qW q) c s k = some u then nk A q c k * Bf A q c s else 0) (2 ^ (qW q + 1)) := by rw [← e3]; exact e1
  rw [e4]
  omega
theorem nk_pos (A : Nat → Nat → Bool) {q : Tl} {c v : Nat} (hv : v < 5) (ha : A c v = true) : nk A q c (kdC q c v) ≠ 0 := by
  have e := sm_mem (f := fun v' => if A c v' = true ∧ kdC q c v' = kdC q c v then (1 : Int) else 0) (i := v) (n := 5) (fun j _ => by split <;> omega) hv
  have e3 : (if A c v = true ∧ kdC q c v = kdC q c v then (1 : Int) else 0) = 1 := if_pos ⟨ha, rfl⟩
  have e1 : (1 : Int) ≤ sm (fun v' => if A c v' = true ∧ kdC q c v' = kdC q c v then (1 : Int) else 0) 5 := Int.le_trans (Int.le_of_eq e3.symm) e
  have e4 : nk A q c (kdC q c v) = sm (fun v' => if A c v' = true ∧ kdC q c v' = kdC q c v then (1 : Int) else 0) 5 := rfl
  omega
