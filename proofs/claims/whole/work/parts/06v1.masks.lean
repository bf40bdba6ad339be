/-! ===== counting: what the class reads of what is told ===== -/
theorem lpT {α τ ρ : Type} (ap : α → τ → Int32 → Wd → ρ) {z : α} {b : α → α} {m : Nat} (Q : ρ → Prop) (Inv : Nat → τ → Wd → Prop) (hb : ∀ i x w k, i < m → Inv i x w → (∃ x' w', ap (b k) x (iv i) w = ap k x' (iv ((i + 1 : Nat) : Int)) w' ∧ Inv (i + 1) x' w') ∨ Q (ap (b k) x (iv i) w)) (he : ∀ x w k, Inv m x w → Q (ap (b k) x (iv m) w)) {n : Nat} (hn : m < n) {x : τ} {w : Wd} (h0 : Inv 0 x w) : Q (ap (lp z b n) x (0 : Int32) w) := by
  have key : ∀ n i x w, i ≤ m → m - i < n → Inv i x w → Q (ap (lp z b n) x (iv i) w) := by
    intro n
    induction n with
    | zero => intro i x w h1 h2; omega
    | succ n ih =>
      intro i x w h1 h2 h3
      rw [lp_s]
      by_cases e : i = m
      · rw [e] at h3 ⊢; exact he _ _ _ h3
      · rcases hb i x w (lp z b n) (by omega) h3 with ⟨x', w', e1, e2⟩ | q
        · rw [e1]; exact ih (i + 1) x' w' (by omega) (by omega) e2
        · exact q
  rw [iv_0]
  exact key n 0 x w (by omega) (by omega) h0
/-- a loop that counts down -/
theorem lpD {ρ : Type} {z : Int32 → Wd → ρ} {b : (Int32 → Wd → ρ) → Int32 → Wd → ρ} (m : Nat) (Q : ρ → Prop) (Inv : Nat → Wd → Prop) (hb : ∀ i w k, i < m → Inv (i + 1) w → ∃ w', b k (iv i) w = k (iv ((i : Int) - 1)) w' ∧ Inv i w') (he : ∀ w k, Inv 0 w → Q (b k (iv (-1)) w)) {n : Nat} (hn : m < n) {w : Wd} (h0 : Inv m w) : Q (lp z b n (iv ((m : Int) - 1)) w) := by
  have key : ∀ n i w, i ≤ m → i < n → Inv i w → Q (lp z b n (iv ((i : Int) - 1)) w) := by
    intro n
    induction n with
    | zero => intro i w h1 h2; omega
    | succ n ih =>
      intro i w h1 h2 h3
      rw [lp_s]
      cases i with
      | zero => exact he w _ h3
      | succ j =>
        obtain ⟨w', e1, e2⟩ := hb j w (lp z b n) (by omega) h3
        rw [show (((j + 1 : Nat) : Int) - 1) = (j : Int) by omega, e1]
        exact ih j w' (by omega) (by omega) e2
  exact key n m w (Nat.le_refl _) hn h0
def tvl (i : Nat) : Int := (i : Int) - 1 - (if i = 0 then 8 else 0)
theorem tol_ix {f : Int} (h : Tol f) : ∃ i, i < 6 ∧ f = tvl i := by
  unfold Tol at h
  rcases h with h | h
  · exact ⟨0, by omega, by rw [h]; rfl⟩
  · exact ⟨f.toNat + 1, by omega, by unfold tvl; rw [if_neg (by omega)]; omega⟩
theorem top_ix {f : Int} (h : Top f) : ∃ i, i < 3 ∧ f = tvl i := by
  unfold Top at h
  rcases h with h | h | h
  · exact ⟨0, by omega, by rw [h]; rfl⟩
  · exact ⟨1, by omega, by rw [h]; rfl⟩
  · exact ⟨2, by omega, by rw [h]; rfl⟩
def mtI (f : Int) : Int32 := if f = -9 then 31 else (1 : Int32) <<< (iv f &&& 31)
def upI (f : Int) : Int32 := if f = -9 then 31 else ((2 : Int32) <<< (iv f &&& 31)) - 1
def utI (t : Int) : Int32 := if t = -9 then 31 else if t = 0 then 1 else 30
def alI (f g t : Int) : Int32 := (upI f &&& upI g) &&& utI t
def hoI (f g t : Int) (k : Nat) : Int32 := (alI f g t &&& (if k % 2 = 0 then mtI f ^^^ (-1 : Int32) else mtI f)) &&& (if k / 2 = 0 then mtI g ^^^ (-1 : Int32) else mtI g)
/-- the heights of a kind, as bits -/
def hm (f g t : Int) (k : Nat) : Nat := (if alw f g t 0 = true ∧ knd f g 0 = k then 1 else 0) + (if alw f g t 1 = true ∧ knd f g 1 = k then 2 else 0) + (if alw f g t 2 = true ∧ knd f g 2 = k then 4 else 0) + (if alw f g t 3 = true ∧ knd f g 3 = k then 8 else 0) + (if alw f g t 4 = true ∧ knd f g 4 = k then 16 else 0)
def pcn (m : Nat) : Nat := m % 2 + m / 2 % 2 + m / 4 % 2 + m / 8 % 2 + m / 16 % 2
def nkf (f g t : Int) (k : Nat) : Int := sm (fun v => if alw f g t v = true ∧ knd f g v = k then 1 else 0) 5
def hck (i j l k : Nat) : Bool := decide (hoI (tvl i) (tvl j) (tvl l) k = iv (hm (tvl i) (tvl j) (tvl l) k)) && (decide (hm (tvl i) (tvl j) (tvl l) k < 32) && decide (((pcn (hm (tvl i) (tvl j) (tvl l) k) : Nat) : Int) = nkf (tvl i) (tvl j) (tvl l) k))
theorem h_all : ∀ i, i < 6 → ∀ j, j < 6 → ∀ l, l < 3 → ∀ k, k < 4 → hck i j l k = true := by decide +kernel
theorem h_f {f g t : Int} (hf : Tol f) (hg : Tol g) (ht : Top t) {k : Nat} (hk : k < 4) : hoI f g t k = iv (hm f g t k) ∧ hm f g t k < 32 ∧ ((pcn (hm f g t k) : Nat) : Int) = nkf f g t k := by
  obtain ⟨i, hi, rfl⟩ := tol_ix hf
  obtain ⟨j, hj, rfl⟩ := tol_ix hg
  obtain ⟨l, hl, rfl⟩ := top_ix ht
  have h := h_all i hi j hj l hl k hk
  unfold hck at h
  rw [Bool.and_eq_true, Bool.and_eq_true] at h
  exact ⟨of_decide_eq_true h.1, of_decide_eq_true h.2.1, of_decide_eq_true h.2.2⟩
def ack (i j l v : Nat) : Bool := decide ((((alI (tvl i) (tvl j) (tvl l)) >>> (iv v &&& 31)) &&& (1 : Int32)) = b2i (alw (tvl i) (tvl j) (tvl l) v)) && decide ((((mtI (tvl i)) >>> (iv v &&& 31)) &&& (1 : Int32)) = b2i (decide (tvl i = -9 ∨ tvl i = (v : Int))))
theorem a_all : ∀ i, i < 6 → ∀ j, j < 6 → ∀ l, l < 3 → ∀ v, v < 5 → ack i j l v = true := by decide +kernel
theorem a_f {f g t : Int} (hf : Tol f) (hg : Tol g) (ht : Top t) {v : Nat} (hv : v < 5) : (((alI f g t) >>> (iv v &&& 31)) &&& (1 : Int32)) = b2i (alw f g t v) ∧ (((mtI f) >>> (iv v &&& 31)) &&& (1 : Int32)) = b2i (decide (f = -9 ∨ f = (v : Int))) := by
  obtain ⟨i, hi, rfl⟩ := tol_ix hf
  obtain ⟨j, hj, rfl⟩ := tol_ix hg
  obtain ⟨l, hl, rfl⟩ := top_ix ht
  have h := a_all i hi j hj l hl v hv
  unfold ack at h
  rw [Bool.and_eq_true] at h
  exact ⟨of_decide_eq_true h.1, of_decide_eq_true h.2⟩
def bcF (p0 : Int32) : Int32 := ((((((((p0 - ((usr p0 (1 : Int32)) &&& (1431655765 : Int32))) &&& (858993459 : Int32)) + ((usr (p0 - ((usr p0 (1 : Int32)) &&& (1431655765 : Int32))) (2 : Int32)) &&& (858993459 : Int32))) + (usr (((p0 - ((usr p0 (1 : Int32)) &&& (1431655765 : Int32))) &&& (858993459 : Int32)) + ((usr (p0 - ((usr p0 (1 : Int32)) &&& (1431655765 : Int32))) (2 : Int32)) &&& (858993459 : Int32))) (4 : Int32))) &&& (252645135 : Int32)) + (usr (((((p0 - ((usr p0 (1 : Int32)) &&& (1431655765 : Int32))) &&& (858993459 : Int32)) + ((usr (p0 - ((usr p0 (1 : Int32)) &&& (1431655765 : Int32))) (2 : Int32)) &&& (858993459 : Int32))) + (usr (((p0 - ((usr p0 (1 : Int32)) &&& (1431655765 : Int32))) &&& (858993459 : Int32)) + ((usr (p0 - ((usr p0 (1 : Int32)) &&& (1431655765 : Int32))) (2 : Int32)) &&& (858993459 : Int32))) (4 : Int32))) &&& (252645135 : Int32)) (8 : Int32))) + (usr ((((((p0 - ((usr p0 (1 : Int32)) &&& (1431655765 : Int32))) &&& (858993459 : Int32)) + ((usr (p0 - ((usr p0 (1 : Int32)) &&& (1431655765 : Int32))) (2 : Int32)) &&& (858993459 : Int32))) + (usr (((p0 - ((usr p0 (1 : Int32)) &&& (1431655765 : Int32))) &&& (858993459 : Int32)) + ((usr (p0 - ((usr p0 (1 : Int32)) &&& (1431655765 : Int32))) (2 : Int32)) &&& (858993459 : Int32))) (4 : Int32))) &&& (252645135 : Int32)) + (usr (((((p0 - ((usr p0 (1 : Int32)) &&& (1431655765 : Int32))) &&& (858993459 : Int32)) + ((usr (p0 - ((usr p0 (1 : Int32)) &&& (1431655765 : Int32))) (2 : Int32)) &&& (858993459 : Int32))) + (usr (((p0 - ((usr p0 (1 : Int32)) &&& (1431655765 : Int32))) &&& (858993459 : Int32)) + ((usr (p0 - ((usr p0 (1 : Int32)) &&& (1431655765 : Int32))) (2 : Int32)) &&& (858993459 : Int32))) (4 : Int32))) &&& (252645135 : Int32)) (8 : Int32))) (16 : Int32))) &&& (63 : Int32))
theorem bc_all : ∀ m, m < 32 → bcF (iv (m : Nat)) = iv (pcn m : Nat) := by decide +kernel
theorem bitCount_s {m : Nat} (hm : m < 32) (w : Wd) : fJ6_bitCount_0f7a4 (iv m) w = some (iv (pcn m : Nat), w) := by
  rw [← bc_all m hm]; rfl
theorem or_all : ∀ s, s < 64 → ∀ m, m < 64 → iv (s : Nat) ||| iv (m : Nat) = iv ((s ||| m : Nat) : Int) := by decide +kernel
theorem and1_all : ∀ s, s < 64 → iv (s : Nat) &&& (1 : Int32) = iv ((s % 2 : Nat) : Int) := by decide +kernel
theorem shl_all : ∀ x, x < 6 → (2 : Int32) <<< (iv (x : Nat) &&& 31) = iv ((2 ^ (x + 1) : Nat) : Int) := by decide +kernel
