/-! ===== counting: a heap that fits is one of those counted; place ===== -/
def tcs (o : Option Nat) (W x s k : Nat) : Bool := match o with
  | none => decide (x + 1 = W) && (decide (s % 2 = 0) && !decide (k / 2 = 1))
  | some u => decide (u < 2 ^ (W + 1)) && (decide (u % 2 = if x + 1 = W then 0 else if k / 2 = 1 then 1 else s % 2) && (List.range 5).all (fun j => !decide (j < W) || decide (u / 2 ^ (j + 1) % 2 = if j = x ∧ k % 2 = 1 then 1 else s / 2 ^ (j + 1) % 2)))
def tck (W x s k : Nat) : Bool := !(decide (x < W) && decide (s < 2 ^ (W + 1))) || tcs (trx W x s k) W x s k
theorem tc_all : ∀ W, W < 6 → ∀ x, x < 5 → ∀ s, s < 64 → ∀ k, k < 4 → tck W x s k = true := by decide +kernel
def ack2 (W s : Nat) : Bool := !(decide (1 ≤ W) && (decide (s < 2 ^ (W + 1)) && (decide (s % 2 = 0) && (List.range W).all (fun j => decide (s / 2 ^ (j + 1) % 2 = 1))))) || decide (s = allM W)
theorem ac_all : ∀ W, W < 6 → ∀ s, s < 64 → ack2 W s = true := by decide +kernel
theorem tr_none {W c s k : Nat} (h1 : 1 ≤ W) (h2 : W ≤ 5) (hs : s < 2 ^ (W + 1)) (hk : k < 4) (h : tr W c s k = none) : c % W + 1 = W ∧ s % 2 = 0 ∧ ¬ k / 2 = 1 := by
  have hx : c % W < W := Nat.mod_lt _ h1
  have hS := two64 h2
  have ht := tc_all W (by omega) (c % W) (by omega) s (by omega) k hk
  unfold tck at ht
  have ht := nimp ht (by rw [Bool.and_eq_true]; exact ⟨decide_eq_true hx, decide_eq_true hs⟩)
  rw [tr_x] at h
  rw [h] at ht
  have ht : (decide (c % W + 1 = W) && (decide (s % 2 = 0) && !decide (k / 2 = 1))) = true := ht
  rw [Bool.and_eq_true, Bool.and_eq_true] at ht
  refine ⟨of_decide_eq_true ht.1, of_decide_eq_true ht.2.1, fun z => ?_⟩
  rw [decide_eq_true z] at ht; exact absurd ht.2.2 (by decide)
theorem tr_bits {W c s k u : Nat} (h1 : 1 ≤ W) (h2 : W ≤ 5) (hs : s < 2 ^ (W + 1)) (hk : k < 4) (h : tr W c s k = some u) : u < 2 ^ (W + 1) ∧ (u % 2 = if c % W + 1 = W then 0 else if k / 2 = 1 then 1 else s % 2) ∧ ∀ j, j < W → u / 2 ^ (j + 1) % 2 = if j = c % W ∧ k % 2 = 1 then 1 else s / 2 ^ (j + 1) % 2 := by
  have hx : c % W < W := Nat.mod_lt _ h1
  have hS := two64 h2
  have ht := tc_all W (by omega) (c % W) (by omega) s (by omega) k hk
  unfold tck at ht
  have ht := nimp ht (by rw [Bool.and_eq_true]; exact ⟨decide_eq_true hx, decide_eq_true hs⟩)
  rw [tr_x] at h
  rw [h] at ht
  have ht : (decide (u < 2 ^ (W + 1)) && (decide (u % 2 = if c % W + 1 = W then 0 else if k / 2 = 1 then 1 else s % 2) && (List.range 5).all (fun j => !decide (j < W) || decide (u / 2 ^ (j + 1) % 2 = if j = c % W ∧ k % 2 = 1 then 1 else s / 2 ^ (j + 1) % 2)))) = true := ht
  rw [Bool.and_eq_true, Bool.and_eq_true, List.all_eq_true] at ht
  refine ⟨of_decide_eq_true ht.1, of_decide_eq_true ht.2.1, fun j hj => ?_⟩
  exact of_decide_eq_true (nimp (ht.2.2 j (List.mem_range.mpr (by omega))) (decide_eq_true hj))
theorem allM_of {W s : Nat} (h1 : 1 ≤ W) (h2 : W ≤ 5) (hs : s < 2 ^ (W + 1)) (h0 : s % 2 = 0) (hj : ∀ j, j < W → s / 2 ^ (j + 1) % 2 = 1) : s = allM W := by
  have hS := two64 h2
  have h := ac_all W (by omega) s (by omega)
  unfold ack2 at h
  refine of_decide_eq_true (nimp h ?_)
  rw [Bool.and_eq_true, Bool.and_eq_true, Bool.and_eq_true, List.all_eq_true]
  exact ⟨decide_eq_true h1, decide_eq_true hs, decide_eq_true h0, fun j hm => decide_eq_true (hj j (List.mem_range.mp hm))⟩
/-- the state before each cell of a heap -/
def plS (q : Tl) (h : Nat → Nat) : Nat → Nat
  | 0 => 0
  | c + 1 => gD (tr (qW q) c (plS q h c) (kdC q c (h c)))
/-- each line has a cell as high as told -/
def Fits (q : Tl) (h : Nat → Nat) : Prop := (∀ c, c < qN q → h c < 5 ∧ alC q c (h c) = true) ∧ (∀ y, y < qH q → ∃ x, x < qW q ∧ kdC q (y * qW q + x) (h (y * qW q + x)) / 2 = 1) ∧ (∀ x, x < qW q → ∃ y, y < qH q ∧ kdC q (y * qW q + x) (h (y * qW q + x)) % 2 = 1)
def plI (q : Tl) (h : Nat → Nat) (c : Nat) : Prop := plS q h c < 2 ^ (qW q + 1) ∧ (∀ j, j < qW q → (plS q h c / 2 ^ (j + 1) % 2 = 1 ↔ ∃ c', c' < c ∧ c' % qW q = j ∧ kdC q c' (h c') % 2 = 1)) ∧ (plS q h c % 2 = 1 ↔ ∃ c', c' < c ∧ c' / qW q = c / qW q ∧ kdC q c' (h c') / 2 = 1)
theorem div_of_lt {W c c' : Nat} (h : c' < c) (hz : c % W = 0) (h1 : 1 ≤ W) : c' / W ≠ c / W := fun e => by
  have a := Nat.div_add_mod c W
  have b := Nat.div_add_mod c' W
  rw [e, ← Nat.add_zero (W * (c / W)), ← hz] at b
  have := Nat.zero_le (c' % W)
  rw [hz] at a b
  omega
theorem pl_step {q : Tl} (hq : qOK q) {h : Nat → Nat} (hf : Fits q h) {c : Nat} (hc : c < qN q) (hi : plI q h c) : tr (qW q) c (plS q h c) (kdC q c (h c)) = some (plS q h (c + 1)) ∧ plI q h (c + 1) := by
  have hW := hq.1.2.1
  have hW1 := hq.1.1
  have hH := hq.1.2.2.2
  have hk : kdC q c (h c) < 4 := knd_lt _ _ _
  obtain ⟨i1, i2, i3⟩ := hi
  obtain ⟨s1, s2, s3, s4⟩ := sc_f hW1 hW hH hc
  have hx : c % qW q < qW q := Nat.mod_lt _ hW1
  have hy : c / qW q < qH q := Nat.div_lt_of_lt_mul hc
  have hcd := Nat.div_add_mod c (qW q)
  cases ht : tr (qW q) c (plS q h c) (kdC q c (h c)) with
  | none =>
    exfalso
    obtain ⟨n1, n2, n3⟩ := tr_none hW1 hW i1 hk ht
    obtain ⟨x, hx2, hx3⟩ := hf.2.1 _ hy
    have hd := xy_of (W := qW q) (y := c / qW q) hx2
    have e2 : c / qW q * qW q = qW q * (c / qW q) := Nat.mul_comm _ _
    by_cases e : c / qW q * qW q + x = c
    · rw [e] at hx3; exact n3 hx3
    · have := i3.mpr ⟨c / qW q * qW q + x, by omega, hd.2, hx3⟩
      omega
  | some u =>
    have hu : plS q h (c + 1) = u := by
      show gD (tr (qW q) c (plS q h c) (kdC q c (h c))) = u
      rw [ht]; rfl
    obtain ⟨b1, b2, b3⟩ := tr_bits hW1 hW i1 hk ht
    rw [hu]
    refine ⟨rfl, ?_⟩
    unfold plI
    rw [hu]
    refine ⟨b1, fun j hj => ?_, ?_⟩
    · rw [b3 j hj]
      by_cases e : j = c % qW q ∧ kdC q c (h c) % 2 = 1
      · rw [if_pos e]
        exact ⟨fun _ => ⟨c, by omega, e.1.symm, e.2⟩, fun _ => rfl⟩
      · rw [if_neg e, i2 j hj]
        refine ⟨fun ⟨c', z1, z2, z3⟩ => ⟨c', by omega, z2, z3⟩, fun ⟨c', z1, z2, z3⟩ => ?_⟩
        by_cases e2 : c' = c
        · subst e2; exact absurd ⟨z2.symm, z3⟩ e
        · exact ⟨c', by omega, z2, z3⟩
    · rw [b2]
      by_cases e : c % qW q + 1 = qW q
      · rw [if_pos e]
        refine ⟨fun z => absurd z (by decide), fun ⟨c', z1, z2, z3⟩ => ?_⟩
        exact absurd z2 (div_of_lt z1 (s1 e).1 hW1)
      · rw [if_neg e, (s2 e).2]
        by_cases e2 : kdC q c (h c) / 2 = 1
        · rw [if_pos e2]
          exact ⟨fun _ => ⟨c, by omega, rfl, e2⟩, fun _ => rfl⟩
        · rw [if_neg e2, i3]
          refine ⟨fun ⟨c', z1, z2, z3⟩ => ⟨c', by omega, z2, z3⟩, fun ⟨c', z1, z2, z3⟩ => ?_⟩
          by_cases e3 : c' = c
          · subst e3; exact absurd z3 e2
          · exact ⟨c', by omega, z2, z3⟩
theorem pl_inv {q : Tl} (hq : qOK q) {h : Nat → Nat} (hf : Fits q h) : ∀ c, c ≤ qN q → plI q h c
  | 0, _ => by
    refine ⟨Nat.two_pow_pos _, fun j _ => ⟨fun z => ?_, fun ⟨c', z, _⟩ => by omega⟩, fun z => ?_, fun ⟨c', z, _⟩ => by omega⟩
    · have : (0 : Nat) / 2 ^ (j + 1) % 2 = 1 := z
      rw [Nat.zero_div] at this; omega
    · exact absurd (show 0 % 2 = 1 from z) (by decide)
  | c + 1, hc => (pl_step hq hf (by omega) (pl_inv hq hf c (by omega))).2
theorem pl_end {q : Tl} (hq : qOK q) {h : Nat → Nat} (hf : Fits q h) : plS q h (qN q) = allM (qW q) := by
  obtain ⟨i1, i2, i3⟩ := pl_inv hq hf (qN q) (Nat.le_refl _)
  have hW1 := hq.1.1
  refine allM_of hW1 hq.1.2.1 i1 ?_ (fun j hj => ?_)
  · by_cases e : plS q h (qN q) % 2 = 1
    · obtain ⟨c', z1, z2, _⟩ := i3.mp e
      exact absurd z2 (div_of_lt z1 (Nat.mul_mod_right _ _) hW1)
    · omega
  · obtain ⟨y, hy, z⟩ := hf.2.2 j hj
    have hd := xy_of (W := qW q) (y := y) hj
    exact (i2 j hj).mpr ⟨y * qW q + j, yx_lt hj hy, hd.1, z⟩
theorem pl_bf {q : Tl} (hq : qOK q) {h : Nat → Nat} (hf : Fits q h) : ∀ c, c ≤ qN q → Bf (alC q) q c (plS q h c) ≠ 0
  | 0, _ => show ¬ ((if (0 : Nat) = 0 then (1 : Int) else 0) = 0) by decide
  | c + 1, hc => by
    have hi := pl_inv hq hf c (by omega)
    have hs := pl_step hq hf (by omega : c < qN q) hi
    have hc2 := hf.1 c (by omega)
    exact Bf_pos (alC q) hi.1 (knd_lt _ _ _ : kdC q c (h c) < 4) hs.1 (pl_bf hq hf c (by omega)) (nk_pos (alC q) hc2.1 hc2.2)
theorem pl_pos {q : Tl} (hq : qOK q) {h : Nat → Nat} (hf : Fits q h) : ∀ n c, qN q - c = n → c ≤ qN q → 0 < Rc2 (alC q) q c (plS q h c)
  | 0, c, hn, hc => by
    have e : c = qN q := by omega
    subst e
    rw [R_end, pl_end hq hf, if_pos rfl]; decide
  | n + 1, c, hn, hc => by
    have hi := pl_inv hq hf c hc
    have hs := pl_step hq hf (by omega : c < qN q) hi
    have hc2 := hf.1 c (by omega)
    have ih := pl_pos hq hf n (c + 1) (by omega) (by omega)
    rw [R_step _ q (by omega)]
    have e : wy (alC q) q c (plS q h c) (h c) = Rc2 (alC q) q (c + 1) (plS q h (c + 1)) := by
      unfold wy; rw [if_pos hc2.2, hs.1]; rfl
    have := sm_mem (f := wy (alC q) q c (plS q h c)) (i := h c) (n := 5) (fun v _ => (wy_nn (alC q) q (qN_le hq) c _ v).1) hc2.1
    omega
def plN (q : Tl) (h : Nat → Nat) : Nat → Int := sm (fun c => sm (wy (alC q) q c (plS q h c)) (h c))
theorem mxN_ge (f : Nat → Int) : ∀ n i, i < n → f i ≤ mxN f n
  | 0, _, h => by omega
  | n + 1, i, h => by
    rw [mxN_s]
    by_cases e : i = n
    · subst e; omega
    · have := mxN_ge f n i (by omega); omega
theorem mxN_at {f : Nat → Int} : ∀ {n : Nat}, 1 ≤ n → (∀ i, i < n → 0 ≤ f i) → ∃ i, i < n ∧ f i = mxN f n
  | 0, h, _ => by omega
  | n + 1, _, hf => by
    rw [mxN_s]
    by_cases e : mxN f n ≤ f n
    · exact ⟨n, by omega, by omega⟩
    · have h0 : 0 ≤ f n := hf n (by omega)
      have hn : 1 ≤ n := by
        cases n with
        | zero => exact absurd h0 (by have : mxN f 0 = 0 := rfl; omega)
        | succ n => omega
      obtain ⟨i, hi, h⟩ := mxN_at hn (fun i hi => hf i (by omega))
      exact ⟨i, by omega, by omega⟩
def hNat (a : Ab) (s : Nat) (c : Nat) : Nat := (aP a s c).toNat
theorem hNat_i {a : Ab} (ha : AbOK a) {s : Nat} (hs : s < 4) {c : Nat} (hc : c < aN a) : ((hNat a s c : Nat) : Int) = aP a s c ∧ hNat a s c < 5 := by
  have := ha.2.1 s hs c hc
  unfold Hgt at this
  unfold hNat; omega
theorem fit_Fits {a : Ab} (ha : AbOK a) {s : Nat} (hs : s < 4) (h : fit a s = true) : Fits (aTl a) (hNat a s) := by
  unfold fit at h
  rw [Bool.and_eq_true, Bool.and_eq_true, bA_iff, bA_iff, bA_iff, nL_1, nL_0] at h
  obtain ⟨⟨hc, hr⟩, ht⟩ := h
  have hW1 := ha.1.1
  have hcol : ∀ x, x < aW a → aF a x = -9 ∨ aF a x = mxL a s 1 x := fun x hx => by
    have := hc x hx
    unfold okL at this
    rw [Bool.or_eq_true, getL_1] at this
    exact this.elim (fun z => Or.inl (of_decide_eq_true z)) (fun z => Or.inr (of_decide_eq_true z))
  have hrow : ∀ y, y < aH a → aS a y = -9 ∨ aS a y = mxL a s 0 y := fun y hy => by
    have := hr y hy
    unfold okL at this
    rw [Bool.or_eq_true, getL_0] at this
    exact this.elim (fun z => Or.inl (of_decide_eq_true z)) (fun z => Or.inr (of_decide_eq_true z))
  have e1 : ∀ x, mxL a s 1 x = mxN (fun i => aP a s (i * aW a + x)) (aH a) := fun x => rfl
  have e0 : ∀ y, mxL a s 0 y = mxN (fun i => aP a s (y * aW a + i)) (aW a) := fun y => rfl
  refine ⟨fun c hcc => ⟨(hNat_i ha hs hcc).2, ?_⟩, fun y hy => ?_, fun x hx => ?_⟩
  · have hx : c % aW a < aW a := Nat.mod_lt _ hW1
    have hy : c / aW a < aH a := Nat.div_lt_of_lt_mul hcc
    have hcd := Nat.div_add_mod c (aW a)
    have ec : c / aW a * aW a + c % aW a = c := by rw [Nat.mul_comm]; exact hcd
    have hv := (hNat_i ha hs hcc).1
    unfold alC alw
    rw [Bool.and_eq_true, Bool.and_eq_true, hv]
    refine ⟨?_, ?_, ?_⟩
    · rw [Bool.or_eq_true]
      rcases hcol _ hx with z | z
      · exact Or.inl (decide_eq_true z)
      · refine Or.inr (decide_eq_true ?_)
        show aP a s c ≤ aF a (c % aW a)
        rw [z, e1]
        have := mxN_ge (fun i => aP a s (i * aW a + c % aW a)) (aH a) (c / aW a) hy
        have e : aP a s (c / aW a * aW a + c % aW a) = aP a s c := by rw [ec]
        exact Int.le_trans (Int.le_of_eq e.symm) this
    · rw [Bool.or_eq_true]
      rcases hrow _ hy with z | z
      · exact Or.inl (decide_eq_true z)
      · refine Or.inr (decide_eq_true ?_)
        show aP a s c ≤ aS a (c / aW a)
        rw [z, e0]
        have := mxN_ge (fun i => aP a s (c / aW a * aW a + i)) (aW a) (c % aW a) hx
        have e : aP a s (c / aW a * aW a + c % aW a) = aP a s c := by rw [ec]
        exact Int.le_trans (Int.le_of_eq e.symm) this
    · have := ht c hcc
      unfold okT at this
      exact this
  · have hne : ∀ i, i < aW a → 0 ≤ aP a s (y * aW a + i) := fun i hi => (ha.2.1 s hs _ (yx_lt hi hy)).1
    rcases hrow y hy with z | z
    · refine ⟨0, hW1, (knd_2 _ _ _).mpr (Or.inl ?_)⟩
      rw [(xy_of (W := aW a) (y := y) hW1).2]; exact z
    · obtain ⟨x, hx, e⟩ := mxN_at hW1 hne
      refine ⟨x, hx, (knd_2 _ _ _).mpr (Or.inr ?_)⟩
      rw [(xy_of (W := aW a) (y := y) hx).2, (hNat_i ha hs (yx_lt hx hy)).1]
      show aS a y = aP a s (y * aW a + x)
      rw [z, e0, ← e]
  · have hne : ∀ i, i < aH a → 0 ≤ aP a s (i * aW a + x) := fun i hi => (ha.2.1 s hs _ (yx_lt hx hi)).1
    rcases hcol x hx with z | z
    · refine ⟨0, ha.1.2.2.1, (knd_1 _ _ _).mpr (Or.inl ?_)⟩
      rw [(xy_of (W := aW a) (y := 0) hx).1]; exact z
    · obtain ⟨y, hy, e⟩ := mxN_at ha.1.2.2.1 hne
      refine ⟨y, hy, (knd_1 _ _ _).mpr (Or.inr ?_)⟩
      rw [(xy_of (W := aW a) (y := y) hx).1, (hNat_i ha hs (yx_lt hx hy)).1]
      show aF a x = aP a s (y * aW a + x)
      rw [z, e1, ← e]
section STEPS
variable {t : Nat} {w : Wd} {q : Tl}
theorem smaller_s (h : GT q w) (hf : FT0 q w) {k : Nat} (hk : qN q ≤ LI k) (hk2 : LI k ≤ 2000) {hh : Nat → Nat} (hF : Fits q hh) (hw : ∀ c, c < qN q → w.1 k c = iv (hh c : Nat)) : fX1_smaller k w = some (kv (plN q hh (qN q)), w) := by
  have hN := qN_le h.1
  have hS := two64 h.1.1.2.1
  unfold fX1_smaller
  refine lpT (α := Int32 → Int64 → Int32 → Wd → Option (Int64 × Wd)) (τ := Int32 × Int64) (fun f x i w => f x.1 x.2 i w) (m := qN q) (fun r => r = some (kv (plN q hh (qN q)), w)) (fun c x w' => x = (iv (plS q hh c : Nat), kv (plN q hh c)) ∧ w' = w) ?_ ?_ (hGn (by omega)) (x := (0, 0)) ⟨rfl, rfl⟩
  · rintro c x w' k7 hc ⟨rfl, rfl⟩
    refine Or.inl ?_
    have hi := pl_inv h.1 hF c (by omega)
    have hs := pl_step h.1 hF hc hi
    have hb := pl_bf h.1 hF c (by omega)
    have hv := (hF.1 c hc).1
    have hi1 := hs.2.1
    show ∃ x' w'', bX1_smaller_7 _ k7 _ _ _ w' = _ ∧ _
    unfold bX1_smaller_7
    rw [cells_q h, bnd_s, if_neg (iv_Nle (by omega) hc)]
    have key := lpT (α := Int32 → Int64 → Int32 → Int32 → Wd → Option (Int64 × Wd)) (τ := Int64) (z := fun _ _ _ _ _ => none) (b := bX1_smaller_22 k k7) (fun f x i w => f (iv (plS q hh c : Nat)) x (iv c) i w) (m := hh c) (fun r => r = k7 (iv (plS q hh (c + 1) : Nat)) (kv (plN q hh (c + 1))) (iv ((c + 1 : Nat) : Int)) w') (fun v x w'' => x = kv (plN q hh c + sm (wy (alC q) q c (plS q hh c)) v) ∧ w'' = w') (n := G) ?_ ?_ (hGn (by omega)) (x := kv (plN q hh c)) (w := w') ⟨by show kv (plN q hh c) = kv (plN q hh c + 0); rw [Int.add_zero], rfl⟩
    · exact ⟨(iv (plS q hh (c + 1) : Nat), kv (plN q hh (c + 1))), w', key, rfl, rfl⟩
    · rintro v x w'' k22 hvv ⟨rfl, rfl⟩
      refine Or.inl ?_
      show ∃ x' w1, bX1_smaller_22 _ k7 k22 _ _ _ _ w'' = _ ∧ _
      unfold bX1_smaller_22
      rw [gI_iv (by omega) hk2, bind_s, hw c hc, if_neg (by rw [iv_le (by omega) (by omega)]; omega), waysFrom_s h hf hc hi.1 hb (by omega), bnd_s, kv_add, iv_s1]
      refine ⟨_, w'', rfl, ?_, rfl⟩
      rw [sm_s, Int.add_assoc]
    · rintro x w'' k22 ⟨rfl, rfl⟩
      show bX1_smaller_22 _ k7 k22 _ _ _ _ w'' = _
      unfold bX1_smaller_22
      rw [gI_iv (by omega) hk2, bind_s, hw c hc, if_pos iv_Nle', bind_s, afterHeight_s h hc hi.1 hv, bnd_s, hs.1, stI_some, max0_iv (by omega), iv_s1]
      rfl
  · rintro x w' k7 ⟨rfl, rfl⟩
    show bX1_smaller_7 _ k7 _ _ _ w' = _
    unfold bX1_smaller_7
    rw [cells_q h, bnd_s, if_pos iv_Nle']
theorem mplace_s {a : Ab} (ha : AbOK a) (hm : MS a w) (hW : WT (alC (aTl a)) (aTl a) 0 w) {s : Nat} (hs : s < 4) (hF : Fits (aTl a) (hNat a s)) : lp (fun _ _ _ _ => none) (bX9_place_35 (iv s)) G (0 : Int64) (0 : Int32) (0 : Int32) w = some (kv (plN (aTl a) (hNat a s) (aN a)), w) := by
  have hN := aN_le ha
  have hq := ha.q
  have hML := hm.ml ha
  have hw : ∀ c, c < aN a → w.1 100 (25 * s + c) = iv (hNat a s c : Nat) := fun c hc => by
    rw [(hNat_i ha hs hc).1]; exact hm.2.1 s hs c hc
  generalize hqq : aTl a = q at hq hW hF hML ⊢
  have eN : qN q = aN a := by rw [← hqq]
  refine lpT (α := Int64 → Int32 → Int32 → Wd → Option (Int64 × Wd)) (τ := Int64 × Int32) (fun f x i w => f x.1 x.2 i w) (m := aN a) (fun r => r = some (kv (plN q (hNat a s) (aN a)), w)) (fun c x w' => (∃ ms, x = (kv (plN q (hNat a s) c), iv (ms : Nat)) ∧ okc q c ms ∧ nr (c % qW q) ms = plS q (hNat a s) c) ∧ w' = w) ?_ ?_ (hGn (by omega)) (x := (0, 0)) ⟨⟨0, rfl, okc_0 hq, by rw [Nat.zero_mod]; rfl⟩, rfl⟩
  · rintro c x w' k35 hcc ⟨⟨ms, rfl, m1, m2⟩, rfl⟩
    refine Or.inl ?_
    have hc : c < qN q := by rw [eN]; exact hcc
    have hi := pl_inv hq hF c (by omega)
    have hs1 := pl_step hq hF hc hi
    have hv := (hF.1 c hc).1
    have hp := pl_pos hq hF _ (c + 1) rfl (by omega)
    have hms : ms < 64 := by
      have := two64 hq.1.2.1
      have := m1.1
      omega
    have th : ∀ v : Nat, v < 5 → fX9_then (iv c) (iv ms) (iv v) w' = some (s9 (mth (alC q) q c ms v), w') := fun v hv => by
      rw [then_s hML hc hms hv, alO_no]
    have wv : ∀ v, trv (mth (alC q) q c ms v) (Mc (alC q) q (c + 1)) = wy (alC q) q c (plS q (hNat a s) c) v := fun v => by
      rw [mwy hq hc m1 v, m2]
    have hwp : 0 < wy (alC q) q c (nr (c % qW q) ms) (hNat a s c) := by
      rw [m2]
      unfold wy; rw [if_pos (hF.1 c hc).2, hs1.1]; exact hp
    obtain ⟨u, f1, f2, f3⟩ := mth_some (A := alC q) hq hc m1 hwp
    show ∃ x' w'', bX9_place_35 _ k35 _ _ _ w' = _ ∧ _
    unfold bX9_place_35
    rw [mcells_q hML, bnd_s, if_neg (iv_Nle (by omega) hc)]
    have key := lpT (α := Int64 → Int32 → Int32 → Int32 → Wd → Option (Int64 × Wd)) (τ := Int64) (z := fun _ _ _ _ _ => none) (b := bX9_place_47 (iv s) k35) (fun f x i w => f x (iv ms) (iv c) i w) (m := hNat a s c) (fun r => r = k35 (kv (plN q (hNat a s) (c + 1))) (iv (u : Nat)) (iv ((c + 1 : Nat) : Int)) w') (fun v x w'' => x = kv (plN q (hNat a s) c + sm (wy (alC q) q c (plS q (hNat a s) c)) v) ∧ w'' = w') (n := G) ?_ ?_ (hGn (by omega)) (x := kv (plN q (hNat a s) c)) (w := w') ⟨by show kv (plN q (hNat a s) c) = kv (plN q (hNat a s) c + 0); rw [Int.add_zero], rfl⟩
    · refine ⟨(kv (plN q (hNat a s) (c + 1)), iv (u : Nat)), w', key, ⟨u, rfl, f3, ?_⟩, rfl⟩
      rw [m2, hs1.1] at f2
      exact (Option.some.inj f2).symm
    · rintro v x w'' k47 hvv ⟨rfl, rfl⟩
      refine Or.inl ?_
      show ∃ x' w1, bX9_place_47 _ k35 k47 _ _ _ _ w'' = _ ∧ _
      unfold bX9_place_47 jX9_place_104
      rw [iv_25sc, gI_iv (by rw [LI_100]; omega) (by rw [LI_100]; omega), bind_s, hw c hcc, if_neg (by rw [iv_le (by omega) (by omega)]; omega), th v (by omega), bnd_s, iv_s1]
      have nx : plN q (hNat a s) c + sm (wy (alC q) q c (plS q (hNat a s) c)) (v + 1) = plN q (hNat a s) c + sm (wy (alC q) q c (plS q (hNat a s) c)) v + wy (alC q) q c (plS q (hNat a s) c) v := by rw [sm_s, Int.add_assoc]
      cases hmt : mth (alC q) q c ms v with
      | none =>
        rw [show s9 none = (-9 : Int32) from rfl, if_pos rfl, kv_0, kv_add]
        refine ⟨_, w'', rfl, ?_, rfl⟩
        rw [nx, ← wv v, hmt]; rfl
      | some u1 =>
        have hu2 := mth_lt hq hms hmt
        rw [show s9 (some u1) = iv (u1 : Nat) from rfl, if_neg (s9_m9 (by omega)), iv_64c1s, gL_iv (by rw [LL_107]; omega) (by rw [LL_107]; omega), bind_s, hW (c + 1) (by omega) (by omega) u1 hu2, kv_add]
        refine ⟨_, w'', rfl, ?_, rfl⟩
        rw [nx, ← wv v, hmt]; rfl
    · rintro x w'' k47 ⟨rfl, rfl⟩
      show bX9_place_47 _ k35 k47 _ _ _ _ w'' = _
      unfold bX9_place_47
      rw [iv_25sc, gI_iv (by rw [LI_100]; omega) (by rw [LI_100]; omega), bind_s, hw c hcc, if_pos iv_Nle', bind_s, th _ hv, bnd_s, f1, iv_s1]
      rfl
  · rintro x w' k35 ⟨⟨ms, rfl, m1, m2⟩, rfl⟩
    show bX9_place_35 _ k35 _ _ _ w' = _
    unfold bX9_place_35
    rw [mcells_q hML, bnd_s, show qN q = aN a from eN, if_pos iv_Nle']
theorem g22 (ht : t < 512) (hg : Good FTc t w) (p r d : Int32) : ∃ w', st22 p r d w = some w' ∧ Good FTc (t + 1) w' := by
  obtain ⟨a, ha, hc, hm, hv⟩ := hg
  have hN := aN_le ha
  unfold st22
  rcases rng 4 p with ⟨s, hs, rfl⟩ | hb
  · by_cases hf : fit a s = true
    · have hF := fit_Fits ha hs hf
      refine comb FTkc (v := kv (plN (aTl a) (hNat a s) (aN a))) ha hm ?_ (fun w1 hm1 => ?_)
      · obtain ⟨w1, e1, e2, e3, e4, e5, e6⟩ := refresh_s ht ha hc hv
        refine ⟨w1, ?_, e4, e5.up, e6⟩
        unfold fX8_place
        rw [noSlot_g hs, bnd_s, if_pos rfl, ixA_iv hs (by omega), bind_s, agrees_s ha hc hs, bnd_s, hf, if_neg (by decide), e1, bnd_s, if_pos rfl, bind_s, smaller_s e3 e2 (by rw [LI_slot hs]; exact hN) (by rw [LI_slot hs]; omega) hF (fun c hcc => by rw [(hNat_i ha hs hcc).1]; exact e4.2.1 s hs c hcc), bnd_s]
      · obtain ⟨w2, e1, e2, e3, e4⟩ := mways_s ha hm1
        refine ⟨w2, ?_, e3, e4⟩
        unfold fX9_place
        rw [isSlot_g hs, bnd_s, if_neg (by decide), misFit_s ha hm1 hs, bnd_s, hf, if_neg (by decide), e1, bnd_s, mplace_s ha e3 e2 hs hF]
    · have hf : fit a s = false := by cases h : fit a s with
        | true => exact absurd h hf
        | false => rfl
      refine comb0 FTkc (v := -3) ha hc hm hv ?_ ?_
      · unfold fX8_place
        rw [noSlot_g hs, bnd_s, if_pos rfl, ixA_iv hs (by omega), bind_s, agrees_s ha hc hs, bnd_s, hf, if_pos (by decide)]
      · unfold fX9_place
        rw [isSlot_g hs, bnd_s, if_neg (by decide), misFit_s ha hm hs, bnd_s, hf, if_pos (by decide)]
  · refine comb0 FTkc (v := -1) ha hc hm hv ?_ ?_
    · unfold fX8_place
      rw [noSlot_b hb, bnd_s, if_neg (by decide)]
    · unfold fX9_place
      rw [isSlot_b hb, bnd_s, if_pos rfl]
end STEPS
