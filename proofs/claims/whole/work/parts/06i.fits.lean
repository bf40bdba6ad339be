/-! ===== the model's skin; whether a slot fits ===== -/
theorem fc_turn (f : Nat → Int) (W H c : Nat) : sm (fun d => fc f W H c ((d + 2) % 4)) 4 = sm (fc f W H c) 4 := by
  show 0 + fc f W H c 2 + fc f W H c 3 + fc f W H c 0 + fc f W H c 1 = 0 + fc f W H c 0 + fc f W H c 1 + fc f W H c 2 + fc f W H c 3
  omega
theorem mskin_s {W H : Nat} {w : Wd} (hg : MW W H w) {s : Nat} (hs : s < 4) {f : Nat → Int} (hf : ∀ c, c < W * H → w.1 100 (25 * s + c) = iv (f c) ∧ Hgt (f c)) : lp (fun _ _ _ => none) (bX9_skin_13 (iv s)) G (0 : Int32) (0 : Int32) w = some (iv (sm (skc f W H) (W * H)), w) := by
  have hWH := WH_le hg.2.1 hg.2.2.2.1
  have inner : ∀ (kk : Int32 → Int32 → Wd → Option (Int32 × Wd)) (c : Nat) (_ : c < W * H) (S : Int) (n d : Nat), d ≤ 4 → 4 - d < n → lp (fun _ _ _ _ _ => none) (bX9_skin_50 (iv s) kk) n (iv (S + sm (fun d => fc f W H c ((d + 2) % 4)) d)) (iv c) (iv (f c)) (iv d) w = kk (iv (S + sm (fc f W H c) 4)) (iv c + (1 : Int32)) w := by
    intro kk c hc S n
    induction n with
    | zero => intro d h1 h2; omega
    | succ n ih =>
      intro d h1 h2
      rw [lp_s]
      unfold bX9_skin_50 jX9_skin_88 jX9_skin_107
      by_cases z : d = 4
      · rw [if_pos (by rw [iv_4, iv_le (by omega) (by omega)]; omega), z, fc_turn]
      · have hr := nbr_rng hg.1 hg.2.1 hg.2.2.1 hg.2.2.2.1 hc ((d + 2) % 4)
        have hv := nbv_H hg.1 hg.2.1 hg.2.2.1 hg.2.2.2.1 (fun c hc => (hf c hc).2) hc ((d + 2) % 4)
        have hfc := (hf c hc).2
        unfold Hgt at hv hfc
        have nx := ih (d + 1) (by omega) (by omega)
        rw [sm_s, ← Int.add_assoc] at nx
        have fin : ∀ x : Int32, x = iv (nbv f W H c ((d + 2) % 4)) → (if iv (f c) ≤ x then (lp (fun _ _ _ _ _ => none) (bX9_skin_50 (iv s) kk) n) (iv (S + sm (fun d => fc f W H c ((d + 2) % 4)) d) + (0 : Int32)) (iv c) (iv (f c)) (iv d + (1 : Int32)) w else (lp (fun _ _ _ _ _ => none) (bX9_skin_50 (iv s) kk) n) (iv (S + sm (fun d => fc f W H c ((d + 2) % 4)) d) + (iv (f c) - x)) (iv c) (iv (f c)) (iv d + (1 : Int32)) w) = kk (iv (S + sm (fc f W H c) 4)) (iv c + (1 : Int32)) w := by
          intro x hx
          rw [hx, iv_s1]
          by_cases q : f c ≤ nbv f W H c ((d + 2) % 4)
          · have e : fc f W H c ((d + 2) % 4) = 0 := by unfold fc; omega
            rw [e] at nx
            rw [if_pos (by rw [iv_le (by omega) (by omega)]; exact q), show (0 : Int32) = iv 0 by decide, iv_add]
            exact nx
          · have e : fc f W H c ((d + 2) % 4) = f c - nbv f W H c ((d + 2) % 4) := by unfold fc; omega
            rw [e] at nx
            rw [if_neg (by rw [iv_le (by omega) (by omega)]; exact q), iv_sub, iv_add]
            exact nx
        rw [if_neg (by rw [iv_4, iv_le (by omega) (by omega)]; omega), mbeside_s hg hc (by omega), bnd_s]
        by_cases q : nbr W H c ((d + 2) % 4) = -1
        · rw [if_pos (by rw [q]; decide)]
          exact fin 0 (by unfold nbv; rw [if_pos q]; decide)
        · have e : mb (nbr W H c ((d + 2) % 4)) = nbr W H c ((d + 2) % 4) := if_neg q
          obtain ⟨m, hm⟩ : ∃ m : Nat, nbr W H c ((d + 2) % 4) = (m : Int) := ⟨(nbr W H c ((d + 2) % 4)).toNat, by omega⟩
          rw [e, if_neg (by rw [iv_m9, iv_eq (by omega) (by omega)]; omega)]
          have e9 : nbv f W H c ((d + 2) % 4) = f m := by unfold nbv; rw [if_neg q, hm]; rfl
          rw [hm, iv_25sc, gI_iv (by rw [LI_100]; omega) (by rw [LI_100]; omega), bind_s, (hf m (by omega)).1]
          exact fin _ (by rw [e9])
  have key : ∀ n i, i ≤ W * H → W * H - i < n → lp (fun _ _ _ => none) (bX9_skin_13 (iv s)) n (iv (sm (skc f W H) i)) (iv i) w = some (iv (sm (skc f W H) (W * H)), w) := by
    intro n
    induction n with
    | zero => intro i h1 h2; omega
    | succ n ih =>
      intro i h1 h2
      rw [lp_s]
      unfold bX9_skin_13 jX9_skin_45
      rw [mcells_s hg, bnd_s]
      by_cases z : i = W * H
      · rw [if_pos (by rw [iv_le (by omega) (by omega)]; omega), z]
      · have hfc := (hf i (by omega)).2
        unfold Hgt at hfc
        have nx := ih (i + 1) (by omega) (by omega)
        rw [sm_s] at nx
        have i0 := inner (lp (fun _ _ _ => none) (bX9_skin_13 (iv s)) n) i (by omega)
        rw [if_neg (by rw [iv_le (by omega) (by omega)]; omega), iv_25sc, gI_iv (by rw [LI_100]; omega) (by rw [LI_100]; omega), bind_s, (hf i (by omega)).1]
        have z0 : iv ((0 : Nat) : Int) = (0 : Int32) := by decide
        by_cases q : f i ≤ 0
        · rw [if_pos (by rw [iv_0, iv_le (by omega) (by omega)]; exact q)]
          have i1 := i0 (sm (skc f W H) i) G 0 (by omega) (by have := hG; omega)
          have e : sm (skc f W H) i + sm (fun d => fc f W H i ((d + 2) % 4)) 0 = sm (skc f W H) i + 0 := rfl
          have e2 : skc f W H i = sm (fc f W H i) 4 := by unfold skc; rw [if_neg (by omega), Int.zero_add]
          rw [e, iv_s1, z0, ← iv_add, show iv 0 = (0 : Int32) by decide] at i1
          rw [e2] at nx
          exact i1.trans nx
        · rw [if_neg (by rw [iv_0, iv_le (by omega) (by omega)]; exact q)]
          have i1 := i0 (sm (skc f W H) i + 1) G 0 (by omega) (by have := hG; omega)
          have e : sm (skc f W H) i + 1 + sm (fun d => fc f W H i ((d + 2) % 4)) 0 = sm (skc f W H) i + 1 := Int.add_zero _
          have e2 : skc f W H i = 1 + sm (fc f W H i) 4 := by unfold skc; rw [if_pos (by omega)]
          rw [e, iv_s1, z0, ← iv_add, show iv 1 = (1 : Int32) by decide] at i1
          rw [e2, ← Int.add_assoc] at nx
          exact i1.trans nx
  rw [iv_0]
  exact key G 0 (by omega) (by have := hG; omega)
def bA (p : Nat → Bool) : Nat → Bool
  | 0 => true
  | n + 1 => bA p n && p n
theorem bA_s (p : Nat → Bool) (n : Nat) : bA p (n + 1) = (bA p n && p n) := rfl
theorem bA_false {p : Nat → Bool} {i : Nat} (h : p i = false) : ∀ {n : Nat}, i < n → bA p n = false
  | 0, h1 => by omega
  | n + 1, h1 => by
    rw [bA_s]
    by_cases e : i = n
    · subst e; rw [h, Bool.and_false]
    · rw [bA_false h (n := n) (by omega), Bool.false_and]
theorem bA_iff {p : Nat → Bool} : ∀ {n : Nat}, bA p n = true ↔ ∀ i, i < n → p i = true
  | 0 => ⟨fun _ i h => by omega, fun _ => rfl⟩
  | n + 1 => by
    rw [bA_s, Bool.and_eq_true, bA_iff (n := n)]
    refine ⟨fun h i hi => ?_, fun h => ⟨fun i hi => h i (by omega), h n (by omega)⟩⟩
    by_cases e : i = n
    · subst e; exact h.2
    · exact h.1 i (by omega)
def b2i (b : Bool) : Int32 := if b = true then 1 else 0
def mxL (a : Ab) (s : Nat) (col : Int32) (l : Nat) : Int := mxN (fun i => aP a s (onL (aW a) col l i)) (lL (aW a) (aH a) col)
def okL (a : Ab) (s : Nat) (col : Int32) (l : Nat) : Bool := decide (getL col (aF a) (aS a) l = -9) || decide (getL col (aF a) (aS a) l = mxL a s col l)
def tpO (z : Int) : Int := if 0 < z then 1 else 0
def okT (a : Ab) (s c : Nat) : Bool := decide (aT a c = -9) || decide (aT a c = tpO (aP a s c))
def fit (a : Ab) (s : Nat) : Bool := bA (okL a s 1) (nL (aW a) (aH a) 1) && bA (okL a s 0) (nL (aW a) (aH a) 0) && bA (okT a s) (aN a)
theorem mxL_bd {a : Ab} (ha : AbOK a) {s : Nat} (hs : s < 4) {col : Int32} {l : Nat} (hl : l < nL (aW a) (aH a) col) : Hgt (mxL a s col l) :=
  mxN_bound (by omega) (fun i hi => (ha.2.1 s hs _ (onL_lt hl hi)).2)
theorem getL_tol {a : Ab} (ha : AbOK a) {col : Int32} {l : Nat} (hl : l < nL (aW a) (aH a) col) : Tol (getL col (aF a) (aS a) l) := by
  unfold getL
  unfold nL at hl
  by_cases e : col = 0
  · rw [if_pos e] at hl ⊢; exact ha.2.2.2.1 l hl
  · rw [if_neg e] at hl ⊢; exact ha.2.2.1 l hl
section STEPS
variable {FT : Tl → Wd → Prop} {t : Nat} {w : Wd}
theorem cells_a {a : Ab} (hc : CS a w) : fX2_cells w = some (iv ((aN a : Nat) : Int), w) := cells_s hc.1.1
theorem mcells_a {a : Ab} (hm : MS a w) : fX9_cells w = some (iv ((aN a : Nat) : Int), w) := mcells_s hm.1
theorem tallest_m {a : Ab} (ha : AbOK a) (h : CS a w) {s : Nat} (hs : s < 4) {col : Int32} {line : Nat} (hl : line < nL (aW a) (aH a) col) : fX7_tallest (6 + s) col (iv line) w = some (iv (mxL a s col line), w) := tallest_a ha h hs hl
theorem greatest_m {a : Ab} (ha : AbOK a) (h : MS a w) {s : Nat} (hs : s < 4) {col : Int32} {line : Nat} (hl : line < nL (aW a) (aH a) col) : fX9_greatestOf (iv s) col (iv line) w = some (iv (mxL a s col line), w) := greatestOf_s h.1 hs (h.slot ha hs) hl
theorem line_s {a : Ab} (ha : AbOK a) (hc : CS a w) {col : Int32} {l : Nat} (hl : l < nL (aW a) (aH a) col) : fX5_line col (iv l) w = some (iv (getL col (aF a) (aS a) l), w) := by
  have h5 := nL_le ha.1.2.1 ha.1.2.2.2 col
  unfold fX5_line fX3_ofT getL
  unfold nL at hl h5
  by_cases e : col = 0
  · rw [if_pos e] at hl h5 ⊢
    rw [gI_iv (by rw [LI_17]; omega) (by rw [LI_17]; omega), bind_s, bnd_s, hc.2.2.2.1 l hl, if_pos e]
  · rw [if_neg e] at hl h5 ⊢
    rw [gI_iv (by rw [LI_16]; omega) (by rw [LI_16]; omega), bind_s, bnd_s, hc.2.2.1 l hl, if_neg e]
theorem linesAgree_s {a : Ab} (ha : AbOK a) (hc : CS a w) {s : Nat} (hs : s < 4) (col : Int32) : fX5_linesAgree (6 + s) col w = some (b2i (bA (okL a s col) (nL (aW a) (aH a) col)), w) := by
  have h5 := nL_le ha.1.2.1 ha.1.2.2.2 col
  have key : ∀ n i, i ≤ nL (aW a) (aH a) col → nL (aW a) (aH a) col - i < n → bA (okL a s col) i = true → lp (fun _ _ => none) (bX5_linesAgree_2 (6 + s) col) n (iv i) w = some (b2i (bA (okL a s col) (nL (aW a) (aH a) col)), w) := by
    intro n
    induction n with
    | zero => intro i h1 h2; omega
    | succ n ih =>
      intro i h1 h2 hb
      rw [lp_s]
      unfold bX5_linesAgree_2 jX5_linesAgree_46
      rw [lines_s hc.1.1, bnd_s]
      by_cases z : i = nL (aW a) (aH a) col
      · rw [if_pos (by rw [iv_le (by omega) (by omega)]; omega), ← z, hb]; exact zr_1
      · have hi : i < nL (aW a) (aH a) col := by omega
        have ht := getL_tol ha hi
        have hx := mxL_bd ha hs hi
        rw [if_neg (by rw [iv_le (by omega) (by omega)]; omega), line_s ha hc hi, bnd_s, iv_s1]
        by_cases q : getL col (aF a) (aS a) i = -9
        · rw [if_pos (by rw [q]; decide)]
          exact ih (i + 1) (by omega) (by omega) (by rw [bA_s, hb]; simp [okL, q])
        · rw [if_neg (ne_m9 (by rw [ht.ti]; exact q)), tallest_m ha hc hs hi, bnd_s]
          by_cases q2 : getL col (aF a) (aS a) i = mxL a s col i
          · rw [if_pos (by rw [iv_eq ht.rg hx.rg]; exact q2)]
            exact ih (i + 1) (by omega) (by omega) (by rw [bA_s, hb]; simp [okL, q2])
          · rw [if_neg (by rw [iv_eq ht.rg hx.rg]; exact q2), bA_false (i := i) (by simp [okL, q, q2]) hi]; exact zr_0
  unfold fX5_linesAgree
  rw [iv_0]
  exact key G 0 (by omega) (by have := hG; omega) rfl
theorem topOf_s {a : Ab} (ha : AbOK a) (hc : CS a w) {s : Nat} (hs : s < 4) {c : Nat} (hcc : c < aN a) : fX5_topOf (6 + s) (iv c) w = some (iv (tpO (aP a s c)), w) := by
  have hN := aN_le ha
  have hh := (hc.slot ha hs c hcc).2
  unfold Hgt at hh
  unfold fX5_topOf tpO
  rw [gI_iv (by rw [LI_slot hs]; omega) (by rw [LI_slot hs]; omega), bind_s, (hc.slot ha hs c hcc).1]
  by_cases q : aP a s c ≤ 0
  · rw [if_pos (by rw [iv_0, iv_le (by omega) (by omega)]; exact q), if_neg (by omega)]; rfl
  · rw [if_neg (by rw [iv_0, iv_le (by omega) (by omega)]; exact q), if_pos (by omega)]; rfl
theorem tpO_rg (z : Int) : -2147483648 ≤ tpO z ∧ tpO z < 2147483648 := by unfold tpO; split <;> omega
theorem topsAgree_s {a : Ab} (ha : AbOK a) (hc : CS a w) {s : Nat} (hs : s < 4) : fX5_topsAgree (6 + s) w = some (b2i (bA (okT a s) (aN a)), w) := by
  have hN := aN_le ha
  have key : ∀ n i, i ≤ aN a → aN a - i < n → bA (okT a s) i = true → lp (fun _ _ => none) (bX5_topsAgree_2 (6 + s)) n (iv i) w = some (b2i (bA (okT a s) (aN a)), w) := by
    intro n
    induction n with
    | zero => intro i h1 h2; omega
    | succ n ih =>
      intro i h1 h2 hb
      rw [lp_s]
      unfold bX5_topsAgree_2 jX5_topsAgree_40
      rw [cells_a hc, bnd_s]
      by_cases z : i = aN a
      · rw [if_pos (by rw [iv_le (by omega) (by omega)]; omega), ← z, hb]; exact zr_1
      · have hi : i < aN a := by omega
        have ht := ha.2.2.2.2.1 i hi
        rw [if_neg (by rw [iv_le (by omega) (by omega)]; omega), gI_iv (by rw [LI_18]; omega) (by rw [LI_18]; omega), bind_s, hc.2.2.2.2.1 i hi, iv_s1]
        by_cases q : aT a i = -9
        · rw [if_pos (by rw [q]; decide)]
          exact ih (i + 1) (by omega) (by omega) (by rw [bA_s, hb]; simp [okT, q])
        · rw [if_neg (ne_m9 (by rw [ht.ti]; exact q)), bind_s, topOf_s ha hc hs hi, bnd_s]
          by_cases q2 : aT a i = tpO (aP a s i)
          · rw [if_pos (by rw [iv_eq ht.rg (tpO_rg _)]; exact q2)]
            exact ih (i + 1) (by omega) (by omega) (by rw [bA_s, hb]; simp [okT, q2])
          · rw [if_neg (by rw [iv_eq ht.rg (tpO_rg _)]; exact q2), bA_false (i := i) (by simp [okT, q, q2]) hi]; exact zr_0
  unfold fX5_topsAgree
  rw [iv_0]
  exact key G 0 (by omega) (by have := hG; omega) rfl
theorem agrees_s {a : Ab} (ha : AbOK a) (hc : CS a w) {s : Nat} (hs : s < 4) : fX5_agrees (6 + s) w = some (b2i (fit a s), w) := by
  unfold fX5_agrees
  rw [linesAgree_s ha hc hs, bnd_s]
  unfold fit
  cases h1 : bA (okL a s 1) (nL (aW a) (aH a) 1) with
  | false => rw [if_pos (by decide)]; exact zr_0
  | true =>
    rw [if_neg (by decide), linesAgree_s ha hc hs, bnd_s]
    cases h2 : bA (okL a s 0) (nL (aW a) (aH a) 0) with
    | false => rw [if_pos (by decide)]; exact zr_0
    | true =>
      rw [if_neg (by decide), topsAgree_s ha hc hs, bnd_s]
      cases h3 : bA (okT a s) (aN a) with
      | false => rw [if_pos (by decide)]; exact zr_0
      | true => rw [if_neg (by decide)]; exact zr_1
theorem g9 (hF : FTk FT) (hg : Good FT t w) (p q d : Int32) : ∃ w', st9 p q d w = some w' ∧ Good FT (t + 1) w' := by
  obtain ⟨a, ha, hc, hm, hv⟩ := hg
  unfold st9
  rcases rng 4 p with ⟨s, hs, rfl⟩ | hb
  · refine comb0 hF (v := iv (sm (skc (aP a s) (aW a) (aH a)) (aN a))) ha hc hm hv ?_ ?_
    · unfold fX8_skin
      rw [noSlot_g hs, bnd_s, if_pos rfl, ixA_iv hs (by omega), bind_s, openFaces_s hc.1 (by rw [LI_slot hs]; exact aN_le ha) (by rw [LI_slot hs]; omega) (hc.slot ha hs), bnd_s]
    · unfold fX9_skin
      rw [isSlot_g hs, bnd_s, if_neg (by decide), mskin_s hm.1 hs (hm.slot ha hs)]
  · refine comb0 hF (v := -1) ha hc hm hv ?_ ?_
    · unfold fX8_skin
      rw [noSlot_b hb, bnd_s, if_neg (by decide)]
    · unfold fX9_skin
      rw [isSlot_b hb, bnd_s, if_pos rfl]
end STEPS
