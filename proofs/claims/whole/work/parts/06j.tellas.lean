/-! ===== fits; told as a slot has it ===== -/
theorem nL_1 (W H : Nat) : nL W H 1 = W := if_neg (by decide)
theorem nL_0 (W H : Nat) : nL W H 0 = H := if_pos rfl
theorem getL_1 (f g : Nat → Int) (l : Nat) : getL 1 f g l = f l := if_neg (by decide)
theorem getL_0 (f g : Nat → Int) (l : Nat) : getL 0 f g l = g l := if_pos rfl
theorem b2i_0 {b : Bool} : b2i b = 0 ↔ b = false := by cases b <;> decide
section STEPS
variable {FT : Tl → Wd → Prop} {t : Nat} {w : Wd}
theorem misFit_s {a : Ab} (ha : AbOK a) (hm : MS a w) {s : Nat} (hs : s < 4) : fX9_isFit (iv s) w = some (b2i (fit a s), w) := by
  have hN := aN_le ha
  have hW5 := ha.1.2.1
  have hH5 := ha.1.2.2.2
  have k3 : ∀ (B : Bool) (n i : Nat), i ≤ aN a → aN a - i < n → lp (fun _ _ _ => none) (bX9_isFit_110 (iv s)) n (b2i (B && bA (okT a s) i)) (iv i) w = some (b2i (B && bA (okT a s) (aN a)), w) := by
    intro B n
    induction n with
    | zero => intro i h1 h2; omega
    | succ n ih =>
      intro i h1 h2
      rw [lp_s]
      unfold bX9_isFit_110 jX9_isFit_158 jX9_isFit_161 jX9_isFit_165 jX9_isFit_166
      rw [mcells_a hm, bnd_s]
      by_cases z : i = aN a
      · rw [if_pos (by rw [iv_le (by omega) (by omega)]; omega), z]
        cases B && bA (okT a s) (aN a)
        · exact zr_0
        · exact zr_1
      · have hi : i < aN a := by omega
        have ht := ha.2.2.2.2.1 i hi
        have hh := ha.2.1 s hs i hi
        unfold Hgt at hh
        have nx := ih (i + 1) (by omega) (by omega)
        rw [bA_s, ← Bool.and_assoc] at nx
        rw [if_neg (by rw [iv_le (by omega) (by omega)]; omega), iv_s1]
        cases hb : B && bA (okT a s) i with
        | false =>
          rw [hb, Bool.false_and] at nx
          rw [if_pos (by decide)]
          exact nx
        | true =>
          rw [hb, Bool.true_and] at nx
          rw [if_neg (by decide), gI_iv (by rw [LI_103]; omega) (by rw [LI_103]; omega), bind_s, hm.2.2.2.2.1 i hi]
          by_cases q : aT a i = -9
          · rw [if_pos (by rw [q]; decide)]
            rw [show okT a s i = true by simp [okT, q]] at nx
            exact nx
          · rw [if_neg (ne_m9 (by rw [ht.ti]; exact q)), bind_s, iv_25sc, gI_iv (by rw [LI_100]; omega) (by rw [LI_100]; omega), bind_s, (hm.slot ha hs i hi).1]
            have fin : ∀ x : Int32, x = iv (tpO (aP a s i)) → (if iv (aT a i) = x then (lp (fun _ _ _ => none) (bX9_isFit_110 (iv s)) n) (1 : Int32) (iv ((i + 1 : Nat) : Int)) w else (lp (fun _ _ _ => none) (bX9_isFit_110 (iv s)) n) (0 : Int32) (iv ((i + 1 : Nat) : Int)) w) = some (b2i (B && bA (okT a s) (aN a)), w) := by
              intro x hx
              rw [hx]
              by_cases q2 : aT a i = tpO (aP a s i)
              · rw [if_pos (by rw [iv_eq ht.rg (tpO_rg _)]; exact q2)]
                rw [show okT a s i = true by simp [okT, q2]] at nx
                exact nx
              · rw [if_neg (by rw [iv_eq ht.rg (tpO_rg _)]; exact q2)]
                rw [show okT a s i = false by simp [okT, q, q2]] at nx
                exact nx
            by_cases q3 : aP a s i ≤ 0
            · rw [if_pos (by rw [iv_0, iv_le (by omega) (by omega)]; exact q3)]
              exact fin 0 (by unfold tpO; rw [if_neg (by omega)]; rfl)
            · rw [if_neg (by rw [iv_0, iv_le (by omega) (by omega)]; exact q3)]
              exact fin 1 (by unfold tpO; rw [if_pos (by omega)]; rfl)
  have k2 : ∀ (B : Bool) (n i : Nat), i ≤ aH a → aH a - i < n → lp (fun _ _ _ => none) (bX9_isFit_57 (iv s)) n (b2i (B && bA (okL a s 0) i)) (iv i) w = some (b2i (B && bA (okL a s 0) (aH a) && bA (okT a s) (aN a)), w) := by
    intro B n
    induction n with
    | zero => intro i h1 h2; omega
    | succ n ih =>
      intro i h1 h2
      rw [lp_s]
      unfold bX9_isFit_57 jX9_isFit_96 jX9_isFit_100 jX9_isFit_101
      rw [hm.1.2.2.2.2.2]
      by_cases z : i = aH a
      · rw [if_pos (by rw [iv_le (by omega) (by omega)]; omega), z, show (0 : Int32) = iv ((0 : Nat) : Int) by decide]
        have h0 := k3 (B && bA (okL a s 0) (aH a)) G 0 (by omega) (by have := hG; omega)
        rw [show bA (okT a s) 0 = true from rfl, Bool.and_true] at h0
        exact h0
      · have hi : i < aH a := by omega
        have hi' : i < nL (aW a) (aH a) 0 := by rw [nL_0]; exact hi
        have ht := getL_tol ha hi'
        have hx := mxL_bd ha hs hi'
        have nx := ih (i + 1) (by omega) (by omega)
        rw [bA_s, ← Bool.and_assoc] at nx
        rw [if_neg (by rw [iv_le (by omega) (by omega)]; omega), iv_s1]
        cases hb : B && bA (okL a s 0) i with
        | false =>
          rw [hb, Bool.false_and] at nx
          rw [if_pos (by decide)]
          exact nx
        | true =>
          rw [hb, Bool.true_and] at nx
          have e0 : aS a i = getL 0 (aF a) (aS a) i := (getL_0 _ _ _).symm
          rw [if_neg (by decide), gI_iv (by rw [LI_102]; omega) (by rw [LI_102]; omega), bind_s, hm.2.2.2.1 i hi, e0]
          by_cases q : getL 0 (aF a) (aS a) i = -9
          · rw [if_pos (by rw [q]; decide)]
            rw [show okL a s 0 i = true by simp [okL, q]] at nx
            exact nx
          · rw [if_neg (ne_m9 (by rw [ht.ti]; exact q)), bind_s, greatest_m ha hm hs hi', bnd_s]
            by_cases q2 : getL 0 (aF a) (aS a) i = mxL a s 0 i
            · rw [if_pos (by rw [iv_eq ht.rg hx.rg]; exact q2)]
              rw [show okL a s 0 i = true by simp [okL, q2]] at nx
              exact nx
            · rw [if_neg (by rw [iv_eq ht.rg hx.rg]; exact q2)]
              rw [show okL a s 0 i = false by simp [okL, q, q2]] at nx
              exact nx
  have k1 : ∀ (n i : Nat), i ≤ aW a → aW a - i < n → lp (fun _ _ _ => none) (bX9_isFit_4 (iv s)) n (b2i (bA (okL a s 1) i)) (iv i) w = some (b2i (bA (okL a s 1) (aW a) && bA (okL a s 0) (aH a) && bA (okT a s) (aN a)), w) := by
    intro n
    induction n with
    | zero => intro i h1 h2; omega
    | succ n ih =>
      intro i h1 h2
      rw [lp_s]
      unfold bX9_isFit_4 jX9_isFit_43 jX9_isFit_47 jX9_isFit_48
      rw [hm.1.2.2.2.2.1]
      by_cases z : i = aW a
      · rw [if_pos (by rw [iv_le (by omega) (by omega)]; omega), z, show (0 : Int32) = iv ((0 : Nat) : Int) by decide]
        have h0 := k2 (bA (okL a s 1) (aW a)) G 0 (by omega) (by have := hG; omega)
        rw [show bA (okL a s 0) 0 = true from rfl, Bool.and_true] at h0
        exact h0
      · have hi : i < aW a := by omega
        have hi' : i < nL (aW a) (aH a) 1 := by rw [nL_1]; exact hi
        have ht := getL_tol ha hi'
        have hx := mxL_bd ha hs hi'
        have nx := ih (i + 1) (by omega) (by omega)
        rw [bA_s] at nx
        rw [if_neg (by rw [iv_le (by omega) (by omega)]; omega), iv_s1]
        cases hb : bA (okL a s 1) i with
        | false =>
          rw [hb, Bool.false_and] at nx
          rw [if_pos (by decide)]
          exact nx
        | true =>
          rw [hb, Bool.true_and] at nx
          have e0 : aF a i = getL 1 (aF a) (aS a) i := (getL_1 _ _ _).symm
          rw [if_neg (by decide), gI_iv (by rw [LI_101]; omega) (by rw [LI_101]; omega), bind_s, hm.2.2.1 i hi, e0]
          by_cases q : getL 1 (aF a) (aS a) i = -9
          · rw [if_pos (by rw [q]; decide)]
            rw [show okL a s 1 i = true by simp [okL, q]] at nx
            exact nx
          · rw [if_neg (ne_m9 (by rw [ht.ti]; exact q)), bind_s, greatest_m ha hm hs hi', bnd_s]
            by_cases q2 : getL 1 (aF a) (aS a) i = mxL a s 1 i
            · rw [if_pos (by rw [iv_eq ht.rg hx.rg]; exact q2)]
              rw [show okL a s 1 i = true by simp [okL, q2]] at nx
              exact nx
            · rw [if_neg (by rw [iv_eq ht.rg hx.rg]; exact q2)]
              rw [show okL a s 1 i = false by simp [okL, q, q2]] at nx
              exact nx
  unfold fX9_isFit fit
  rw [nL_1, nL_0, show (0 : Int32) = iv ((0 : Nat) : Int) by decide]
  exact k1 G 0 (by omega) (by have := hG; omega)
theorem g16 (hF : FTk FT) (hg : Good FT t w) (p q d : Int32) : ∃ w', st16 p q d w = some w' ∧ Good FT (t + 1) w' := by
  obtain ⟨a, ha, hc, hm, hv⟩ := hg
  unfold st16
  rcases rng 4 p with ⟨s, hs, rfl⟩ | hb
  · refine comb0 hF (v := b2i (fit a s)) ha hc hm hv ?_ ?_
    · unfold fX8_fits
      rw [noSlot_g hs, bnd_s, if_pos rfl, ixA_iv hs (by omega), bind_s, agrees_s ha hc hs, bnd_s]
      cases fit a s
      · rw [if_pos (by decide)]; rfl
      · rw [if_neg (by decide)]; rfl
    · unfold fX9_fits
      rw [isSlot_g hs, bnd_s, if_neg (by decide), misFit_s ha hm hs, bnd_s]
      cases fit a s
      · rw [if_pos (by decide)]; rfl
      · rw [if_neg (by decide)]; rfl
  · refine comb0 hF (v := -1) ha hc hm hv ?_ ?_
    · unfold fX8_fits
      rw [noSlot_b hb, bnd_s, if_neg (by decide)]
    · unfold fX9_fits
      rw [isSlot_b hb, bnd_s, if_pos rfl]
/-- the lines told one by one as a slot has them -/
def tlA (s : Nat) (col : Int32) (a : Ab) : Nat → Ab
  | 0 => a
  | i + 1 => aTell (tlA s col a i) col i (mxL a s col i)
theorem tlA_1 (s : Nat) (col : Int32) (a : Ab) : ∀ i, (tlA s col a i).1 = a.1
  | 0 => rfl
  | i + 1 => tlA_1 s col a i
theorem tlA_P (s : Nat) (col : Int32) (a : Ab) : ∀ i, (tlA s col a i).2.1 = a.2.1
  | 0 => rfl
  | i + 1 => tlA_P s col a i
theorem mxL_eq {a a' : Ab} (h1 : a'.1 = a.1) (h2 : a'.2.1 = a.2.1) (s : Nat) (col : Int32) (l : Nat) : mxL a' s col l = mxL a s col l := by
  unfold mxL aP aW aH; rw [h1, h2]
theorem getL_set {col : Int32} {f g : Nat → Int} {line l : Nat} {z : Int} (h : l ≠ line) : getL col (setL col f g line z).1 (setL col f g line z).2 l = getL col f g l := by
  unfold getL setL
  by_cases e : col = 0
  · rw [if_pos e, if_pos e, if_pos e]; exact if_neg h
  · rw [if_neg e, if_neg e, if_neg e]; exact if_neg h
theorem tlA_get (s : Nat) (col : Int32) (a : Ab) : ∀ i l, i ≤ l → getL col (aF (tlA s col a i)) (aS (tlA s col a i)) l = getL col (aF a) (aS a) l
  | 0, _, _ => rfl
  | i + 1, l, h => by
    have e : getL col (aF (tlA s col a (i + 1))) (aS (tlA s col a (i + 1))) l = getL col (aF (tlA s col a i)) (aS (tlA s col a i)) l := getL_set (by omega)
    rw [e]; exact tlA_get s col a i l (by omega)
theorem tlA_ok {a : Ab} (ha : AbOK a) {s : Nat} (hs : s < 4) (col : Int32) : ∀ i, i ≤ nL (aW a) (aH a) col → AbOK (tlA s col a i)
  | 0, _ => ha
  | i + 1, h => (tlA_ok ha hs col i (by omega)).tell col i (Or.inr (mxL_bd ha hs (by omega)))
/-- how many lines are told otherwise -/
def dfL (a : Ab) (s : Nat) (col : Int32) : Nat → Int := fun l => if getL col (aF a) (aS a) l = mxL a s col l then 0 else 1
theorem putLinesAs_s {a : Ab} (ha : AbOK a) (hc : CS a w) {s : Nat} (hs : s < 4) (col : Int32) : ∃ w1, fX5_putLinesAs (6 + s) col w = some (iv (sm (dfL a s col) (nL (aW a) (aH a) col)), w1) ∧ CS (tlA s col a (nL (aW a) (aH a) col)) w1 ∧ w1.1 14 4 = w.1 14 4 + iv (nL (aW a) (aH a) col : Nat) ∧ Kp (fun k => k ≠ 14 ∧ k ≠ 16 ∧ k ≠ 17) w w1 := by
  have h5 := nL_le ha.1.2.1 ha.1.2.2.2 col
  have hk := col1617 col
  generalize hn : nL (aW a) (aH a) col = N at *
  have key : ∀ n i w', i ≤ N → N - i < n → CS (tlA s col a i) w' → w'.1 14 4 = w.1 14 4 + iv i → Kp (fun k => k ≠ 14 ∧ k ≠ 16 ∧ k ≠ 17) w w' → ∃ w1, lp (fun _ _ _ => none) (bX5_putLinesAs_5 (6 + s) col) n (iv (sm (dfL a s col) i)) (iv i) w' = some (iv (sm (dfL a s col) N), w1) ∧ CS (tlA s col a N) w1 ∧ w1.1 14 4 = w.1 14 4 + iv N ∧ Kp (fun k => k ≠ 14 ∧ k ≠ 16 ∧ k ≠ 17) w w1 := by
    intro n
    induction n with
    | zero => intro i w' h1 h2; omega
    | succ n ih =>
      intro i w' h1 h2 hc' h14 hkp
      have hd : nL (aW (tlA s col a i)) (aH (tlA s col a i)) col = N := by
        have e : (tlA s col a i).1 = a.1 := tlA_1 s col a i
        unfold aW aH; rw [e]; exact hn
      have ha' := tlA_ok ha hs col i (by omega)
      rw [lp_s]
      unfold bX5_putLinesAs_5 jX5_putLinesAs_48
      rw [lines_s hc'.1.1, bnd_s, hd]
      by_cases z : i = N
      · subst z
        rw [if_pos (by rw [iv_le (by omega) (by omega)]; omega)]
        exact ⟨w', rfl, hc', h14, hkp⟩
      · have hi : i < nL (aW (tlA s col a i)) (aH (tlA s col a i)) col := by omega
        have ht := getL_tol ha (col := col) (l := i) (by omega)
        have hx := mxL_bd ha hs (col := col) (l := i) (by omega)
        have e1 : mxL (tlA s col a i) s col i = mxL a s col i := mxL_eq (tlA_1 s col a i) (tlA_P s col a i) s col i
        rw [if_neg (by rw [iv_le (by omega) (by omega)]; omega), tallest_m ha' hc' hs hi, bnd_s, e1, putLine_s ha' hc' hi, bnd_s, tlA_get s col a i i (Nat.le_refl _), iv_s1]
        have nx := ih (i + 1) (uI (uI w' 14 4 (w'.1 14 4 + 1)) (if col = 0 then 17 else 16) i (iv (mxL a s col i))) (by omega) (by omega) (hc'.tell col i _ _) (by
          rw [uI_row (by omega), uI_same, h14, ← iv_s1, Int32.add_assoc]) (hkp.trans ((Kp.uI (fun z => z.1 rfl)).trans (Kp.uI (fun q => by omega))))
        rw [sm_s] at nx
        by_cases q : getL col (aF a) (aS a) i = mxL a s col i
        · rw [if_pos (by rw [iv_eq ht.rg hx.rg]; exact q)]
          rw [show dfL a s col i = 0 from if_pos q, Int.add_zero] at nx
          exact nx
        · rw [if_neg (by rw [iv_eq ht.rg hx.rg]; exact q), iv_1, iv_add]
          rw [show dfL a s col i = 1 from if_neg q] at nx
          exact nx
  unfold fX5_putLinesAs
  rw [iv_0]
  exact key G 0 w (by omega) (by have := hG; omega) hc (by rw [show iv ((0 : Nat) : Int) = 0 by decide, Int32.add_zero]) Kp.rf
end STEPS
