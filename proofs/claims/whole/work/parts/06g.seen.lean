/-! ===== towers seen along a line; what is told, counted ===== -/
def sN (f : Nat → Int) : Nat → Int := sm (fun i => if mxN f i < f i then 1 else 0)
theorem sN_s (f : Nat → Int) (n : Nat) : sN f (n + 1) = sN f n + (if mxN f n < f n then 1 else 0) := rfl
theorem sN_bd (f : Nat → Int) (n : Nat) : 0 ≤ sN f n ∧ sN f n ≤ n := by
  have h := sm_bound (f := fun i => if mxN f i < f i then (1 : Int) else 0) (lo := 0) (hi := 1) (n := n) (fun i _ => by split <;> omega)
  unfold sN; omega
def colD (D : Nat) : Int32 := if D % 2 = 1 then 1 else 0
def farD (D len i : Nat) : Nat := if D < 2 then i else len - 1 - i
theorem along_s {D : Nat} (h : D < 4) (w : Wd) : fX7_alongColumn (iv D) w = some (colD D, w) := by
  unfold fX7_alongColumn jX7_alongColumn_10 colD
  rcases (show D = 0 ∨ D = 1 ∨ D = 2 ∨ D = 3 by omega) with rfl | rfl | rfl | rfl
  · rw [if_neg (by decide), if_neg (by decide)]; exact zr_0
  · rw [if_pos (by decide)]; exact zr_1
  · rw [if_neg (by decide), if_neg (by decide)]; exact zr_0
  · rw [if_neg (by decide), if_pos (by decide)]; exact zr_1
theorem farD_lt {D len i : Nat} (h : i < len) : farD D len i < len := by unfold farD; split <;> omega
theorem iv_far {D len i : Nat} (hD : ¬ D < 2) (h : i < len) : iv len - (1 : Int32) - iv i = iv ((farD D len i : Nat) : Int) := by
  unfold farD
  rw [if_neg hD, iv_1, iv_sub, iv_sub]
  congr 1; omega
theorem towers_s {W H : Nat} {w : Wd} (hg : GW W H w) {k : Nat} (hk : W * H ≤ LI k) (hk2 : LI k ≤ 2000) {f : Nat → Int} (hf : ∀ c, c < W * H → w.1 k c = iv (f c) ∧ Hgt (f c)) {D : Nat} (hD : D < 4) {line : Nat} (hl : line < nL W H (colD D)) : fX7_towersSeen k (iv D) (iv line) w = some (iv (sN (fun i => f (onL W (colD D) line (farD D (lL W H (colD D)) i))) (lL W H (colD D))), w) := by
  have hWH := WH_le hg.2.1 hg.2.2.2.1
  have hL5 := lL_le hg.2.1 hg.2.2.2.1 (colD D)
  unfold fX7_towersSeen
  rw [along_s hD, bnd_s, length_s hg, bnd_s]
  generalize hc : colD D = col at *
  generalize hlen : lL W H col = len at *
  generalize hff : (fun i => f (onL W col line (farD D len i))) = g
  have hgi : ∀ i, g i = f (onL W col line (farD D len i)) := fun i => by rw [← hff]
  have hb : ∀ i, i < len → onL W col line (farD D len i) < W * H := fun i hi => onL_lt hl (by rw [hlen]; exact farD_lt hi)
  have key : ∀ n i, i ≤ len → len - i < n → lp (fun _ _ _ _ _ _ => none) (bX7_towersSeen_26 k (iv D) (iv line)) n col (iv len) (iv (sN g i)) (iv (mxN g i)) (iv i) w = some (iv (sN g len), w) := by
    intro n
    induction n with
    | zero => intro i h1 h2; omega
    | succ n ih =>
      intro i h1 h2
      rw [lp_s]
      unfold bX7_towersSeen_26 jX7_towersSeen_50 jX7_towersSeen_82
      by_cases z : i = len
      · rw [if_pos (by rw [iv_le (by omega) (by omega)]; omega), z]
      · have ho := hb i (by omega)
        have hfo := hf _ ho
        rw [← hgi i] at hfo
        have hfb := hfo.2
        have hbm := mxN_bound (f := g) (hi := 4) (by omega) (n := i) (fun j hj => by rw [hgi]; exact (hf _ (hb j (by omega))).2.2)
        unfold Hgt at hfb
        have nx := ih (i + 1) (by omega) (by omega)
        rw [sN_s, mxN_s] at nx
        have fin : (if iv (g i) ≤ iv (mxN g i) then (lp (fun _ _ _ _ _ _ => none) (bX7_towersSeen_26 k (iv D) (iv line)) n) col (iv len) (iv (sN g i)) (iv (mxN g i)) (iv i + (1 : Int32)) w else (lp (fun _ _ _ _ _ _ => none) (bX7_towersSeen_26 k (iv D) (iv line)) n) col (iv len) (iv (sN g i) + (1 : Int32)) (iv (g i)) (iv i + (1 : Int32)) w) = some (iv (sN g len), w) := by
          rw [iv_s1]
          by_cases q : g i ≤ mxN g i
          · rw [if_pos (by rw [iv_le (by omega) (by omega)]; exact q)]
            rw [if_neg (by omega), show max (mxN g i) (g i) = mxN g i by omega, Int.add_zero] at nx
            exact nx
          · rw [if_neg (by rw [iv_le (by omega) (by omega)]; exact q), iv_1, iv_add]
            rw [if_pos (by omega), show max (mxN g i) (g i) = g i by omega] at nx
            exact nx
        rw [if_neg (by rw [iv_le (by omega) (by omega)]; omega)]
        by_cases hd : D < 2
        · rw [if_neg (by rw [iv_2, iv_le (by omega) (by omega)]; omega)]
          have e9 : farD D len i = i := if_pos hd
          have e8 : w.1 k (onL W col line i) = iv (g i) := by rw [← hfo.1, e9]
          rw [e9] at ho
          rw [onLine_s hg, bnd_s, gI_iv (by omega) hk2, bind_s, e8]
          exact fin
        · rw [if_pos (by rw [iv_2, iv_le (by omega) (by omega)]; omega), iv_far hd (by omega), onLine_s hg, bnd_s, gI_iv (by omega) hk2, bind_s, hfo.1]
          exact fin
  rw [iv_0]
  exact key G 0 (by omega) (by have := hG; omega)
theorem mseen_s {W H : Nat} {w : Wd} (hg : MW W H w) {s : Nat} (hs : s < 4) {f : Nat → Int} (hf : ∀ c, c < W * H → w.1 100 (25 * s + c) = iv (f c) ∧ Hgt (f c)) {D : Nat} (hD : D < 4) {line : Nat} (hl : line < nL W H (colD D)) : jX9_seen_36 (iv s) (iv D) (iv line) (colD D) w = some (iv (sN (fun i => f (onL W (colD D) line (farD D (lL W H (colD D)) i))) (lL W H (colD D))), w) := by
  have hWH := WH_le hg.2.1 hg.2.2.2.1
  have hL5 := lL_le hg.2.1 hg.2.2.2.1 (colD D)
  unfold jX9_seen_36
  rw [isLine_g hg hl, bnd_s, if_neg (by decide), mlength_s hg, bnd_s]
  generalize hc : colD D = col at *
  generalize hlen : lL W H col = len at *
  generalize hff : (fun i => f (onL W col line (farD D len i))) = g
  have hgi : ∀ i, g i = f (onL W col line (farD D len i)) := fun i => by rw [← hff]
  have hb : ∀ i, i < len → onL W col line (farD D len i) < W * H := fun i hi => onL_lt hl (by rw [hlen]; exact farD_lt hi)
  have key : ∀ n i, i ≤ len → len - i < n → lp (fun _ _ _ _ _ _ => none) (bX9_seen_67 (iv s) (iv D) (iv line)) n col (iv (sN g i)) (iv (mxN g i)) (iv len) (iv i) w = some (iv (sN g len), w) := by
    intro n
    induction n with
    | zero => intro i h1 h2; omega
    | succ n ih =>
      intro i h1 h2
      rw [lp_s]
      unfold bX9_seen_67 jX9_seen_103 jX9_seen_124 jX9_seen_141
      by_cases z : i = len
      · rw [if_pos (by rw [iv_le (by omega) (by omega)]; omega), z]
      · have ho := hb i (by omega)
        have hfo := hf _ ho
        rw [← hgi i] at hfo
        have hfb := hfo.2
        have hbm := mxN_bound (f := g) (hi := 4) (by omega) (n := i) (fun j hj => by rw [hgi]; exact (hf _ (hb j (by omega))).2.2)
        unfold Hgt at hfb
        have nx := ih (i + 1) (by omega) (by omega)
        rw [sN_s, mxN_s] at nx
        rw [if_neg (by rw [iv_le (by omega) (by omega)]; omega)]
        have e7 : (if (2 : Int32) ≤ iv D then iv len - (1 : Int32) - iv i else iv i) = iv ((farD D len i : Nat) : Int) := by
          by_cases hd : D < 2
          · rw [if_neg (by rw [iv_2, iv_le (by omega) (by omega)]; omega)]
            have e9 : farD D len i = i := if_pos hd
            rw [e9]
          · rw [if_pos (by rw [iv_2, iv_le (by omega) (by omega)]; omega), iv_far hd (by omega)]
        have body : ∀ x : Int32, x = iv ((farD D len i : Nat) : Int) → (bnd (fX9_cellOf col (iv line) x w) fun x10 w11 => (gI w11 100 ((25 : Int32) * iv s + x10)).bind fun x12 => if x12 ≤ iv (mxN g i) then (if x12 ≤ iv (mxN g i) then (lp (fun _ _ _ _ _ _ => none) (bX9_seen_67 (iv s) (iv D) (iv line)) n) col (iv (sN g i) + (0 : Int32)) (iv (mxN g i)) (iv len) (iv i + (1 : Int32)) w11 else (lp (fun _ _ _ _ _ _ => none) (bX9_seen_67 (iv s) (iv D) (iv line)) n) col (iv (sN g i) + (0 : Int32)) x12 (iv len) (iv i + (1 : Int32)) w11) else (if x12 ≤ iv (mxN g i) then (lp (fun _ _ _ _ _ _ => none) (bX9_seen_67 (iv s) (iv D) (iv line)) n) col (iv (sN g i) + (1 : Int32)) (iv (mxN g i)) (iv len) (iv i + (1 : Int32)) w11 else (lp (fun _ _ _ _ _ _ => none) (bX9_seen_67 (iv s) (iv D) (iv line)) n) col (iv (sN g i) + (1 : Int32)) x12 (iv len) (iv i + (1 : Int32)) w11)) = some (iv (sN g len), w) := by
          intro x hx
          rw [hx, monLine_s hg, bnd_s, iv_25sc, gI_iv (by rw [LI_100]; omega) (by rw [LI_100]; omega), bind_s, hfo.1, iv_s1]
          by_cases q : g i ≤ mxN g i
          · have q' : iv (g i) ≤ iv (mxN g i) := by rw [iv_le (by omega) (by omega)]; exact q
            rw [if_pos q', if_pos q', iv_0, iv_add]
            rw [if_neg (by omega), show max (mxN g i) (g i) = mxN g i by omega] at nx
            exact nx
          · have q' : ¬ iv (g i) ≤ iv (mxN g i) := by rw [iv_le (by omega) (by omega)]; exact q
            rw [if_neg q', if_neg q', iv_1, iv_add]
            rw [if_pos (by omega), show max (mxN g i) (g i) = g i by omega] at nx
            exact nx
        by_cases hd : (2 : Int32) ≤ iv D
        · rw [if_pos hd]
          rw [if_pos hd] at e7
          exact body _ e7
        · rw [if_neg hd]
          rw [if_neg hd] at e7
          exact body _ e7
  rw [iv_0]
  exact key G 0 (by omega) (by have := hG; omega)
section STEPS
variable {FT : Tl → Wd → Prop} {t : Nat} {w : Wd}
theorem mcol_s {D : Nat} (hD : D < 4) {β : Type} {F : Int32 → Option β} : ((rmI (iv D) (2 : Int32)).bind fun x5 => if x5 = (1 : Int32) then F 1 else F 0) = F (colD D) := by
  rw [iv_2, show iv 2 = iv ((2 : Nat) : Int) from rfl, rm_iv (by omega) (by omega) (by omega), bind_s]
  unfold colD
  rcases (show D = 0 ∨ D = 1 ∨ D = 2 ∨ D = 3 by omega) with rfl | rfl | rfl | rfl
  · rw [if_neg (by decide), if_neg (by decide)]
  · rw [if_pos (by decide), if_pos (by decide)]
  · rw [if_neg (by decide), if_neg (by decide)]
  · rw [if_pos (by decide), if_pos (by decide)]
theorem g8 (hF : FTk FT) (hg : Good FT t w) (p q d : Int32) : ∃ w', st8 p q d w = some w' ∧ Good FT (t + 1) w' := by
  obtain ⟨a, ha, hc, hm, hv⟩ := hg
  have hN := aN_le ha
  unfold st8
  rcases rng 4 p with ⟨s, hs, rfl⟩ | hb
  · rcases rng 4 q with ⟨D, hD, rfl⟩ | hb2
    · have c0 : fX8_seen (iv s) (iv D) d w = bnd (fX8_noLine (colD D) d w) fun x5 w6 => if x5 = 0 then (ixA 4 (iv s)).bind fun j7 => bnd (fX7_towersSeen (6 + j7) (iv D) d w6) fun x8 w9 => some (x8, w9) else some ((-1 : Int32), w6) := by
        unfold fX8_seen
        rw [noSlot_g hs, bnd_s, if_pos rfl, if_neg (by rw [iv_0, iv_lt (by omega) (by omega)]; omega), if_pos (by rw [iv_4, iv_lt (by omega) (by omega)]; omega), along_s hD, bnd_s]
      have m0 : fX9_seen (iv s) (iv D) d w = jX9_seen_36 (iv s) (iv D) d (colD D) w := by
        unfold fX9_seen
        rw [isSlot_g hs, bnd_s, if_neg (by decide), in_g w (by rw [L0, toInt_iv (by omega) (by omega)]; omega) (by rw [L3, toInt_iv (by omega) (by omega)]; omega), bnd_s, if_neg (by decide)]
        exact mcol_s hD (F := fun x => jX9_seen_36 (iv s) (iv D) d x w)
      rcases rng (nL (aW a) (aH a) (colD D)) d with ⟨c, hcc, rfl⟩ | hb3
      · refine comb0 hF (v := iv (sN (fun i => aP a s (onL (aW a) (colD D) c (farD D (lL (aW a) (aH a) (colD D)) i))) (lL (aW a) (aH a) (colD D)))) ha hc hm hv ?_ ?_
        · rw [c0, noLine_g hc.1.1 hcc, bnd_s, if_pos rfl, ixA_iv hs (by omega), bind_s, towers_s hc.1.1 (by rw [LI_slot hs]; exact hN) (by rw [LI_slot hs]; omega) (hc.slot ha hs) hD hcc, bnd_s]
        · rw [m0, mseen_s hm.1 hs (hm.slot ha hs) hD hcc]
      · refine comb0 hF (v := -1) ha hc hm hv ?_ ?_
        · rw [c0, noLine_b hc.1.1 hb3, bnd_s, if_neg (by decide)]
        · rw [m0]
          unfold jX9_seen_36
          rw [isLine_b hm.1 hb3, bnd_s, if_pos rfl]
    · refine comb0 hF (v := -2) ha hc hm hv ?_ ?_
      · unfold fX8_seen
        rw [noSlot_g hs, bnd_s, if_pos rfl]
        by_cases e : q < 0
        · rw [if_pos e]
        · rw [if_neg e, if_neg]
          rw [Int32.lt_iff_toInt_lt, ti0] at e
          rw [Int32.lt_iff_toInt_lt, ti4]; omega
      · unfold fX9_seen
        rw [isSlot_g hs, bnd_s, if_neg (by decide), in_b w (by rw [L0, L3]; omega), bnd_s, if_pos rfl]
  · refine comb0 hF (v := -1) ha hc hm hv ?_ ?_
    · unfold fX8_seen
      rw [noSlot_b hb, bnd_s, if_neg (by decide)]
    · unfold fX9_seen
      rw [isSlot_b hb, bnd_s, if_pos rfl]
end STEPS
