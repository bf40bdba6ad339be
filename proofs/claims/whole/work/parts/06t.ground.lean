/-! ===== a new ground; the start ===== -/
theorem atOrBeyond_s {W H : Nat} {w : Wd} (hg : GW W H w) {X Y : Int} (hX : -5 ≤ X ∧ X ≤ 10) (hY : -5 ≤ Y ∧ Y ≤ 10) : fX2_atOrBeyond (iv X) (iv Y) w = some (iv (if (0 ≤ X ∧ X < W) ∧ (0 ≤ Y ∧ Y < H) then Y * W + X else -1), w) := by
  have h2 := hg.2.1
  have h4 := hg.2.2.2.1
  unfold fX2_atOrBeyond jX2_atOrBeyond_24 fX2_at
  rw [hg.2.2.2.2.1, hg.2.2.2.2.2]
  have m1 : (-1 : Int32) = iv (-1) := by decide
  by_cases e1 : X < 0
  · rw [if_pos (by rw [iv_0, iv_lt (by omega) (by omega)]; exact e1), if_neg (by omega), m1]
  · rw [if_neg (by rw [iv_0, iv_lt (by omega) (by omega)]; exact e1)]
    by_cases e2 : (W : Int) ≤ X
    · rw [if_pos (by rw [iv_le (by omega) (by omega)]; exact e2), if_neg (by omega), m1]
    · rw [if_neg (by rw [iv_le (by omega) (by omega)]; exact e2)]
      by_cases e3 : Y < 0
      · rw [if_pos (by rw [iv_0, iv_lt (by omega) (by omega)]; exact e3), if_neg (by omega), m1]
      · rw [if_neg (by rw [iv_0, iv_lt (by omega) (by omega)]; exact e3)]
        by_cases e4 : Y < (H : Int)
        · rw [if_pos (by rw [iv_lt (by omega) (by omega)]; exact e4), if_pos (by omega), bnd_s, iv_mul, iv_add]
        · rw [if_neg (by rw [iv_lt (by omega) (by omega)]; exact e4), if_neg (by omega), m1]
theorem xy_of {W x y : Nat} (hx : x < W) : (y * W + x) % W = x ∧ (y * W + x) / W = y := by
  have hW : 0 < W := by omega
  constructor
  · rw [Nat.mul_comm, Nat.mul_add_mod]; exact Nat.mod_eq_of_lt hx
  · rw [Nat.mul_comm, Nat.mul_add_div hW, Nat.div_eq_of_lt hx]; rfl
theorem yx_lt {W H x y : Nat} (hx : x < W) (hy : y < H) : y * W + x < W * H :=
  calc y * W + x < y * W + W := by omega
    _ = (y + 1) * W := by rw [Nat.add_mul, Nat.one_mul]
    _ ≤ H * W := Nat.mul_le_mul_right _ (by omega)
    _ = W * H := Nat.mul_comm _ _
def Tb (W H n : Nat) (w : Wd) : Prop := ∀ c, c < n → w.1 2 c = iv (c % W : Nat) ∧ w.1 3 c = iv (c / W : Nat) ∧ ∀ d, d < 4 → w.1 4 (4 * c + d) = iv (nbr W H c d)
theorem iv_4cd (c d : Nat) : iv c * (4 : Int32) + iv d = iv ((4 * c + d : Nat) : Int) := by
  rw [iv_4, iv_mul, iv_add]; congr 1; omega
theorem placeCell_s {W H : Nat} {w : Wd} (hg : GW W H w) {x y : Nat} (hx : x < W) (hy : y < H) (hT : Tb W H (y * W + x) w) : ∃ w1, fX2_placeCell (iv x) (iv y) w = some ((), w1) ∧ Tb W H (y * W + x + 1) w1 ∧ Kp (fun k => k ≠ 2 ∧ k ≠ 3 ∧ k ≠ 4) w w1 := by
  have h2 := hg.2.1
  have h4 := hg.2.2.2.1
  have hN := WH_le h2 h4
  have hc := yx_lt hx hy
  have hxy := xy_of (y := y) hx
  have ecI : ((y * W + x : Nat) : Int) = (y : Int) * W + x := by rw [Int.natCast_add, Int.natCast_mul]
  unfold fX2_placeCell fX2_at
  rw [hg.2.2.2.2.1, iv_mul, iv_add, bnd_s, ← ecI]
  have n0 : nbr W H (y * W + x) 0 = if x = 0 then -1 else ((y * W + x : Nat) : Int) - 1 := by unfold nbr; rw [if_pos rfl, hxy.1]
  have n1 : nbr W H (y * W + x) 1 = if y = 0 then -1 else ((y * W + x : Nat) : Int) - W := by unfold nbr; rw [if_neg (by omega), if_pos rfl, hxy.2]
  have n2 : nbr W H (y * W + x) 2 = if x + 1 = W then -1 else ((y * W + x : Nat) : Int) + 1 := by unfold nbr; rw [if_neg (by omega), if_neg (by omega), if_pos rfl, hxy.1]
  have n3 : nbr W H (y * W + x) 3 = if y + 1 = H then -1 else ((y * W + x : Nat) : Int) + W := by unfold nbr; rw [if_neg (by omega), if_neg (by omega), if_neg (by omega), hxy.2]
  generalize y * W + x = c at *
  rw [sI_iv (by rw [LI_2]; omega) (by rw [LI_2]; omega), bind_s, sI_iv (by rw [LI_3]; omega) (by rw [LI_3]; omega), bind_s]
  have hk0 : Kp (fun k => k ≠ 2 ∧ k ≠ 3) w (uI (uI w 2 c (iv x)) 3 c (iv y)) := (Kp.uI (fun z => z.1 rfl)).trans (Kp.uI (fun z => z.2 rfl))
  refine lpB (m := 4) (fun r => ∃ w1, r = some ((), w1) ∧ Tb W H (c + 1) w1 ∧ Kp (fun k => k ≠ 2 ∧ k ≠ 3 ∧ k ≠ 4) w w1) (fun d v w' => v = iv c ∧ (∀ c', c' < c → ∀ d, d < 4 → w'.1 4 (4 * c' + d) = iv (nbr W H c' d)) ∧ (∀ d', d' < d → w'.1 4 (4 * c + d') = iv (nbr W H c d')) ∧ Kp (fun k => k ≠ 4) (uI (uI w 2 c (iv x)) 3 c (iv y)) w') ?_ ?_ (hGn (by omega)) ⟨rfl, fun c' hc' d hd => ?_, fun d' hd' => by omega, Kp.rf⟩
  · rintro d v w' kk hd ⟨rfl, a1, a2, a3⟩
    have hg' : GW W H w' := (hg.kept (hk0 1 (by omega)).1).kept (a3 1 (by omega)).1
    refine Or.inl ⟨iv c, uI w' 4 (4 * c + d) (iv (nbr W H c d)), ?_, rfl, fun c' hc' d' hd' => ?_, fun d' hd' => ?_, a3.trans (Kp.uI (fun z => z rfl))⟩
    · unfold bX2_placeCell_24
      rw [if_neg (by rw [iv_4, iv_le (by omega) (by omega)]; omega), ixA_iv hd (by omega), bind_s, bind_s]
      have fin : ∀ X Y : Int, iv x + stX d = iv X → iv y + stY d = iv Y → (-5 ≤ X ∧ X ≤ 10) → (-5 ≤ Y ∧ Y ≤ 10) → (if (0 ≤ X ∧ X < W) ∧ (0 ≤ Y ∧ Y < H) then Y * W + X else -1) = nbr W H c d → (bnd (fX2_atOrBeyond (iv x + stX d) (iv y + stY d) w') fun x7 w8 => (sI w8 4 (iv c * (4 : Int32) + iv d) x7).bind fun w9 => kk (iv c) (iv d + (1 : Int32)) w9) = kk (iv c) (iv ((d + 1 : Nat) : Int)) (uI w' 4 (4 * c + d) (iv (nbr W H c d))) := by
        intro X Y eX eY hX hY e
        rw [eX, eY, atOrBeyond_s hg' hX hY, bnd_s, iv_4cd, sI_iv (by rw [LI_4]; omega) (by rw [LI_4]; omega), bind_s, iv_s1, e]
      rcases (show d = 0 ∨ d = 1 ∨ d = 2 ∨ d = 3 by omega) with rfl | rfl | rfl | rfl
      · refine fin ((x : Int) - 1) y (by rw [show stX 0 = iv (-1) by decide, iv_add]; rfl) (by rw [show stY 0 = iv 0 by decide, iv_add, Int.add_zero]) (by omega) (by omega) ?_
        rw [n0]
        by_cases e : x = 0
        · rw [if_pos e, if_neg (by omega)]
        · rw [if_neg e, if_pos (by omega), ecI]; omega
      · refine fin x ((y : Int) - 1) (by rw [show stX 1 = iv 0 by decide, iv_add, Int.add_zero]) (by rw [show stY 1 = iv (-1) by decide, iv_add]; rfl) (by omega) (by omega) ?_
        rw [n1]
        by_cases e : y = 0
        · rw [if_pos e, if_neg (by omega)]
        · rw [if_neg e, if_pos (by omega), ecI, Int.sub_mul, Int.one_mul]; omega
      · refine fin ((x : Int) + 1) y (by rw [show stX 2 = iv 1 by decide, iv_add]) (by rw [show stY 2 = iv 0 by decide, iv_add, Int.add_zero]) (by omega) (by omega) ?_
        rw [n2]
        by_cases e : x + 1 = W
        · rw [if_pos e, if_neg (by omega)]
        · rw [if_neg e, if_pos (by omega), ecI]; omega
      · refine fin x ((y : Int) + 1) (by rw [show stX 3 = iv 0 by decide, iv_add, Int.add_zero]) (by rw [show stY 3 = iv 1 by decide, iv_add]) (by omega) (by omega) ?_
        rw [n3]
        by_cases e : y + 1 = H
        · rw [if_pos e, if_neg (by omega)]
        · rw [if_neg e, if_pos (by omega), ecI, Int.add_mul, Int.one_mul]; omega
    · rw [uI_other (Or.inr (by omega))]; exact a1 c' hc' d' hd'
    · by_cases e : d' = d
      · subst e; exact uI_same
      · rw [uI_other (Or.inr (by omega))]; exact a2 d' (by omega)
  · rintro v w' kk ⟨rfl, a1, a2, a3⟩
    unfold bX2_placeCell_24
    rw [if_pos (by rw [iv_4]; exact Int32.le_refl _)]
    refine ⟨w', rfl, fun c' hc' => ?_, (hk0.weak fun k z => ⟨z.1, z.2.1⟩).trans (a3.weak fun k z => z.2.2)⟩
    rw [(a3 2 (by omega)).1, (a3 3 (by omega)).1]
    by_cases e : c' = c
    · subst e
      refine ⟨?_, ?_, a2⟩
      · rw [uI_row (by omega), uI_same, hxy.1]
      · rw [uI_same, hxy.2]
    · have hT' := hT c' (by omega)
      refine ⟨?_, ?_, a1 c' (by omega)⟩
      · rw [uI_row (by omega), uI_other (Or.inr e)]; exact hT'.1
      · rw [uI_other (Or.inr e), uI_row (by omega)]; exact hT'.2.1
  · rw [uI_row (by omega), uI_row (by omega)]; exact (hT c' hc').2.2 d hd
theorem become_s {W H : Nat} (h1 : 1 ≤ W) (h2 : W ≤ 5) (h3 : 1 ≤ H) (h4 : H ≤ 5) (w : Wd) : ∃ w1, fX2_become (iv W) (iv H) w = some ((), w1) ∧ Gnd W H w1 ∧ Kp (fun k => k ≠ 1 ∧ k ≠ 2 ∧ k ≠ 3 ∧ k ≠ 4) w w1 := by
  unfold fX2_become
  have hg0 : GW W H (uI (uI w 1 3 (iv W)) 1 4 (iv H)) := ⟨h1, h2, h3, h4, by rw [uI_other (Or.inr (by omega)), uI_same], uI_same⟩
  have hk0 : Kp (fun k => k ≠ 1 ∧ k ≠ 2 ∧ k ≠ 3 ∧ k ≠ 4) w (uI (uI w 1 3 (iv W)) 1 4 (iv H)) := (Kp.uI (fun z => z.1 rfl)).trans (Kp.uI (fun z => z.1 rfl))
  refine lpA (m := H) (fun r => ∃ w1, r = some ((), w1) ∧ Gnd W H w1 ∧ Kp (fun k => k ≠ 1 ∧ k ≠ 2 ∧ k ≠ 3 ∧ k ≠ 4) w w1) (fun y w' => GW W H w' ∧ Tb W H (y * W) w' ∧ Kp (fun k => k ≠ 1 ∧ k ≠ 2 ∧ k ≠ 3 ∧ k ≠ 4) w w') ?_ ?_ (hGn (by omega)) ⟨hg0, fun c hc => by rw [Nat.zero_mul] at hc; omega, hk0⟩
  · rintro y w' kk hy ⟨b1, b2, b3⟩
    refine Or.inl ?_
    unfold bX2_become_12
    rw [if_neg (iv_Nle (by omega) hy)]
    refine lpB (z := fun _ _ _ => none) (b := bX2_become_20 (iv W) (iv H) kk) (m := W) (n := G) (x := iv y) (w := w') (fun r => ∃ w1, r = kk (iv ((y + 1 : Nat) : Int)) w1 ∧ GW W H w1 ∧ Tb W H ((y + 1) * W) w1 ∧ Kp (fun k => k ≠ 1 ∧ k ≠ 2 ∧ k ≠ 3 ∧ k ≠ 4) w w1) (fun x v w2 => v = iv y ∧ GW W H w2 ∧ Tb W H (y * W + x) w2 ∧ Kp (fun k => k ≠ 1 ∧ k ≠ 2 ∧ k ≠ 3 ∧ k ≠ 4) w w2) ?_ ?_ (hGn (by omega)) ⟨rfl, b1, b2, b3⟩
    · rintro x v w2 k2 hx ⟨rfl, c1, c2, c3⟩
      obtain ⟨w3, e1, e2, e3⟩ := placeCell_s c1 hx hy c2
      refine Or.inl ⟨iv y, w3, ?_, rfl, c1.kept (e3 1 (by omega)).1, e2, c3.trans (e3.weak fun k z => z.2)⟩
      unfold bX2_become_20
      rw [if_neg (iv_Nle (by omega) hx), e1, bnd_s, iv_s1]
    · rintro v w2 k2 ⟨rfl, c1, c2, c3⟩
      unfold bX2_become_20
      rw [if_pos iv_Nle', iv_s1]
      exact ⟨w2, rfl, c1, by rw [Nat.add_mul, Nat.one_mul]; exact c2, c3⟩
  · rintro w' kk ⟨b1, b2, b3⟩
    unfold bX2_become_12
    rw [if_pos iv_Nle']
    rw [Nat.mul_comm] at b2
    exact ⟨w', rfl, ⟨b1, fun c hc => (b2 c hc).1, fun c hc => (b2 c hc).2.1, fun c hc => (b2 c hc).2.2⟩, b3⟩
theorem forget_s (w : Wd) : ∃ w1, fX5_forget w = some ((), w1) ∧ (∀ c, c < 5 → w1.1 16 c = iv (-9)) ∧ (∀ c, c < 5 → w1.1 17 c = iv (-9)) ∧ (∀ c, c < 25 → w1.1 18 c = iv (-9)) ∧ w1.1 14 4 = w.1 14 4 + iv 1 ∧ Kp (fun k => k ≠ 14 ∧ k ≠ 16 ∧ k ≠ 17 ∧ k ≠ 18) w w1 := by
  obtain ⟨w1, a1, a2, a3⟩ := fill_s (k := 16) (by rw [LI_16]; omega) (by rw [LI_16]; omega) (-9) w
  obtain ⟨w2, b1, b2, b3⟩ := fill_s (k := 17) (by rw [LI_17]; omega) (by rw [LI_17]; omega) (-9) w1
  obtain ⟨w3, c1, c2, c3⟩ := fill_s (k := 18) (by rw [LI_18]; omega) (by rw [LI_18]; omega) (-9) w2
  rw [LI_16] at a2
  rw [LI_17] at b2
  rw [LI_18] at c2
  refine ⟨uI w3 14 4 (w3.1 14 4 + 1), ?_, fun c hc => ?_, fun c hc => ?_, fun c hc => ?_, ?_, ?_⟩
  · unfold fX5_forget fX3_putAllT
    rw [a1, bnd_s, b1, bnd_s, bnd_s, c1, bnd_s]
  · rw [uI_row (by omega), (c3 16 (by omega)).1, (b3 16 (by omega)).1, a2 c hc]; rfl
  · rw [uI_row (by omega), (c3 17 (by omega)).1, b2 c hc]; rfl
  · rw [uI_row (by omega), c2 c hc]; rfl
  · rw [uI_same, (c3 14 (by omega)).1, (b3 14 (by omega)).1, (a3 14 (by omega)).1]; rfl
  · exact (a3.weak fun k z => z.2.1).trans ((b3.weak fun k z => z.2.2.1).trans ((c3.weak fun k z => z.2.2.2).trans (Kp.uI (fun z => z.1 rfl))))
theorem layGround_s (W H : Nat) (w : Wd) : ∃ w1, fX9_layGround (iv W) (iv H) w = some ((), w1) ∧ w1.1 99 0 = iv W ∧ w1.1 99 1 = iv H ∧ w1.1 99 11 = w.1 99 11 ∧ (∀ i, i < 100 → w1.1 100 i = iv 0) ∧ (∀ i, i < 5 → w1.1 101 i = iv (-9) ∧ w1.1 102 i = iv (-9) ∧ w1.1 104 i = iv 0 ∧ w1.1 105 i = iv 0) ∧ (∀ i, i < 25 → w1.1 103 i = iv (-9)) ∧ Kp cR w w1 := by
  let Q : Option (Unit × Wd) → Prop := fun r => ∃ w1, r = some ((), w1) ∧ w1.1 99 0 = iv W ∧ w1.1 99 1 = iv H ∧ w1.1 99 11 = w.1 99 11 ∧ (∀ i, i < 100 → w1.1 100 i = iv 0) ∧ (∀ i, i < 5 → w1.1 101 i = iv (-9) ∧ w1.1 102 i = iv (-9) ∧ w1.1 104 i = iv 0 ∧ w1.1 105 i = iv 0) ∧ (∀ i, i < 25 → w1.1 103 i = iv (-9)) ∧ Kp cR w w1
  let A : Wd → Prop := fun w' => w'.1 99 0 = iv W ∧ w'.1 99 1 = iv H ∧ w'.1 99 11 = w.1 99 11 ∧ Kp cR w w'
  have Ak : ∀ {w' w'' : Wd}, A w' → w''.1 99 = w'.1 99 → Kp cR w' w'' → A w'' := fun h e k => ⟨by rw [e]; exact h.1, by rw [e]; exact h.2.1, by rw [e]; exact h.2.2.1, h.2.2.2.trans k⟩
  show Q (fX9_layGround (iv W) (iv H) w)
  unfold fX9_layGround
  have hA0 : A (uI (uI w 99 0 (iv W)) 99 1 (iv H)) := ⟨by rw [uI_other (Or.inr (by omega)), uI_same], uI_same, by rw [uI_other (Or.inr (by omega)), uI_other (Or.inr (by omega))], (Kp.uI (by unfold cR; omega)).trans (Kp.uI (by unfold cR; omega))⟩
  refine lpA (m := 100) Q (fun i w' => A w' ∧ ∀ j, j < i → w'.1 100 j = iv 0) ?_ ?_ (hGn (by omega)) ⟨hA0, fun j hj => by omega⟩
  · rintro i w' kk hi ⟨a1, a2⟩
    refine Or.inl ⟨uI w' 100 i 0, ?_, Ak a1 (uI_row (by omega)) (Kp.uI (by unfold cR; omega)), fun j hj => ?_⟩
    · unfold bX9_layGround_12
      rw [if_neg (by rw [iv_100, iv_le (by omega) (by omega)]; omega), sI_iv (by rw [LI_100]; omega) (by rw [LI_100]; omega), bind_s, iv_s1]
    · by_cases e : j = i
      · subst e; rw [uI_same]; rfl
      · rw [uI_other (Or.inr e)]; exact a2 j (by omega)
  · rintro w1 kk ⟨a1, a2⟩
    unfold bX9_layGround_12
    rw [if_pos (by rw [iv_100]; exact Int32.le_refl _)]
    refine lpA (m := 5) Q (fun i w' => A w' ∧ (∀ j, j < 100 → w'.1 100 j = iv 0) ∧ ∀ j, j < i → w'.1 101 j = iv (-9) ∧ w'.1 102 j = iv (-9) ∧ w'.1 104 j = iv 0 ∧ w'.1 105 j = iv 0) ?_ ?_ (hGn (by omega)) ⟨a1, a2, fun j hj => by omega⟩
    · rintro i w' kk hi ⟨b1, b2, b3⟩
      refine Or.inl ⟨uI (uI (uI (uI w' 101 i (-9)) 102 i (-9)) 104 i 0) 105 i 0, ?_, Ak b1 (by rw [uI_row (by omega), uI_row (by omega), uI_row (by omega), uI_row (by omega)]) ((Kp.uI (by unfold cR; omega)).trans ((Kp.uI (by unfold cR; omega)).trans ((Kp.uI (by unfold cR; omega)).trans (Kp.uI (by unfold cR; omega))))), fun j hj => ?_, fun j hj => ?_⟩
      · unfold bX9_layGround_33
        rw [if_neg (by rw [iv_5, iv_le (by omega) (by omega)]; omega), sI_iv (by rw [LI_101]; omega) (by rw [LI_101]; omega), bind_s, sI_iv (by rw [LI_102]; omega) (by rw [LI_102]; omega), bind_s, sI_iv (by rw [LI_104]; omega) (by rw [LI_104]; omega), bind_s, sI_iv (by rw [LI_105]; omega) (by rw [LI_105]; omega), bind_s, iv_s1]
      · rw [uI_row (by omega), uI_row (by omega), uI_row (by omega), uI_row (by omega)]; exact b2 j hj
      · by_cases e : j = i
        · subst e
          refine ⟨?_, ?_, ?_, ?_⟩
          · rw [uI_row (by omega), uI_row (by omega), uI_row (by omega), uI_same]; rfl
          · rw [uI_row (by omega), uI_row (by omega), uI_same]; rfl
          · rw [uI_row (by omega), uI_same]; rfl
          · rw [uI_same]; rfl
        · have b := b3 j (by omega)
          refine ⟨?_, ?_, ?_, ?_⟩
          · rw [uI_row (by omega), uI_row (by omega), uI_row (by omega), uI_other (Or.inr e)]; exact b.1
          · rw [uI_row (by omega), uI_row (by omega), uI_other (Or.inr e), uI_row (by omega)]; exact b.2.1
          · rw [uI_row (by omega), uI_other (Or.inr e), uI_row (by omega), uI_row (by omega)]; exact b.2.2.1
          · rw [uI_other (Or.inr e), uI_row (by omega), uI_row (by omega), uI_row (by omega)]; exact b.2.2.2
    · rintro w2 kk ⟨b1, b2, b3⟩
      unfold bX9_layGround_33
      rw [if_pos (by rw [iv_5]; exact Int32.le_refl _)]
      refine lpA (m := 25) Q (fun i w' => A w' ∧ (∀ j, j < 100 → w'.1 100 j = iv 0) ∧ (∀ j, j < 5 → w'.1 101 j = iv (-9) ∧ w'.1 102 j = iv (-9) ∧ w'.1 104 j = iv 0 ∧ w'.1 105 j = iv 0) ∧ ∀ j, j < i → w'.1 103 j = iv (-9)) ?_ ?_ (hGn (by omega)) ⟨b1, b2, b3, fun j hj => by omega⟩
      · rintro i w' kk hi ⟨c1, c2, c3, c4⟩
        refine Or.inl ⟨uI w' 103 i (-9), ?_, Ak c1 (uI_row (by omega)) (Kp.uI (by unfold cR; omega)), fun j hj => ?_, fun j hj => ?_, fun j hj => ?_⟩
        · unfold bX9_layGround_76
          rw [if_neg (by rw [iv_25, iv_le (by omega) (by omega)]; omega), sI_iv (by rw [LI_103]; omega) (by rw [LI_103]; omega), bind_s, iv_s1]
        · rw [uI_row (by omega)]; exact c2 j hj
        · rw [uI_row (by omega), uI_row (by omega), uI_row (by omega), uI_row (by omega)]; exact c3 j hj
        · by_cases e : j = i
          · subst e; rw [uI_same]; rfl
          · rw [uI_other (Or.inr e)]; exact c4 j (by omega)
      · rintro w3 kk ⟨c1, c2, c3, c4⟩
        unfold bX9_layGround_76
        rw [if_pos (by rw [iv_25]; exact Int32.le_refl _)]
        exact ⟨w3, rfl, c1.1, c1.2.1, c1.2.2.1, c2, c3, c4, c1.2.2.2⟩
/-- an empty ground, nothing told -/
def a0 (W H : Nat) : Ab := ((W, H), fun _ _ => 0, (fun _ => -9, fun _ => -9, fun _ => -9), (fun _ => 0, fun _ => 0))
theorem a0_ok {W H : Nat} (h1 : 1 ≤ W) (h2 : W ≤ 5) (h3 : 1 ≤ H) (h4 : H ≤ 5) : AbOK (a0 W H) := by
  refine ⟨⟨h1, h2, h3, h4⟩, fun _ _ _ _ => ?_, fun _ _ => Or.inl rfl, fun _ _ => Or.inl rfl, fun _ _ => Or.inl rfl, fun _ _ => ?_, fun _ _ => ?_⟩
  · show 0 ≤ (0 : Int) ∧ (0 : Int) ≤ 4; omega
  · show 0 ≤ (0 : Int) ∧ (0 : Int) ≤ 20; omega
  · show 0 ≤ (0 : Int) ∧ (0 : Int) ≤ 20; omega
theorem a0_MS {W H : Nat} (h1 : 1 ≤ W) (h2 : W ≤ 5) (h3 : 1 ≤ H) (h4 : H ≤ 5) {w1 : Wd} (e0 : w1.1 99 0 = iv W) (e1 : w1.1 99 1 = iv H) (e2 : w1.1 99 11 = iv (-9)) (e3 : ∀ i, i < 100 → w1.1 100 i = iv 0) (e4 : ∀ i, i < 5 → w1.1 101 i = iv (-9) ∧ w1.1 102 i = iv (-9) ∧ w1.1 104 i = iv 0 ∧ w1.1 105 i = iv 0) (e5 : ∀ i, i < 25 → w1.1 103 i = iv (-9)) : MS (a0 W H) w1 := by
  have hN := WH_le h2 h4
  refine ⟨⟨h1, h2, h3, h4, e0, e1⟩, fun s hs c hc => ?_, fun x hx => ?_, fun y hy => ?_, fun c hc => ?_, fun x hx => ?_, fun y hy => ?_, e2⟩
  · have hc' : c < W * H := hc
    exact e3 _ (by omega)
  · have hx' : x < W := hx
    exact (e4 x (by omega)).1
  · have hy' : y < H := hy
    exact (e4 y (by omega)).2.1
  · have hc' : c < W * H := hc
    exact e5 c (by omega)
  · have hx' : x < W := hx
    exact (e4 x (by omega)).2.2.1
  · have hy' : y < H := hy
    exact (e4 y (by omega)).2.2.2
section STEPS
variable {FT : Tl → Wd → Prop} {t : Nat} {w : Wd}
theorem dimC (p : Int32) : (∃ W : Nat, p = iv W ∧ 1 ≤ W ∧ W ≤ 5) ∨ (p.toInt < 1 ∨ 5 < p.toInt) := by
  by_cases h : 1 ≤ p.toInt ∧ p.toInt ≤ 5
  · refine Or.inl ⟨p.toInt.toNat, ?_, by omega, by omega⟩
    rw [show ((p.toInt.toNat : Nat) : Int) = p.toInt by omega, iv_toInt]
  · right; omega
theorem ti5 : (5 : Int32).toInt = 5 := by decide
theorem g0 (hF : FTk FT) (hg : Good FT t w) (p q d : Int32) : ∃ w', st0 p q d w = some w' ∧ Good FT (t + 1) w' := by
  obtain ⟨a, ha, hc, hm, hv⟩ := hg
  unfold st0
  rcases dimC p with ⟨W, rfl, h1, h2⟩ | hb
  · rcases dimC q with ⟨H, rfl, h3, h4⟩ | hb2
    · have hN := WH_le h2 h4
      obtain ⟨w1, e1, e2, e3⟩ := become_s h1 h2 h3 h4 w
      refine comb hF (v := iv ((W * H : Nat) : Int)) (a1 := a0 W H) (a0_ok h1 h2 h3 h4) hm ?_ (fun w2 hm2 => ?_)
      · have c0 : fX8_ground (iv W) (iv H) w = lp (fun _ _ => none) (bX8_ground_34 (iv W) (iv H)) G (0 : Int32) w1 := by
          unfold fX8_ground
          rw [if_neg (by rw [iv_1, iv_lt (by omega) (by omega)]; omega), if_neg (by rw [iv_5, iv_lt (by omega) (by omega)]; omega), if_neg (by rw [iv_1, iv_lt (by omega) (by omega)]; omega), if_pos (by rw [iv_5, iv_le (by omega) (by omega)]; omega), e1, bnd_s]
        rw [c0]
        refine lpA (m := 4) (fun r => ∃ w1, r = some (iv ((W * H : Nat) : Int), w1) ∧ CS (a0 W H) w1 ∧ VS FT (t + 1) (a0 W H) w1 ∧ Kp mR w w1) (fun i w' => (∀ s, s < i → ∀ c, c < 25 → w'.1 (6 + s) c = 0) ∧ Kp (fun k => k < 6 ∨ 9 < k) w1 w') ?_ ?_ (hGn (by omega)) ⟨fun s hs => by omega, Kp.rf⟩
        · rintro i w' kk hi ⟨b1, b2⟩
          obtain ⟨w2, f1, f2, f3⟩ := fill_s (k := 6 + i) (by rw [LI_slot hi]; omega) (by rw [LI_slot hi]; omega) 0 w'
          rw [LI_slot hi] at f2
          refine Or.inl ⟨w2, ?_, fun s hs c hcc => ?_, b2.trans (f3.weak fun k z => by omega)⟩
          · unfold bX8_ground_34
            rw [if_neg (by rw [iv_4, iv_le (by omega) (by omega)]; omega), ixA_iv hi (by omega), bind_s, f1, bnd_s, iv_s1]
          · by_cases e : s = i
            · subst e; exact f2 c hcc
            · rw [(f3 (6 + s) (by omega)).1]; exact b1 s (by omega) c hcc
        · rintro w2 kk ⟨b1, b2⟩
          obtain ⟨w3, f1, f2, f3, f4, f5, f6⟩ := forget_s w2
          obtain ⟨w4, i1, i2, i3⟩ := fill_s (k := 81) (by rw [LI_81]; omega) (by rw [LI_81]; omega) 0 w3
          obtain ⟨w5, j1, j2, j3⟩ := fill_s (k := 82) (by rw [LI_82]; omega) (by rw [LI_82]; omega) 0 w4
          rw [LI_81] at i2
          rw [LI_82] at j2
          have hg5 : Gnd W H w5 := e2.kept ((b2.weak fun k z => by omega).trans ((f6.weak fun k z => by omega).trans ((i3.weak fun k z => by omega).trans (j3.weak fun k z => by omega))))
          have r5 : Kp (fun k => k ≠ 81 ∧ k ≠ 82) w3 w5 := (i3.weak fun k z => z.1).trans (j3.weak fun k z => z.2)
          have r25 : Kp (fun k => k ≠ 14 ∧ k ≠ 16 ∧ k ≠ 17 ∧ k ≠ 18 ∧ k ≠ 81 ∧ k ≠ 82) w2 w5 := (f6.weak fun k z => by omega).trans (r5.weak fun k z => by omega)
          refine ⟨w5, ?_, ⟨hg5, fun s hs c hcc => ?_, fun x hx => ?_, fun y hy => ?_, fun c hcc => ?_, fun x hx => ?_, fun y hy => ?_, ?_⟩, ?_, ?_⟩
          · unfold bX8_ground_34 fX4_forget fX3_putAllS
            rw [if_pos (by rw [iv_4]; exact Int32.le_refl _), f1, bnd_s, i1, bnd_s, j1, bnd_s, bnd_s, bnd_s, cells_s hg5.1, bnd_s]
          · have hcc' : c < W * H := hcc
            rw [(r25 (6 + s) (by omega)).1, b1 s hs c (by omega)]; rfl
          · have hx' : x < W := hx
            rw [(r5 16 (by omega)).1, f2 x (by omega)]; rfl
          · have hy' : y < H := hy
            rw [(r5 17 (by omega)).1, f3 y (by omega)]; rfl
          · have hcc' : c < W * H := hcc
            rw [(r5 18 (by omega)).1, f4 c (by omega)]; rfl
          · have hx' : x < W := hx
            rw [(j3 81 (by omega)).1, i2 x (by omega)]; rfl
          · have hy' : y < H := hy
            rw [j2 y (by omega)]; rfl
          · rw [(r25 19 (by omega)).1, (b2 19 (by omega)).1, (e3 19 (by omega)).1]; exact hc.2.2.2.2.2.2.2
          · refine hv.bump (n := 1) (by omega) (by omega) ?_ ?_
            · rw [(r5 14 (by omega)).1, f5, (b2 14 (by omega)).1, (e3 14 (by omega)).1]; rfl
            · rw [(r25 19 (by omega)).1, (b2 19 (by omega)).1, (e3 19 (by omega)).1]
          · exact (e3.weak fun k z => by unfold mR at z; omega).trans ((b2.weak fun k z => by unfold mR at z; omega).trans (r25.weak fun k z => by unfold mR at z; omega))
      · obtain ⟨w3, m1, m2, m3, m4, m5, m6, m7, m8⟩ := layGround_s W H w2
        refine ⟨w3, ?_, a0_MS h1 h2 h3 h4 m2 m3 (by rw [m4]; exact hm2.2.2.2.2.2.2.2) m5 m6 m7, m8⟩
        unfold fX9_ground
        rw [in_g w2 (by rw [L1, toInt_iv (by omega) (by omega)]; omega) (by rw [L5, toInt_iv (by omega) (by omega)]; omega), bnd_s, if_neg (by decide), in_g w2 (by rw [L1, toInt_iv (by omega) (by omega)]; omega) (by rw [L5, toInt_iv (by omega) (by omega)]; omega), bnd_s, if_neg (by decide), m1, bnd_s, iv_WH]
    · refine comb0 hF (v := -2) ha hc hm hv ?_ ?_
      · unfold fX8_ground
        rw [if_neg (by rw [iv_1, iv_lt (by omega) (by omega)]; omega), if_neg (by rw [iv_5, iv_lt (by omega) (by omega)]; omega)]
        by_cases e : q < 1
        · rw [if_pos e]
        · rw [if_neg e, if_neg]
          rw [Int32.lt_iff_toInt_lt, ti1] at e
          rw [Int32.le_iff_toInt_le, ti5]; omega
      · unfold fX9_ground
        rw [in_g w (by rw [L1, toInt_iv (by omega) (by omega)]; omega) (by rw [L5, toInt_iv (by omega) (by omega)]; omega), bnd_s, if_neg (by decide), in_b w (by rw [L1, L5]; exact hb2), bnd_s, if_pos rfl]
  · refine comb0 hF (v := -2) ha hc hm hv ?_ ?_
    · unfold fX8_ground
      by_cases e : p < 1
      · rw [if_pos e]
      · rw [if_neg e, if_pos]
        rw [Int32.lt_iff_toInt_lt, ti1] at e
        rw [Int32.lt_iff_toInt_lt, ti5]; omega
    · unfold fX9_ground
      rw [in_b w (by rw [L1, L5]; exact hb), bnd_s, if_pos rfl]
theorem good0 (FT : Tl → Wd → Prop) : ∃ qG qT qM : Unit × Wd, fX2_become (4 : Int32) (4 : Int32) w0 = some qG ∧ fX5_forget w0 = some qT ∧ fX9_layGround (4 : Int32) (4 : Int32) w0 = some qM ∧ Good FT 0 (mixW 99 122 (mixW 96 99 (mixW 90 96 (mixW 79 90 (mixW 19 79 (mixW 14 19 (mixW 10 14 (mixW 1 5 w0 qG.2) w0) qT.2) w0) w0) w0) w0) qM.2) := by
  obtain ⟨w1, a1, a2, a3⟩ := become_s (W := 4) (H := 4) (by omega) (by omega) (by omega) (by omega) w0
  obtain ⟨w2, b1, b2, b3, b4, b5, b6⟩ := forget_s w0
  obtain ⟨w3, m1, m2, m3, m4, m5, m6, m7, m8⟩ := layGround_s 4 4 w0
  refine ⟨((), w1), ((), w2), ((), w3), a1, b1, m1, ?_⟩
  show Good FT 0 (mixW 99 122 (mixW 96 99 (mixW 90 96 (mixW 79 90 (mixW 19 79 (mixW 14 19 (mixW 10 14 (mixW 1 5 w0 w1) w0) w2) w0) w0) w0) w0) w3)
  refine ⟨a0 4 4, a0_ok (by omega) (by omega) (by omega) (by omega), ⟨?_, fun s hs c hc => ?_, fun x hx => ?_, fun y hy => ?_, fun c hc => ?_, fun x hx => ?_, fun y hy => ?_, Or.inl ⟨rfl, rfl⟩⟩, a0_MS (by omega) (by omega) (by omega) (by omega) m2 m3 (by exact m4) m5 m6 m7, ⟨1, 0, ?_, rfl, by omega, by omega, fun z => by omega⟩⟩
  · refine a2.kept (fun k hk => ?_)
    rcases (show k = 1 ∨ k = 2 ∨ k = 3 ∨ k = 4 by omega) with rfl | rfl | rfl | rfl <;> exact ⟨rfl, rfl⟩
  · rcases (show s = 0 ∨ s = 1 ∨ s = 2 ∨ s = 3 by omega) with rfl | rfl | rfl | rfl <;> rfl
  · have hx' : x < 4 := hx
    exact b2 x (by omega)
  · have hy' : y < 4 := hy
    exact b3 y (by omega)
  · have hc' : c < 4 * 4 := hc
    exact b4 c (by omega)
  · rfl
  · rfl
  · show w2.1 14 4 = iv ((1 : Nat) : Int)
    rw [b5]; rfl
end STEPS
