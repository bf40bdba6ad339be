/-! ===== turned and mirrored ===== -/
theorem lpB' {ρ : Type} {z : Int32 → Int32 → Wd → ρ} {b : (Int32 → Int32 → Wd → ρ) → Int32 → Int32 → Wd → ρ} {j m : Nat} (Q : ρ → Prop) (Inv : Nat → Int32 → Wd → Prop) (hb : ∀ i x w k, j ≤ i → i < m → Inv i x w → (∃ x' w', b k x (iv i) w = k x' (iv ((i + 1 : Nat) : Int)) w' ∧ Inv (i + 1) x' w') ∨ Q (b k x (iv i) w)) (he : ∀ x w k, Inv m x w → Q (b k x (iv m) w)) (hj : j ≤ m) {n : Nat} (hn : m < n) {x : Int32} {w : Wd} (h0 : Inv j x w) : Q (lp z b n x (iv j) w) := by
  have key : ∀ n i x w, j ≤ i → i ≤ m → m - i < n → Inv i x w → Q (lp z b n x (iv i) w) := by
    intro n
    induction n with
    | zero => intro i x w h0 h1 h2; omega
    | succ n ih =>
      intro i x w h0 h1 h2 h3
      rw [lp_s]
      by_cases e : i = m
      · rw [e] at h3 ⊢; exact he _ _ _ h3
      · rcases hb i x w (lp z b n) h0 (by omega) h3 with ⟨x', w', e1, e2⟩ | q
        · rw [e1]; exact ih (i + 1) x' w' (by omega) (by omega) (by omega) e2
        · exact q
  exact key n j x w (by omega) (by omega) (by omega) h0
def imx (W t c : Nat) : Nat := if t < 4 then c % W else W - 1 - c % W
def im (W H t c : Nat) : Nat :=
  if t % 4 = 1 then imx W t c * W + (H - 1 - c / W)
  else if t % 4 = 2 then (H - 1 - c / W) * W + (W - 1 - imx W t c)
  else if t % 4 = 3 then (W - 1 - imx W t c) * W + c / W
  else c / W * W + imx W t c
def ivt (t : Nat) : Nat := if t < 4 then (4 - t) % 4 else t
def kps (W H t : Nat) : Prop := t % 2 = 0 ∨ W = H
def imck (W H t c : Nat) : Bool := !(decide (t % 2 = 0) || decide (W = H)) || !decide (c < W * H) || (decide (im W H t c < W * H) && (decide (im W H (ivt t) (im W H t c) = c) && (decide (im W H t (im W H (ivt t) c) = c) && (decide (im W H (ivt t) c < W * H) && decide (im W H 0 c = c)))))
theorem im_all : ∀ W, W < 6 → ∀ H, H < 6 → ∀ t, t < 8 → ∀ c, c < 25 → imck W H t c = true := by decide +kernel
theorem im_f {W H t : Nat} (h2 : W ≤ 5) (h4 : H ≤ 5) (ht : t < 8) (hk : kps W H t) {c : Nat} (hc : c < W * H) : im W H t c < W * H ∧ im W H (ivt t) (im W H t c) = c ∧ im W H t (im W H (ivt t) c) = c ∧ im W H (ivt t) c < W * H ∧ im W H 0 c = c := by
  have hN := WH_le h2 h4
  have h := im_all W (by omega) H (by omega) t ht c (by omega)
  unfold imck at h
  have hk' : (decide (t % 2 = 0) || decide (W = H)) = true := by
    unfold kps at hk
    rw [Bool.or_eq_true, decide_eq_true_eq, decide_eq_true_eq]; exact hk
  rw [hk', decide_eq_true hc, Bool.not_true, Bool.or_self, Bool.false_or] at h
  rw [Bool.and_eq_true, Bool.and_eq_true, Bool.and_eq_true, Bool.and_eq_true] at h
  exact ⟨of_decide_eq_true h.1, of_decide_eq_true h.2.1, of_decide_eq_true h.2.2.1, of_decide_eq_true h.2.2.2.1, of_decide_eq_true h.2.2.2.2⟩
theorem im_0 {W H : Nat} (h2 : W ≤ 5) (h4 : H ≤ 5) {c : Nat} (hc : c < W * H) : im W H 0 c = c := (im_f h2 h4 (t := 0) (by omega) (Or.inl rfl) hc).2.2.2.2
/-- a heap turned -/
def tH (W H t : Nat) (f : Nat → Int) : Nat → Int := fun c => f (im W H (ivt t) c)
theorem tH_H {W H t : Nat} (h2 : W ≤ 5) (h4 : H ≤ 5) (ht : t < 8) (hk : kps W H t) {f : Nat → Int} (hf : ∀ c, c < W * H → Hgt (f c)) : ∀ c, c < W * H → Hgt (tH W H t f c) := fun c hc => hf _ (im_f h2 h4 ht hk hc).2.2.2.1
theorem keeps_s {W H : Nat} {w : Wd} (hg : GW W H w) {t : Nat} (ht : t < 8) : (kps W H t → fX6_keepsGround (iv t) w = some (1, w)) ∧ (¬ kps W H t → fX6_keepsGround (iv t) w = some (0, w)) := by
  have hW := hg.2.1
  have hH := hg.2.2.2.1
  unfold fX6_keepsGround jX6_keepsGround_25
  rw [iv_2, show iv 2 = iv ((2 : Nat) : Int) from rfl, rm_iv (by omega) (by omega) (by omega), bind_s, lines_s hg, bnd_s, lines_s hg, bnd_s, nL_1, nL_0]
  by_cases h : t % 2 = 0
  · rw [if_pos (by rw [h]; rfl)]
    exact ⟨fun _ => zr_1, fun z => absurd (Or.inl h) z⟩
  · rw [if_neg (by rw [iv_0, iv_eq (by omega) (by omega)]; omega)]
    by_cases e : W = H
    · rw [if_pos (by rw [e])]
      exact ⟨fun _ => zr_1, fun z => absurd (Or.inr e) z⟩
    · rw [if_neg (by rw [iv_eq (by omega) (by omega)]; omega)]
      exact ⟨fun z => absurd z (by unfold kps; omega), fun _ => zr_0⟩
theorem mkeeps_s {W H : Nat} {w : Wd} (hg : MW W H w) {t : Nat} (ht : t < 8) : (kps W H t → fX9_mayTurn (iv t) w = some (1, w)) ∧ (¬ kps W H t → fX9_mayTurn (iv t) w = some (0, w)) := by
  have hW := hg.2.1
  have hH := hg.2.2.2.1
  unfold fX9_mayTurn jX9_mayTurn_17
  rw [iv_2, show iv 2 = iv ((2 : Nat) : Int) from rfl, rm_iv (by omega) (by omega) (by omega), bind_s, hg.2.2.2.2.1, hg.2.2.2.2.2]
  by_cases h : t % 2 = 0
  · rw [if_pos (by rw [h]; rfl)]
    exact ⟨fun _ => zr_1, fun z => absurd (Or.inl h) z⟩
  · rw [if_neg (by rw [iv_0, iv_eq (by omega) (by omega)]; omega)]
    by_cases e : W = H
    · rw [if_pos (by rw [e])]
      exact ⟨fun _ => zr_1, fun z => absurd (Or.inr e) z⟩
    · rw [if_neg (by rw [iv_eq (by omega) (by omega)]; omega)]
      exact ⟨fun z => absurd z (by unfold kps; omega), fun _ => zr_0⟩
theorem x_s {W H : Nat} {w : Wd} (hg : Gnd W H w) {c : Nat} (hc : c < W * H) : fX2_x (iv c) w = some (iv (c % W : Nat), w) := by
  have := WH_le hg.1.2.1 hg.1.2.2.2.1
  unfold fX2_x
  rw [gI_iv (by rw [LI_2]; omega) (by rw [LI_2]; omega), bind_s, hg.2.1 c hc]
theorem y_s {W H : Nat} {w : Wd} (hg : Gnd W H w) {c : Nat} (hc : c < W * H) : fX2_y (iv c) w = some (iv (c / W : Nat), w) := by
  have := WH_le hg.1.2.1 hg.1.2.2.2.1
  unfold fX2_y
  rw [gI_iv (by rw [LI_3]; omega) (by rw [LI_3]; omega), bind_s, hg.2.2.1 c hc]
theorem image_s {W H : Nat} {w : Wd} (hg : Gnd W H w) {c : Nat} (hc : c < W * H) {t : Nat} (ht : t < 8) : fX6_image (iv c) (iv t) w = some (iv (im W H t c : Nat), w) := by
  have hx : c % W < W := Nat.mod_lt _ hg.1.1
  have hy : c / W < H := Nat.div_lt_of_lt_mul hc
  have hW := hg.1.2.1
  have hH := hg.1.2.2.2.1
  have j49 : ∀ X : Nat, X = imx W t c → X < W → jX6_image_49 (iv c) (iv t) (iv ((W : Int) - 1)) (iv ((H : Int) - 1)) (iv X) w = some (iv (im W H t c : Nat), w) := by
    intro X hX hXW
    unfold jX6_image_49 fX2_at im
    rw [y_s hg hc, bnd_s, iv_4, show iv 4 = iv ((4 : Nat) : Int) from rfl, rm_iv (by omega) (by omega) (by omega), bind_s, hg.1.2.2.2.2.1, ← hX]
    generalize c / W = y at *
    rcases (show t % 4 = 0 ∨ t % 4 = 1 ∨ t % 4 = 2 ∨ t % 4 = 3 by omega) with e | e | e | e <;> rw [e]
    · rw [if_neg (by decide), if_neg (by decide), if_neg (by decide), if_neg (by decide), if_neg (by decide), if_neg (by decide), bnd_s, iv_mul, iv_add, Int.natCast_add, Int.natCast_mul]
    · rw [if_pos (by decide), if_pos rfl, bnd_s, iv_sub, iv_mul, iv_add]
      congr 3
      omega
    · rw [if_neg (by decide), if_pos (by decide), if_neg (by decide), if_pos rfl, bnd_s, iv_sub, iv_sub, iv_mul, iv_add]
      rw [show ((H : Int) - 1 - y) = ((H - 1 - y : Nat) : Int) by omega, show ((W : Int) - 1 - X) = ((W - 1 - X : Nat) : Int) by omega, Int.natCast_add, Int.natCast_mul]
    · rw [if_neg (by decide), if_neg (by decide), if_pos (by decide), if_neg (by decide), if_neg (by decide), if_pos rfl, bnd_s, iv_sub, iv_mul, iv_add]
      rw [show ((W : Int) - 1 - X) = ((W - 1 - X : Nat) : Int) by omega, Int.natCast_add, Int.natCast_mul]
  unfold fX6_image
  rw [lines_s hg.1, bnd_s, lines_s hg.1, bnd_s, nL_1, nL_0, x_s hg hc, bnd_s, bnd_s, iv_1, iv_sub, iv_sub]
  by_cases h : t < 4
  · rw [if_neg (by rw [iv_4, iv_le (by omega) (by omega)]; omega)]
    exact j49 _ (by unfold imx; rw [if_pos h]) hx
  · rw [if_pos (by rw [iv_4, iv_le (by omega) (by omega)]; omega), iv_sub, show ((W : Int) - 1 - (c % W : Nat)) = ((W - 1 - c % W : Nat) : Int) by omega]
    exact j49 _ (by unfold imx; rw [if_neg h]) (by omega)
theorem comesTo_s {W H : Nat} {w : Wd} (hg : MW W H w) {c : Nat} (hc : c < W * H) {t : Nat} (ht : t < 8) : fX9_comesTo (iv c) (iv t) w = some (iv (im W H t c : Nat), w) := by
  have hN := WH_le hg.2.1 hg.2.2.2.1
  have hx : c % W < W := Nat.mod_lt _ hg.1
  have hy : c / W < H := Nat.div_lt_of_lt_mul hc
  have hW := hg.2.1
  have hH := hg.2.2.2.1
  have j49 : ∀ X : Nat, X = imx W t c → X < W → jX9_comesTo_27 (iv c) (iv t) (iv X) w = some (iv (im W H t c : Nat), w) := by
    intro X hX hXW
    unfold jX9_comesTo_27 im
    rw [hg.2.2.2.2.1, hg.2.2.2.2.2, dv_iv (by omega) hg.1 (by omega), bind_s, iv_4, show iv 4 = iv ((4 : Nat) : Int) from rfl, rm_iv (by omega) (by omega) (by omega), bind_s, ← hX]
    generalize c / W = y at *
    rcases (show t % 4 = 0 ∨ t % 4 = 1 ∨ t % 4 = 2 ∨ t % 4 = 3 by omega) with e | e | e | e <;> rw [e]
    · rw [if_pos (by decide), if_neg (by decide), if_neg (by decide), if_neg (by decide), iv_mul, iv_add, Int.natCast_add, Int.natCast_mul]
    · rw [if_neg (by decide), if_pos (by decide), if_pos rfl, iv_1, iv_mul, iv_add, iv_sub, iv_sub]
      congr 3
      omega
    · rw [if_neg (by decide), if_neg (by decide), if_pos (by decide), if_neg (by decide), if_pos rfl, iv_1, iv_sub, iv_sub, iv_mul, iv_add, iv_sub, iv_sub]
      rw [show ((H : Int) - 1 - y) = ((H - 1 - y : Nat) : Int) by omega]
      congr 3
      omega
    · rw [if_neg (by decide), if_neg (by decide), if_neg (by decide), if_neg (by decide), if_neg (by decide), if_pos rfl, iv_1, iv_sub, iv_sub, iv_mul, iv_add]
      rw [show ((W : Int) - 1 - X) = ((W - 1 - X : Nat) : Int) by omega, Int.natCast_add, Int.natCast_mul]
  unfold fX9_comesTo
  rw [hg.2.2.2.2.1, rm_iv (by omega) hg.1 (by omega), bind_s, bind_s]
  by_cases h : t < 4
  · rw [if_pos (by rw [iv_3, iv_le (by omega) (by omega)]; omega)]
    exact j49 _ (by unfold imx; rw [if_pos h]) hx
  · rw [if_neg (by rw [iv_3, iv_le (by omega) (by omega)]; omega), iv_1, iv_sub, iv_sub, show ((W : Int) - 1 - (c % W : Nat)) = ((W - 1 - c % W : Nat) : Int) by omega]
    exact j49 _ (by unfold imx; rw [if_neg h]) (by omega)
theorem LI_97 : LI 97 = 25 := by decide +kernel
theorem LI_98 : LI 98 = 25 := by decide +kernel
theorem LI_120 : LI 120 = 25 := by decide +kernel
theorem LI_121 : LI 121 = 25 := by decide +kernel
/-- what lies in a row after the turned heap was put there -/
theorem put_im {W H t : Nat} (h2 : W ≤ 5) (h4 : H ≤ 5) (ht : t < 8) (hk : kps W H t) {f : Nat → Int} {g : Nat → Int32} (h : ∀ c, c < W * H → g (im W H t c) = iv (f c)) : ∀ c, c < W * H → g c = iv (tH W H t f c) := fun c hc => by
  have hi := im_f h2 h4 ht hk hc
  have := h _ hi.2.2.2.1
  rw [hi.2.2.1] at this
  exact this
theorem turnTo_s {W H : Nat} {w : Wd} (hg : Gnd W H w) {k : Nat} (hk96 : k ≠ 97) (hk : W * H ≤ LI k) (hk2 : LI k ≤ 2000) {f : Nat → Int} (hf : ∀ c, c < W * H → w.1 k c = iv (f c)) {t : Nat} (ht : t < 8) (hkp : kps W H t) : ∃ w1, fX6_turnTo k (iv t) 97 w = some ((), w1) ∧ (∀ c, c < W * H → w1.1 97 c = iv (tH W H t f c)) ∧ Kp (fun q => q ≠ 97) w w1 := by
  have hN := WH_le hg.1.2.1 hg.1.2.2.2.1
  have himf := fun c hc => im_f hg.1.2.1 hg.1.2.2.2.1 ht hkp (c := c) hc
  unfold fX6_turnTo
  refine lpA (m := W * H) (fun r => ∃ w1, r = some ((), w1) ∧ (∀ c, c < W * H → w1.1 97 c = iv (tH W H t f c)) ∧ Kp (fun q => q ≠ 97) w w1) (fun i w' => (∀ c, c < i → w'.1 97 (im W H t c) = iv (f c)) ∧ Kp (fun q => q ≠ 97) w w') ?_ ?_ (hGn (by omega)) ⟨fun c hc => by omega, Kp.rf⟩
  · rintro i w' kk hi ⟨h1, h2⟩
    have hg' : Gnd W H w' := hg.kept (h2.weak fun k z => by omega)
    refine Or.inl ⟨uI w' 97 (im W H t i) (iv (f i)), ?_, fun c hc => ?_, h2.trans (Kp.uI (fun z => z rfl))⟩
    · unfold bX6_turnTo_3
      rw [cells_s hg'.1, bnd_s, if_neg (iv_Nle (by omega) hi), image_s hg' hi ht, bnd_s, gI_iv (by omega) hk2, bind_s, sI_iv (by rw [LI_97]; have := (himf i hi).1; omega) (by rw [LI_97]; omega), bind_s, iv_s1, (h2 k hk96).1, hf i hi]
    · by_cases e : c = i
      · subst e; exact uI_same
      · rw [uI_other (Or.inr (fun z => e (by rw [← (himf c (by omega)).2.1, z, (himf i hi).2.1])))]
        exact h1 c (by omega)
  · rintro w' kk ⟨h1, h2⟩
    have hg' : Gnd W H w' := hg.kept (h2.weak fun k z => by omega)
    refine ⟨w', ?_, put_im hg.1.2.1 hg.1.2.2.2.1 ht hkp (g := w'.1 97) h1, h2⟩
    unfold bX6_turnTo_3
    rw [cells_s hg'.1, bnd_s, if_pos iv_Nle']
theorem layTurned_s {W H : Nat} {w : Wd} (hg : MW W H w) {s : Nat} (hs : s < 4) {f : Nat → Int} (hf : ∀ c, c < W * H → w.1 100 (25 * s + c) = iv (f c)) {t : Nat} (ht : t < 8) (hkp : kps W H t) : ∃ w1, fX9_layTurned (iv s) (iv t) w = some ((), w1) ∧ (∀ c, c < W * H → w1.1 120 c = iv (tH W H t f c)) ∧ Kp (fun q => q ≠ 120) w w1 := by
  have hN := WH_le hg.2.1 hg.2.2.2.1
  have himf := fun c hc => im_f hg.2.1 hg.2.2.2.1 ht hkp (c := c) hc
  unfold fX9_layTurned
  refine lpA (m := W * H) (fun r => ∃ w1, r = some ((), w1) ∧ (∀ c, c < W * H → w1.1 120 c = iv (tH W H t f c)) ∧ Kp (fun q => q ≠ 120) w w1) (fun i w' => (∀ c, c < i → w'.1 120 (im W H t c) = iv (f c)) ∧ Kp (fun q => q ≠ 120) w w') ?_ ?_ (hGn (by omega)) ⟨fun c hc => by omega, Kp.rf⟩
  · rintro i w' kk hi ⟨h1, h2⟩
    have hg' : MW W H w' := hg.kept (h2 99 (by omega)).1
    refine Or.inl ⟨uI w' 120 (im W H t i) (iv (f i)), ?_, fun c hc => ?_, h2.trans (Kp.uI (fun z => z rfl))⟩
    · unfold bX9_layTurned_2
      rw [mcells_s hg', bnd_s, if_neg (iv_Nle (by omega) hi), comesTo_s hg' hi ht, bnd_s, iv_25sc, gI_iv (by rw [LI_100]; omega) (by rw [LI_100]; omega), bind_s, sI_iv (by rw [LI_120]; have := (himf i hi).1; omega) (by rw [LI_120]; omega), bind_s, iv_s1, (h2 100 (by omega)).1, hf i hi]
    · by_cases e : c = i
      · subst e; exact uI_same
      · rw [uI_other (Or.inr (fun z => e (by rw [← (himf c (by omega)).2.1, z, (himf i hi).2.1])))]
        exact h1 c (by omega)
  · rintro w' kk ⟨h1, h2⟩
    have hg' : MW W H w' := hg.kept (h2 99 (by omega)).1
    refine ⟨w', ?_, put_im hg.2.1 hg.2.2.2.1 ht hkp (g := w'.1 120) h1, h2⟩
    unfold bX9_layTurned_2
    rw [mcells_s hg', bnd_s, if_pos iv_Nle']
/-- the first place where two rows differ tells -/
def lxd (f g : Nat → Int) : Nat → Int
  | 0 => 0
  | n + 1 => if lxd f g n = 0 then f n - g n else lxd f g n
theorem lxd_st {f g : Nat → Int} {i : Nat} (h : lxd f g i ≠ 0) : ∀ n, i ≤ n → lxd f g n = lxd f g i
  | 0, h1 => by rw [show i = 0 by omega]
  | n + 1, h1 => by
    by_cases e : i = n + 1
    · rw [e]
    · have ih := lxd_st h n (by omega)
      show (if lxd f g n = 0 then f n - g n else lxd f g n) = lxd f g i
      rw [if_neg (by rw [ih]; exact h), ih]
theorem lxd_eq {f g : Nat → Int} {i : Nat} (h : lxd f g i = 0) : lxd f g (i + 1) = f i - g i := if_pos h
theorem lxd_congr {f g f' g' : Nat → Int} : ∀ {n : Nat}, (∀ i, i < n → f i = f' i ∧ g i = g' i) → lxd f g n = lxd f' g' n
  | 0, _ => rfl
  | n + 1, h => by
    have e1 := lxd_congr (n := n) (fun i hi => h i (by omega))
    have e2 := h n (by omega)
    show (if lxd f g n = 0 then f n - g n else lxd f g n) = (if lxd f' g' n = 0 then f' n - g' n else lxd f' g' n)
    rw [e1, e2.1, e2.2]
theorem lxd_bd {f g : Nat → Int} : ∀ {n : Nat}, (∀ i, i < n → Hgt (f i) ∧ Hgt (g i)) → -4 ≤ lxd f g n ∧ lxd f g n ≤ 4
  | 0, _ => by show -4 ≤ (0 : Int) ∧ (0 : Int) ≤ 4; omega
  | n + 1, h => by
    have e1 := lxd_bd (n := n) (fun i hi => h i (by omega))
    have e2 := h n (by omega)
    unfold Hgt at e2
    show -4 ≤ (if lxd f g n = 0 then f n - g n else lxd f g n) ∧ (if lxd f g n = 0 then f n - g n else lxd f g n) ≤ 4
    split <;> omega
theorem lxd_dif (f g : Nat → Int) : ∀ n, sm (dif f g) n = 0 ↔ lxd f g n = 0
  | 0 => by constructor <;> intro _ <;> rfl
  | n + 1 => by
    have ih := lxd_dif f g n
    have b1 : 0 ≤ sm (dif f g) n := sm_nonneg (fun i _ => (dif_bd f g i).1)
    have b2 := (dif_bd f g n).1
    show sm (dif f g) n + dif f g n = 0 ↔ (if lxd f g n = 0 then f n - g n else lxd f g n) = 0
    by_cases e : lxd f g n = 0
    · rw [if_pos e, ih.mpr e]
      unfold dif
      by_cases q : f n = g n
      · rw [if_pos q]; omega
      · rw [if_neg q]; omega
    · rw [if_neg e]
      have : sm (dif f g) n ≠ 0 := fun z => e (ih.mp z)
      constructor <;> intro h
      · omega
      · exact absurd h e
theorem compare_s {W H : Nat} {w : Wd} (hg : GW W H w) {k j : Nat} (hk : W * H ≤ LI k) (hk2 : LI k ≤ 2000) (hj : W * H ≤ LI j) (hj2 : LI j ≤ 2000) {f g : Nat → Int} (hf : ∀ c, c < W * H → w.1 k c = iv (f c) ∧ Hgt (f c)) (hgg : ∀ c, c < W * H → w.1 j c = iv (g c) ∧ Hgt (g c)) : fX2_compare k j w = some (iv (lxd f g (W * H)), w) := by
  have hN := WH_le hg.2.1 hg.2.2.2.1
  unfold fX2_compare
  refine lpA (m := W * H) (fun r => r = some (iv (lxd f g (W * H)), w)) (fun i w' => lxd f g i = 0 ∧ w' = w) ?_ ?_ (hGn (by omega)) ⟨rfl, rfl⟩
  · rintro i w' kk hi ⟨h1, rfl⟩
    have e1 := hf i hi
    have e2 := hgg i hi
    unfold bX2_compare_2
    rw [cells_s hg, bnd_s, if_neg (iv_Nle (by omega) hi), gI_iv (by omega) hk2, bind_s, gI_iv (by omega) hj2, bind_s, bind_s, bind_s, e1.1, e2.1, iv_s1]
    by_cases e : f i = g i
    · rw [if_pos (by rw [e])]
      exact Or.inl ⟨w', rfl, by rw [lxd_eq h1]; omega, rfl⟩
    · rw [if_neg (by rw [iv_eq e1.2.rg e2.2.rg]; exact e)]
      refine Or.inr ?_
      have h2 := lxd_eq h1
      rw [iv_sub, lxd_st (f := f) (g := g) (i := i + 1) (by omega) (W * H) (by omega), h2]
  · rintro w' kk ⟨h1, rfl⟩
    unfold bX2_compare_2
    rw [cells_s hg, bnd_s, if_pos iv_Nle', h1]; rfl
theorem unlike_s {W H : Nat} {w : Wd} (hg : MW W H w) {s : Nat} (hs : s < 4) {f g : Nat → Int} (hf : ∀ c, c < W * H → w.1 120 c = iv (f c) ∧ Hgt (f c)) (hgg : ∀ c, c < W * H → w.1 100 (25 * s + c) = iv (g c) ∧ Hgt (g c)) : fX9_unlikeTurned (iv s) w = some (iv (sm (dif f g) (W * H)), w) := by
  have hN := WH_le hg.2.1 hg.2.2.2.1
  unfold fX9_unlikeTurned
  refine lpB (m := W * H) (fun r => r = some (iv (sm (dif f g) (W * H)), w)) (fun i x w' => x = iv (sm (dif f g) i) ∧ w' = w) ?_ ?_ (hGn (by omega)) ⟨rfl, rfl⟩
  · rintro i x w' kk hi ⟨rfl, rfl⟩
    have e1 := hf i hi
    have e2 := hgg i hi
    refine Or.inl ⟨iv (sm (dif f g) (i + 1)), w', ?_, rfl, rfl⟩
    unfold bX9_unlikeTurned_4 jX9_unlikeTurned_38
    rw [mcells_s hg, bnd_s, if_neg (iv_Nle (by omega) hi), gI_iv (by rw [LI_120]; omega) (by rw [LI_120]; omega), bind_s, iv_25sc, gI_iv (by rw [LI_100]; omega) (by rw [LI_100]; omega), bind_s, e1.1, e2.1, iv_s1, sm_s]
    by_cases e : f i = g i
    · rw [if_pos (by rw [e]), show dif f g i = 0 from if_pos e, show (0 : Int32) = iv 0 by decide, iv_add]
    · rw [if_neg (by rw [iv_eq e1.2.rg e2.2.rg]; exact e), show dif f g i = 1 from if_neg e, iv_1, iv_add]
  · rintro x w' kk ⟨rfl, rfl⟩
    unfold bX9_unlikeTurned_4
    rw [mcells_s hg, bnd_s, if_pos iv_Nle']
theorem ahead_s {W H : Nat} {w : Wd} (hg : MW W H w) {f g : Nat → Int} (hf : ∀ c, c < W * H → w.1 120 c = iv (f c) ∧ Hgt (f c)) (hgg : ∀ c, c < W * H → w.1 121 c = iv (g c) ∧ Hgt (g c)) : fX9_isTurnedAhead w = some (if lxd f g (W * H) < 0 then 1 else 0, w) := by
  have hN := WH_le hg.2.1 hg.2.2.2.1
  unfold fX9_isTurnedAhead
  refine lpA (m := W * H) (fun r => r = some (if lxd f g (W * H) < 0 then 1 else 0, w)) (fun i w' => lxd f g i = 0 ∧ w' = w) ?_ ?_ (hGn (by omega)) ⟨rfl, rfl⟩
  · rintro i w' kk hi ⟨h1, rfl⟩
    have e1 := hf i hi
    have e2 := hgg i hi
    have b1 := e1.2
    have b2 := e2.2
    unfold Hgt at b1 b2
    unfold bX9_isTurnedAhead_2
    rw [mcells_s hg, bnd_s, if_neg (iv_Nle (by omega) hi), gI_iv (by rw [LI_120]; omega) (by rw [LI_120]; omega), bind_s, gI_iv (by rw [LI_121]; omega) (by rw [LI_121]; omega), bind_s, bind_s, bind_s, e1.1, e2.1, iv_s1]
    by_cases e : f i = g i
    · rw [if_pos (by rw [e])]
      exact Or.inl ⟨w', rfl, by rw [lxd_eq h1]; omega, rfl⟩
    · rw [if_neg (by rw [iv_eq e1.2.rg e2.2.rg]; exact e)]
      refine Or.inr ?_
      have h2 := lxd_eq h1
      rw [lxd_st (f := f) (g := g) (i := i + 1) (by omega) (W * H) (by omega), h2]
      by_cases q : g i ≤ f i
      · rw [if_pos (by rw [iv_le (by omega) (by omega)]; exact q), if_neg (by omega)]; exact zr_0
      · rw [if_neg (by rw [iv_le (by omega) (by omega)]; exact q), if_pos (by omega)]; exact zr_1
  · rintro w' kk ⟨h1, rfl⟩
    unfold bX9_isTurnedAhead_2
    rw [mcells_s hg, bnd_s, if_pos iv_Nle', h1, if_neg (by omega)]; exact zr_0
