/-! ===== loops, once for all; told as a slot has it ===== -/
/-- a loop that counts from 0 to m, or leaves before -/
theorem lpA {ρ : Type} {z : Int32 → Wd → ρ} {b : (Int32 → Wd → ρ) → Int32 → Wd → ρ} {m : Nat} (Q : ρ → Prop) (Inv : Nat → Wd → Prop) (hb : ∀ i w k, i < m → Inv i w → (∃ w', b k (iv i) w = k (iv ((i + 1 : Nat) : Int)) w' ∧ Inv (i + 1) w') ∨ Q (b k (iv i) w)) (he : ∀ w k, Inv m w → Q (b k (iv m) w)) {n : Nat} (hn : m < n) {w : Wd} (h0 : Inv 0 w) : Q (lp z b n (0 : Int32) w) := by
  have key : ∀ n i w, i ≤ m → m - i < n → Inv i w → Q (lp z b n (iv i) w) := by
    intro n
    induction n with
    | zero => intro i w h1 h2; omega
    | succ n ih =>
      intro i w h1 h2 h3
      rw [lp_s]
      by_cases e : i = m
      · rw [e] at h3 ⊢; exact he _ _ h3
      · rcases hb i w (lp z b n) (by omega) h3 with ⟨w', e1, e2⟩ | q
        · rw [e1]; exact ih (i + 1) w' (by omega) (by omega) e2
        · exact q
  rw [iv_0]
  exact key n 0 w (by omega) (by omega) h0
theorem lpB {ρ : Type} {z : Int32 → Int32 → Wd → ρ} {b : (Int32 → Int32 → Wd → ρ) → Int32 → Int32 → Wd → ρ} {m : Nat} (Q : ρ → Prop) (Inv : Nat → Int32 → Wd → Prop) (hb : ∀ i x w k, i < m → Inv i x w → (∃ x' w', b k x (iv i) w = k x' (iv ((i + 1 : Nat) : Int)) w' ∧ Inv (i + 1) x' w') ∨ Q (b k x (iv i) w)) (he : ∀ x w k, Inv m x w → Q (b k x (iv m) w)) {n : Nat} (hn : m < n) {x : Int32} {w : Wd} (h0 : Inv 0 x w) : Q (lp z b n x (0 : Int32) w) := by
  have key : ∀ n i x w, i ≤ m → m - i < n → Inv i x w → Q (lp z b n x (iv i) w) := by
    intro n
    induction n with
    | zero => intro i x w h1 h2; omega
    | succ n ih =>
      intro i x w h1 h2 h3
      rw [lp_s]
      by_cases e : i = m
      · rw [e] at h3 ⊢; exact he _ _ _ h3
      · rcases hb i x w (lp z b n) (by omega) h3 with ⟨x', w', e1, e2⟩ | q
        · rw [e1]; exact ih (i + 1) x' w' (by omega) (by omega) e2
        · exact q
  rw [iv_0]
  exact key n 0 x w (by omega) (by omega) h0
theorem lpC {ρ : Type} {z : Int32 → Int32 → Int32 → Wd → ρ} {b : (Int32 → Int32 → Int32 → Wd → ρ) → Int32 → Int32 → Int32 → Wd → ρ} {m : Nat} (Q : ρ → Prop) (Inv : Nat → Int32 → Int32 → Wd → Prop) (hb : ∀ i x y w k, i < m → Inv i x y w → (∃ x' y' w', b k x y (iv i) w = k x' y' (iv ((i + 1 : Nat) : Int)) w' ∧ Inv (i + 1) x' y' w') ∨ Q (b k x y (iv i) w)) (he : ∀ x y w k, Inv m x y w → Q (b k x y (iv m) w)) {n : Nat} (hn : m < n) {x y : Int32} {w : Wd} (h0 : Inv 0 x y w) : Q (lp z b n x y (0 : Int32) w) := by
  have key : ∀ n i x y w, i ≤ m → m - i < n → Inv i x y w → Q (lp z b n x y (iv i) w) := by
    intro n
    induction n with
    | zero => intro i x y w h1 h2; omega
    | succ n ih =>
      intro i x y w h1 h2 h3
      rw [lp_s]
      by_cases e : i = m
      · rw [e] at h3 ⊢; exact he _ _ _ _ h3
      · rcases hb i x y w (lp z b n) (by omega) h3 with ⟨x', y', w', e1, e2⟩ | q
        · rw [e1]; exact ih (i + 1) x' y' w' (by omega) (by omega) e2
        · exact q
  rw [iv_0]
  exact key n 0 x y w (by omega) (by omega) h0
/-- a loop of any form; what is left to do grows less -/
theorem lpG {α σ ρ : Type} (ap : α → σ → ρ) {z : α} {b : α → α} (Q : ρ → Prop) (Inv : Nat → σ → Prop) (hb : ∀ m s k, Inv m s → (∃ s' m', m' < m ∧ ap (b k) s = ap k s' ∧ Inv m' s') ∨ Q (ap (b k) s)) : ∀ (n m : Nat) (s : σ), m < n → Inv m s → Q (ap (lp z b n) s) := by
  intro n
  induction n with
  | zero => intro m s h; omega
  | succ n ih =>
    intro m s h1 h2
    rw [lp_s]
    rcases hb m s (lp z b n) h2 with ⟨s', m', hm, e1, e2⟩ | q
    · rw [e1]; exact ih m' s' (by omega) e2
    · exact q
theorem iv_Nle {i m : Nat} (hm : m < 1000000) (h : i < m) : ¬ iv m ≤ iv i := by rw [iv_le (by omega) (by omega)]; omega
theorem iv_Nle' {m : Nat} : iv m ≤ iv m := Int32.le_refl _
theorem hGn {m : Nat} (h : m ≤ 1000000000) : m < G := by have := hG; omega
/-- the tops told one by one as a slot has them -/
def tpA (s : Nat) (a : Ab) : Nat → Ab
  | 0 => a
  | i + 1 => aTop (tpA s a i) i (tpO (aP a s i))
theorem tpA_1 (s : Nat) (a : Ab) : ∀ i, (tpA s a i).1 = a.1
  | 0 => rfl
  | i + 1 => tpA_1 s a i
theorem tpA_P (s : Nat) (a : Ab) : ∀ i, (tpA s a i).2.1 = a.2.1
  | 0 => rfl
  | i + 1 => tpA_P s a i
theorem tpA_get (s : Nat) (a : Ab) : ∀ i l, i ≤ l → aT (tpA s a i) l = aT a l
  | 0, _, _ => rfl
  | i + 1, l, h => by
    have e : aT (tpA s a (i + 1)) l = aT (tpA s a i) l := if_neg (by omega)
    rw [e]; exact tpA_get s a i l (by omega)
theorem tpO_top (z : Int) : Top (tpO z) := by unfold tpO Top; split <;> omega
theorem tpA_ok {a : Ab} (ha : AbOK a) (s : Nat) : ∀ i, AbOK (tpA s a i)
  | 0 => ha
  | i + 1 => (tpA_ok ha s i).top i (tpO_top _)
def dfT (a : Ab) (s : Nat) : Nat → Int := fun c => if aT a c = tpO (aP a s c) then 0 else 1
section STEPS
variable {FT : Tl → Wd → Prop} {t : Nat} {w : Wd}
theorem aN_eq {a a' : Ab} (h : a'.1 = a.1) : aN a' = aN a := by unfold aN; rw [h]
theorem nL_eq {a a' : Ab} (h : a'.1 = a.1) (col : Int32) : nL (aW a') (aH a') col = nL (aW a) (aH a) col := by unfold aW aH; rw [h]
theorem topsAs_s {a : Ab} (ha : AbOK a) (hc : CS a w) {s : Nat} (hs : s < 4) : ∃ w1, fX5_topsAs (6 + s) w = some (iv (sm (dfT a s) (aN a)), w1) ∧ CS (tpA s a (aN a)) w1 ∧ w1.1 14 4 = w.1 14 4 + iv (aN a : Nat) ∧ Kp (fun k => k ≠ 14 ∧ k ≠ 18) w w1 := by
  have hN := aN_le ha
  unfold fX5_topsAs
  refine lpB (m := aN a) (fun r => ∃ w1, r = some (iv (sm (dfT a s) (aN a)), w1) ∧ CS (tpA s a (aN a)) w1 ∧ w1.1 14 4 = w.1 14 4 + iv (aN a : Nat) ∧ Kp (fun k => k ≠ 14 ∧ k ≠ 18) w w1) (fun i x w' => x = iv (sm (dfT a s) i) ∧ CS (tpA s a i) w' ∧ w'.1 14 4 = w.1 14 4 + iv i ∧ Kp (fun k => k ≠ 14 ∧ k ≠ 18) w w') ?_ ?_ (hGn (by omega)) ⟨rfl, hc, by rw [show iv ((0 : Nat) : Int) = 0 by decide, Int32.add_zero], Kp.rf⟩
  · rintro i x w' k hi ⟨rfl, hc', h14, hkp⟩
    refine Or.inl ?_
    have e1 := aN_eq (tpA_1 s a i)
    have ha' := tpA_ok ha s i
    have e2 : aP (tpA s a i) s i = aP a s i := by unfold aP; rw [tpA_P s a i]
    have ht := ha.2.2.2.2.1 i hi
    have tr := tpO_rg (aP a s i)
    unfold bX5_topsAs_4 jX5_topsAs_37
    rw [cells_a hc', bnd_s, e1, if_neg (iv_Nle (by omega) hi), topOf_s ha' hc' hs (by omega), bnd_s, putTop_s ha' hc' (by omega), bnd_s, e2, tpA_get s a i i (Nat.le_refl _), iv_s1]
    refine ⟨iv (sm (dfT a s) (i + 1)), _, ?_, rfl, hc'.top i _ (w'.1 14 4 + 1), ?_, hkp.trans ((Kp.uI (fun z => z.1 rfl)).trans (Kp.uI (fun z => z.2 rfl)))⟩
    · rw [sm_s]
      by_cases q : aT a i = tpO (aP a s i)
      · rw [if_pos (by rw [iv_eq ht.rg tr]; exact q), show dfT a s i = 0 from if_pos q, Int.add_zero]
      · rw [if_neg (by rw [iv_eq ht.rg tr]; exact q), show dfT a s i = 1 from if_neg q, iv_1, iv_add]
    · rw [uI_row (by omega), uI_same, h14, ← iv_s1, Int32.add_assoc]
  · rintro x w' k ⟨rfl, hc', h14, hkp⟩
    unfold bX5_topsAs_4
    rw [cells_a hc', bnd_s, aN_eq (tpA_1 s a _), if_pos iv_Nle']
    exact ⟨w', rfl, hc', h14, hkp⟩
theorem mtellAs_s {a : Ab} (ha : AbOK a) (hm : MS a w) {s : Nat} (hs : s < 4) (T : Int32) : ∃ w1, lp (fun _ _ _ => none) (bX9_tellAs_14 (iv s) T) G (0 : Int32) (0 : Int32) w = some (iv (sm (dfL a s 1) (aW a) + sm (dfL (tlA s 1 a (aW a)) s 0) (aH a) + (if T = 0 then 0 else sm (dfT (tlA s 0 (tlA s 1 a (aW a)) (aH a)) s) (aN a))), w1) ∧ MS (if T = 0 then tlA s 0 (tlA s 1 a (aW a)) (aH a) else tpA s (tlA s 0 (tlA s 1 a (aW a)) (aH a)) (aN a)) w1 ∧ Kp cR w w1 := by
  have hN := aN_le ha
  have hW5 := ha.1.2.1
  have hH5 := ha.1.2.2.2
  generalize e1 : tlA s 1 a (aW a) = a1
  generalize e2 : tlA s 0 a1 (aH a) = a2
  have d1 : a1.1 = a.1 := by rw [← e1]; exact tlA_1 s 1 a _
  have d2 : a2.1 = a.1 := by rw [← e2, tlA_1 s 0 a1 _]; exact d1
  have ok1 : AbOK a1 := by rw [← e1]; exact tlA_ok ha hs 1 _ (by rw [nL_1]; exact Nat.le_refl _)
  have hH1 : aH a1 = aH a := by unfold aH; rw [d1]
  have ok2 : AbOK a2 := by rw [← e2]; exact tlA_ok ok1 hs 0 _ (by rw [nL_0, hH1]; exact Nat.le_refl _)
  have hN2 : aN a2 = aN a := aN_eq d2
  have k3 : ∀ (w0 : Wd) (V : Int), MS a2 w0 → Kp cR w w0 → ∃ w1, lp (fun _ _ _ => none) (bX9_tellAs_132 (iv s) T) G (iv V) (0 : Int32) w0 = some (iv (V + (if T = 0 then 0 else sm (dfT a2 s) (aN a))), w1) ∧ MS (if T = 0 then a2 else tpA s a2 (aN a)) w1 ∧ Kp cR w w1 := by
    intro w0 V hm0 hk0
    by_cases hT : T = 0
    · rw [if_pos hT, if_pos hT]
      refine lpB (m := aN a) (fun r => ∃ w1, r = some (iv (V + 0), w1) ∧ MS a2 w1 ∧ Kp cR w w1) (fun i x w' => x = iv V ∧ MS a2 w' ∧ Kp cR w w') ?_ ?_ (hGn (by omega)) ⟨rfl, hm0, hk0⟩
      · rintro i x w' k hi ⟨rfl, hm', hkp⟩
        refine Or.inr ⟨w', ?_, hm', hkp⟩
        unfold bX9_tellAs_132
        rw [mcells_a hm', bnd_s, hN2, if_neg (iv_Nle (by omega) hi), if_pos hT, Int.add_zero]
      · rintro x w' k ⟨rfl, hm', hkp⟩
        refine ⟨w', ?_, hm', hkp⟩
        unfold bX9_tellAs_132
        rw [mcells_a hm', bnd_s, hN2, if_pos iv_Nle', Int.add_zero]
    · rw [if_neg hT, if_neg hT]
      refine lpB (m := aN a) (fun r => ∃ w1, r = some (iv (V + sm (dfT a2 s) (aN a)), w1) ∧ MS (tpA s a2 (aN a)) w1 ∧ Kp cR w w1) (fun i x w' => x = iv (V + sm (dfT a2 s) i) ∧ MS (tpA s a2 i) w' ∧ Kp cR w w') ?_ ?_ (hGn (by omega)) ⟨by rw [show sm (dfT a2 s) 0 = 0 from rfl, Int.add_zero], hm0, hk0⟩
      · rintro i x w' k hi ⟨rfl, hm', hkp⟩
        have f1 := aN_eq (tpA_1 s a2 i)
        have ha' := tpA_ok ok2 s i
        have f2 : aP (tpA s a2 i) s i = aP a2 s i := by unfold aP; rw [tpA_P s a2 i]
        have ht := ok2.2.2.2.2.1 i (by omega)
        have hh := ok2.2.1 s hs i (by omega)
        unfold Hgt at hh
        have tr := tpO_rg (aP a2 s i)
        have fin : ∀ y : Int32, y = iv (tpO (aP a2 s i)) → ∃ x' w'', (if iv (aT a2 i) = y then (sI w' 103 (iv i) y).bind (fun w19 => k (iv (V + sm (dfT a2 s) i) + (0 : Int32)) (iv i + (1 : Int32)) w19) else (sI w' 103 (iv i) y).bind (fun w19 => k (iv (V + sm (dfT a2 s) i) + (1 : Int32)) (iv i + (1 : Int32)) w19)) = k x' (iv ((i + 1 : Nat) : Int)) w'' ∧ x' = iv (V + sm (dfT a2 s) (i + 1)) ∧ MS (tpA s a2 (i + 1)) w'' ∧ Kp cR w w'' := by
          intro y hy
          rw [hy, sI_iv (by rw [LI_103]; omega) (by rw [LI_103]; omega), bind_s, bind_s, iv_s1]
          refine ⟨iv (V + sm (dfT a2 s) (i + 1)), _, ?_, rfl, hm'.top i _, hkp.trans (Kp.uI (by unfold cR; omega))⟩
          rw [sm_s]
          by_cases q : aT a2 i = tpO (aP a2 s i)
          · rw [if_pos (by rw [iv_eq ht.rg tr]; exact q), show dfT a2 s i = 0 from if_pos q, show (0 : Int32) = iv 0 by decide, iv_add, Int.add_assoc]
          · rw [if_neg (by rw [iv_eq ht.rg tr]; exact q), show dfT a2 s i = 1 from if_neg q, iv_1, iv_add, Int.add_assoc]
        refine Or.inl ?_
        unfold bX9_tellAs_132 jX9_tellAs_165 jX9_tellAs_185
        rw [mcells_a hm', bnd_s, f1, hN2, if_neg (iv_Nle (by omega) hi), if_neg hT, iv_25sc, gI_iv (by rw [LI_100]; omega) (by rw [LI_100]; omega), bind_s, (hm'.slot ha' hs i (by omega)).1, f2, gI_iv (by rw [LI_103]; omega) (by rw [LI_103]; omega), bind_s, bind_s, hm'.2.2.2.2.1 i (by omega), tpA_get s a2 i i (Nat.le_refl _)]
        by_cases q3 : aP a2 s i ≤ 0
        · rw [if_pos (by rw [iv_0, iv_le (by omega) (by omega)]; exact q3)]
          exact fin 0 (by unfold tpO; rw [if_neg (by omega)]; rfl)
        · rw [if_neg (by rw [iv_0, iv_le (by omega) (by omega)]; exact q3)]
          exact fin 1 (by unfold tpO; rw [if_pos (by omega)]; rfl)
      · rintro x w' k ⟨rfl, hm', hkp⟩
        refine ⟨w', ?_, hm', hkp⟩
        unfold bX9_tellAs_132
        rw [mcells_a hm', bnd_s, aN_eq (tpA_1 s a2 _), hN2, if_pos iv_Nle']
  have k2 : ∀ (w0 : Wd) (V : Int), MS a1 w0 → Kp cR w w0 → ∃ w1, lp (fun _ _ _ => none) (bX9_tellAs_73 (iv s) T) G (iv V) (0 : Int32) w0 = some (iv (V + sm (dfL a1 s 0) (aH a) + (if T = 0 then 0 else sm (dfT a2 s) (aN a))), w1) ∧ MS (if T = 0 then a2 else tpA s a2 (aN a)) w1 ∧ Kp cR w w1 := by
    intro w0 V hm0 hk0
    refine lpB (m := aH a) (fun r => ∃ w1, r = some (iv (V + sm (dfL a1 s 0) (aH a) + (if T = 0 then 0 else sm (dfT a2 s) (aN a))), w1) ∧ MS (if T = 0 then a2 else tpA s a2 (aN a)) w1 ∧ Kp cR w w1) (fun i x w' => x = iv (V + sm (dfL a1 s 0) i) ∧ MS (tlA s 0 a1 i) w' ∧ Kp cR w w') ?_ ?_ (hGn (by omega)) ⟨by rw [show sm (dfL a1 s 0) 0 = 0 from rfl, Int.add_zero], hm0, hk0⟩
    · rintro i x w' k hi ⟨rfl, hm', hkp⟩
      have g1 : (tlA s 0 a1 i).1 = a1.1 := tlA_1 s 0 a1 i
      have gH : aH (tlA s 0 a1 i) = aH a := by unfold aH; rw [g1, d1]
      have hi1 : i < nL (aW a1) (aH a1) 0 := by rw [nL_0]; omega
      have ha' := tlA_ok ok1 hs 0 i (by omega)
      have hi' : i < nL (aW (tlA s 0 a1 i)) (aH (tlA s 0 a1 i)) 0 := by rw [nL_0]; omega
      have f1 : mxL (tlA s 0 a1 i) s 0 i = mxL a1 s 0 i := mxL_eq (tlA_1 s 0 a1 i) (tlA_P s 0 a1 i) s 0 i
      have f2 : aS (tlA s 0 a1 i) i = getL 0 (aF a1) (aS a1) i := by rw [← tlA_get s 0 a1 i i (Nat.le_refl _), getL_0]
      have ht := getL_tol ok1 hi1
      have hx := mxL_bd ok1 hs hi1
      refine Or.inl ?_
      unfold bX9_tellAs_73 jX9_tellAs_106
      rw [hm'.1.2.2.2.2.2, gH, if_neg (iv_Nle (by omega) hi), gI_iv (by rw [LI_102]; omega) (by rw [LI_102]; omega), bind_s, greatest_m ha' hm' hs hi', bnd_s, greatest_m ha' hm' hs hi', bnd_s, bnd_s, hm'.2.2.2.1 i (by omega), f1, f2, sI_iv (by rw [LI_102]; omega) (by rw [LI_102]; omega), bind_s, bind_s, iv_s1]
      have hm2 := hm'.tell 0 i (mxL a1 s 0 i)
      rw [if_pos rfl] at hm2
      refine ⟨iv (V + sm (dfL a1 s 0) (i + 1)), _, ?_, rfl, hm2, hkp.trans (Kp.uI (by unfold cR; omega))⟩
      rw [sm_s]
      by_cases q : getL 0 (aF a1) (aS a1) i = mxL a1 s 0 i
      · rw [if_pos (by rw [iv_eq ht.rg hx.rg]; exact q), show dfL a1 s 0 i = 0 from if_pos q, show (0 : Int32) = iv 0 by decide, iv_add, Int.add_assoc]
      · rw [if_neg (by rw [iv_eq ht.rg hx.rg]; exact q), show dfL a1 s 0 i = 1 from if_neg q, iv_1, iv_add, Int.add_assoc]
    · rintro x w' k ⟨rfl, hm', hkp⟩
      rw [e2] at hm'
      have gH : aH a2 = aH a := by unfold aH; rw [d2]
      unfold bX9_tellAs_73
      rw [hm'.1.2.2.2.2.2, gH, if_pos iv_Nle']
      exact k3 w' _ hm' hkp
  refine lpB (m := aW a) (fun r => ∃ w1, r = some (iv (sm (dfL a s 1) (aW a) + sm (dfL a1 s 0) (aH a) + (if T = 0 then 0 else sm (dfT a2 s) (aN a))), w1) ∧ MS (if T = 0 then a2 else tpA s a2 (aN a)) w1 ∧ Kp cR w w1) (fun i x w' => x = iv (sm (dfL a s 1) i) ∧ MS (tlA s 1 a i) w' ∧ Kp cR w w') ?_ ?_ (hGn (by omega)) ⟨rfl, hm, Kp.rf⟩
  · rintro i x w' k hi ⟨rfl, hm', hkp⟩
    have g1 : (tlA s 1 a i).1 = a.1 := tlA_1 s 1 a i
    have gH : aW (tlA s 1 a i) = aW a := by unfold aW; rw [g1]
    have hi1 : i < nL (aW a) (aH a) 1 := by rw [nL_1]; omega
    have ha' := tlA_ok ha hs 1 i (by omega)
    have hi' : i < nL (aW (tlA s 1 a i)) (aH (tlA s 1 a i)) 1 := by rw [nL_1]; omega
    have f1 : mxL (tlA s 1 a i) s 1 i = mxL a s 1 i := mxL_eq (tlA_1 s 1 a i) (tlA_P s 1 a i) s 1 i
    have f2 : aF (tlA s 1 a i) i = getL 1 (aF a) (aS a) i := by rw [← tlA_get s 1 a i i (Nat.le_refl _), getL_1]
    have ht := getL_tol ha hi1
    have hx := mxL_bd ha hs hi1
    refine Or.inl ?_
    unfold bX9_tellAs_14 jX9_tellAs_47
    rw [hm'.1.2.2.2.2.1, gH, if_neg (iv_Nle (by omega) hi), gI_iv (by rw [LI_101]; omega) (by rw [LI_101]; omega), bind_s, greatest_m ha' hm' hs hi', bnd_s, greatest_m ha' hm' hs hi', bnd_s, bnd_s, hm'.2.2.1 i (by omega), f1, f2, sI_iv (by rw [LI_101]; omega) (by rw [LI_101]; omega), bind_s, bind_s, iv_s1]
    have hm2 := hm'.tell 1 i (mxL a s 1 i)
    rw [if_neg (by decide)] at hm2
    refine ⟨iv (sm (dfL a s 1) (i + 1)), _, ?_, rfl, hm2, hkp.trans (Kp.uI (by unfold cR; omega))⟩
    rw [sm_s]
    by_cases q : getL 1 (aF a) (aS a) i = mxL a s 1 i
    · rw [if_pos (by rw [iv_eq ht.rg hx.rg]; exact q), show dfL a s 1 i = 0 from if_pos q, show (0 : Int32) = iv 0 by decide, iv_add]
    · rw [if_neg (by rw [iv_eq ht.rg hx.rg]; exact q), show dfL a s 1 i = 1 from if_neg q, iv_1, iv_add]
  · rintro x w' k ⟨rfl, hm', hkp⟩
    rw [e1] at hm'
    have gH : aW a1 = aW a := by unfold aW; rw [d1]
    unfold bX9_tellAs_14
    rw [hm'.1.2.2.2.2.1, gH, if_pos iv_Nle']
    exact k2 w' _ hm' hkp
theorem g15 (hF : FTk FT) (hg : Good FT t w) (p q d : Int32) : ∃ w', st15 p q d w = some w' ∧ Good FT (t + 1) w' := by
  obtain ⟨a, ha, hc, hm, hv⟩ := hg
  have hN := aN_le ha
  have hW5 := ha.1.2.1
  have hH5 := ha.1.2.2.2
  unfold st15
  rcases rng 4 p with ⟨s, hs, rfl⟩ | hb
  · generalize bz q = T
    obtain ⟨w1, e1, e2, e3, e4⟩ := putLinesAs_s ha hc hs 1
    rw [nL_1] at e1 e2 e3
    have d1 : (tlA s 1 a (aW a)).1 = a.1 := tlA_1 s 1 a _
    have ok1 : AbOK (tlA s 1 a (aW a)) := tlA_ok ha hs 1 _ (by rw [nL_1]; exact Nat.le_refl _)
    have hm0 := fun w1 hm1 => mtellAs_s (w := w1) ha hm1 hs T
    generalize tlA s 1 a (aW a) = a1 at *
    have hH1 : aH a1 = aH a := by unfold aH; rw [d1]
    obtain ⟨w2, f1, f2, f3, f4⟩ := putLinesAs_s ok1 e2 hs 0
    rw [nL_0, hH1] at f1 f2 f3
    have d2 : (tlA s 0 a1 (aH a)).1 = a.1 := by rw [tlA_1 s 0 a1 _]; exact d1
    have ok2 : AbOK (tlA s 0 a1 (aH a)) := tlA_ok ok1 hs 0 _ (by rw [nL_0, hH1]; exact Nat.le_refl _)
    generalize tlA s 0 a1 (aH a) = a2 at *
    have hN2 : aN a2 = aN a := aN_eq d2
    obtain ⟨w3, h1, h2, h3, h4⟩ := topsAs_s ok2 f2 hs
    rw [hN2] at h1 h2 h3
    refine comb hF (v := iv (sm (dfL a s 1) (aW a) + sm (dfL a1 s 0) (aH a) + (if T = 0 then 0 else sm (dfT a2 s) (aN a)))) (a1 := if T = 0 then a2 else tpA s a2 (aN a)) ?_ hm ⟨if T = 0 then w2 else w3, ?_, ?_, ?_, ?_⟩ (fun w1 hm1 => ?_)
    · split
      · exact ok2
      · exact tpA_ok ok2 s _
    · unfold fX8_tellAs fX5_linesAs
      rw [noSlot_g hs, bnd_s, if_pos rfl, ixA_iv hs (by omega), bind_s, e1, bnd_s, f1, bnd_s, bnd_s, iv_add]
      by_cases hT : T = 0
      · rw [if_pos hT, if_pos hT, if_pos hT, Int.add_zero]
      · rw [if_neg hT, if_neg hT, if_neg hT, bind_s, h1, bnd_s, iv_add]
    · by_cases hT : T = 0
      · rw [if_pos hT, if_pos hT]; exact f2
      · rw [if_neg hT, if_neg hT]; exact h2
    · by_cases hT : T = 0
      · rw [if_pos hT, if_pos hT]
        refine hv.bump (n := aW a + aH a) (by have := ha.1.1; omega) (by omega) ?_ ?_
        · rw [f3, e3, Int32.add_assoc, iv_add, Int.natCast_add]
        · rw [(f4 19 (by omega)).1, (e4 19 (by omega)).1]
      · rw [if_neg hT, if_neg hT]
        refine hv.bump (n := aW a + aH a + aN a) (by have := ha.1.1; omega) (by omega) ?_ ?_
        · rw [h3, f3, e3, Int32.add_assoc, Int32.add_assoc, iv_add, iv_add, Int.natCast_add, Int.natCast_add, Int.add_assoc]
        · rw [(h4 19 (by omega)).1, (f4 19 (by omega)).1, (e4 19 (by omega)).1]
    · have k2 : Kp mR w w2 := (e4.weak fun k z => by unfold mR at z; omega).trans (f4.weak fun k z => by unfold mR at z; omega)
      by_cases hT : T = 0
      · rw [if_pos hT]; exact k2
      · rw [if_neg hT]; exact k2.trans (h4.weak fun k z => by unfold mR at z; omega)
    · obtain ⟨w4, m1, m2, m3⟩ := hm0 w1 hm1
      refine ⟨w4, ?_, m2, m3⟩
      unfold fX9_tellAs
      rw [isSlot_g hs, bnd_s, if_neg (by decide), m1]
  · refine comb0 hF (v := -1) ha hc hm hv ?_ ?_
    · unfold fX8_tellAs
      rw [noSlot_b hb, bnd_s, if_neg (by decide)]
    · unfold fX9_tellAs
      rw [isSlot_b hb, bnd_s, if_pos rfl]
end STEPS
