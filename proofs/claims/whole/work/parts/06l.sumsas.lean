/-! ===== sums as a slot has them; about ===== -/
def smL (a : Ab) (s : Nat) (col : Int32) (l : Nat) : Int := sm (fun i => aP a s (onL (aW a) col l i)) (lL (aW a) (aH a) col)
theorem smL_bd {a : Ab} (ha : AbOK a) {s : Nat} (hs : s < 4) {col : Int32} {l : Nat} (hl : l < nL (aW a) (aH a) col) : Sum (smL a s col l) := by
  have h := sm_bound (f := fun i => aP a s (onL (aW a) col l i)) (lo := 0) (hi := 4) (n := lL (aW a) (aH a) col) (fun i hi => ha.2.1 s hs _ (onL_lt hl hi))
  have h5 := lL_le ha.1.2.1 ha.1.2.2.2 col
  unfold Sum smL
  omega
theorem smL_eq {a a' : Ab} (h1 : a'.1 = a.1) (h2 : a'.2.1 = a.2.1) (s : Nat) (col : Int32) (l : Nat) : smL a' s col l = smL a s col l := by
  unfold smL aP aW aH; rw [h1, h2]
def smA (s : Nat) (col : Int32) (a : Ab) : Nat → Ab
  | 0 => a
  | i + 1 => aSum (smA s col a i) col i (smL a s col i)
theorem smA_1 (s : Nat) (col : Int32) (a : Ab) : ∀ i, (smA s col a i).1 = a.1
  | 0 => rfl
  | i + 1 => smA_1 s col a i
theorem smA_P (s : Nat) (col : Int32) (a : Ab) : ∀ i, (smA s col a i).2.1 = a.2.1
  | 0 => rfl
  | i + 1 => smA_P s col a i
theorem smA_T (s : Nat) (col : Int32) (a : Ab) : ∀ i, (smA s col a i).2.2.1 = a.2.2.1
  | 0 => rfl
  | i + 1 => smA_T s col a i
theorem smA_ok {a : Ab} (ha : AbOK a) {s : Nat} (hs : s < 4) (col : Int32) : ∀ i, i ≤ nL (aW a) (aH a) col → AbOK (smA s col a i)
  | 0, _ => ha
  | i + 1, h => (smA_ok ha hs col i (by omega)).sum col i (smL_bd ha hs (by omega))
section STEPS
variable {FT : Tl → Wd → Prop} {t : Nat} {w : Wd}
theorem takeLines_s {a : Ab} (ha : AbOK a) (hc : CS a w) {s : Nat} (hs : s < 4) (col : Int32) : ∃ w1, fX4_takeLines (6 + s) col w = some ((), w1) ∧ CS (smA s col a (nL (aW a) (aH a) col)) w1 ∧ Kp (fun k => k ≠ 81 ∧ k ≠ 82) w w1 := by
  have h5 := nL_le ha.1.2.1 ha.1.2.2.2 col
  have hk := col81 col
  unfold fX4_takeLines
  refine lpA (m := nL (aW a) (aH a) col) (fun r => ∃ w1, r = some ((), w1) ∧ CS (smA s col a (nL (aW a) (aH a) col)) w1 ∧ Kp (fun k => k ≠ 81 ∧ k ≠ 82) w w1) (fun i w' => CS (smA s col a i) w' ∧ Kp (fun k => k ≠ 81 ∧ k ≠ 82) w w') ?_ ?_ (hGn (by omega)) ⟨hc, Kp.rf⟩
  · rintro i w' k hi ⟨hc', hkp⟩
    have e1 := nL_eq (smA_1 s col a i) col
    have ha' := smA_ok ha hs col i (by omega)
    have e2 : smL (smA s col a i) s col i = smL a s col i := smL_eq (smA_1 s col a i) (smA_P s col a i) s col i
    refine Or.inl ⟨_, ?_, hc'.sum col i (smL a s col i), hkp.trans (Kp.uI (fun q => by omega))⟩
    unfold bX4_takeLines_2
    rw [lines_s hc'.1.1, bnd_s, e1, if_neg (iv_Nle (by omega) hi), lineTotal_a ha' hc' hs (by omega), bnd_s, putSum_s ha' hc' (by omega), bnd_s, iv_s1, ← e2]
    rfl
  · rintro w' k ⟨hc', hkp⟩
    unfold bX4_takeLines_2
    rw [lines_s hc'.1.1, bnd_s, nL_eq (smA_1 s col a _) col, if_pos iv_Nle']
    exact ⟨w', rfl, hc', hkp⟩
theorem msumsAs_s {a : Ab} (ha : AbOK a) (hm : MS a w) {s : Nat} (hs : s < 4) : ∃ w1, lp (fun _ _ => none) (bX9_sumsAs_11 (iv s)) G (0 : Int32) w = some (iv (sm (aP a s) (aN a)), w1) ∧ MS (smA s 0 (smA s 1 a (aW a)) (aH a)) w1 ∧ Kp cR w w1 := by
  have hN := aN_le ha
  have hW5 := ha.1.2.1
  have hH5 := ha.1.2.2.2
  generalize e1 : smA s 1 a (aW a) = a1
  generalize e2 : smA s 0 a1 (aH a) = a2
  have d1 : a1.1 = a.1 := by rw [← e1]; exact smA_1 s 1 a _
  have d2 : a2.1 = a.1 := by rw [← e2, smA_1 s 0 a1 _]; exact d1
  have p2 : a2.2.1 = a.2.1 := by rw [← e2, smA_P s 0 a1 _, ← e1]; exact smA_P s 1 a _
  have ok1 : AbOK a1 := by rw [← e1]; exact smA_ok ha hs 1 _ (by rw [nL_1]; exact Nat.le_refl _)
  have hH1 : aH a1 = aH a := by unfold aH; rw [d1]
  have ok2 : AbOK a2 := by rw [← e2]; exact smA_ok ok1 hs 0 _ (by rw [nL_0, hH1]; exact Nat.le_refl _)
  have hN2 : aN a2 = aN a := aN_eq d2
  have hP2 : aP a2 s = aP a s := by unfold aP; rw [p2]
  have k2 : ∀ (w0 : Wd), MS a1 w0 → Kp cR w w0 → ∃ w1, lp (fun _ _ => none) (bX9_sumsAs_40 (iv s)) G (0 : Int32) w0 = some (iv (sm (aP a s) (aN a)), w1) ∧ MS a2 w1 ∧ Kp cR w w1 := by
    intro w0 hm0 hk0
    refine lpA (m := aH a) (fun r => ∃ w1, r = some (iv (sm (aP a s) (aN a)), w1) ∧ MS a2 w1 ∧ Kp cR w w1) (fun i w' => MS (smA s 0 a1 i) w' ∧ Kp cR w w') ?_ ?_ (hGn (by omega)) ⟨hm0, hk0⟩
    · rintro i w' k hi ⟨hm', hkp⟩
      have gH : aH (smA s 0 a1 i) = aH a := by unfold aH; rw [smA_1 s 0 a1 i, d1]
      have ha' := smA_ok ok1 hs 0 i (by rw [nL_0]; omega)
      have f1 : smL (smA s 0 a1 i) s 0 i = smL a1 s 0 i := smL_eq (smA_1 s 0 a1 i) (smA_P s 0 a1 i) s 0 i
      have hm2 := hm'.sum 0 i (smL a1 s 0 i)
      rw [if_pos rfl] at hm2
      refine Or.inl ⟨_, ?_, hm2, hkp.trans (Kp.uI (by unfold cR; omega))⟩
      unfold bX9_sumsAs_40
      rw [hm'.1.2.2.2.2.2, gH, if_neg (iv_Nle (by omega) hi), sumOf_s hm'.1 hs (hm'.slot ha' hs) (by rw [nL_0]; omega), bnd_s, sI_iv (by rw [LI_105]; omega) (by rw [LI_105]; omega), bind_s, iv_s1, ← f1]
      rfl
    · rintro w' k ⟨hm', hkp⟩
      rw [e2] at hm'
      have gH : aH a2 = aH a := by unfold aH; rw [d2]
      unfold bX9_sumsAs_40
      rw [hm'.1.2.2.2.2.2, gH, if_pos iv_Nle', cubesOf_s hm'.1 hs (hm'.slot ok2 hs), bnd_s, show aW a2 * aH a2 = aN a from hN2, hP2]
      exact ⟨w', rfl, hm', hkp⟩
  refine lpA (m := aW a) (fun r => ∃ w1, r = some (iv (sm (aP a s) (aN a)), w1) ∧ MS a2 w1 ∧ Kp cR w w1) (fun i w' => MS (smA s 1 a i) w' ∧ Kp cR w w') ?_ ?_ (hGn (by omega)) ⟨hm, Kp.rf⟩
  · rintro i w' k hi ⟨hm', hkp⟩
    have gH : aW (smA s 1 a i) = aW a := by unfold aW; rw [smA_1 s 1 a i]
    have ha' := smA_ok ha hs 1 i (by rw [nL_1]; omega)
    have f1 : smL (smA s 1 a i) s 1 i = smL a s 1 i := smL_eq (smA_1 s 1 a i) (smA_P s 1 a i) s 1 i
    have hm2 := hm'.sum 1 i (smL a s 1 i)
    rw [if_neg (by decide)] at hm2
    refine Or.inl ⟨_, ?_, hm2, hkp.trans (Kp.uI (by unfold cR; omega))⟩
    unfold bX9_sumsAs_11
    rw [hm'.1.2.2.2.2.1, gH, if_neg (iv_Nle (by omega) hi), sumOf_s hm'.1 hs (hm'.slot ha' hs) (by rw [nL_1]; omega), bnd_s, sI_iv (by rw [LI_104]; omega) (by rw [LI_104]; omega), bind_s, iv_s1, ← f1]
    rfl
  · rintro w' k ⟨hm', hkp⟩
    rw [e1] at hm'
    have gH : aW a1 = aW a := by unfold aW; rw [d1]
    unfold bX9_sumsAs_11
    rw [hm'.1.2.2.2.2.1, gH, if_pos iv_Nle']
    exact k2 w' hm' hkp
theorem g24 (hF : FTk FT) (hg : Good FT t w) (p q d : Int32) : ∃ w', st24 p q d w = some w' ∧ Good FT (t + 1) w' := by
  obtain ⟨a, ha, hc, hm, hv⟩ := hg
  unfold st24
  rcases rng 4 p with ⟨s, hs, rfl⟩ | hb
  · obtain ⟨w1, e1, e2, e4⟩ := takeLines_s ha hc hs 1
    rw [nL_1] at e2
    have d1 : (smA s 1 a (aW a)).1 = a.1 := smA_1 s 1 a _
    have p1 : (smA s 1 a (aW a)).2.1 = a.2.1 := smA_P s 1 a _
    have t1 : (smA s 1 a (aW a)).2.2.1 = a.2.2.1 := smA_T s 1 a _
    have ok1 : AbOK (smA s 1 a (aW a)) := smA_ok ha hs 1 _ (by rw [nL_1]; exact Nat.le_refl _)
    have hm0 := fun w1 hm1 => msumsAs_s (w := w1) ha hm1 hs
    generalize smA s 1 a (aW a) = a1 at *
    have hH1 : aH a1 = aH a := by unfold aH; rw [d1]
    obtain ⟨w2, f1, f2, f4⟩ := takeLines_s ok1 e2 hs 0
    rw [nL_0, hH1] at f2
    have d2 : (smA s 0 a1 (aH a)).1 = a.1 := by rw [smA_1 s 0 a1 _]; exact d1
    have p2 : (smA s 0 a1 (aH a)).2.1 = a.2.1 := by rw [smA_P s 0 a1 _]; exact p1
    have t2 : (smA s 0 a1 (aH a)).2.2.1 = a.2.2.1 := by rw [smA_T s 0 a1 _]; exact t1
    have ok2 : AbOK (smA s 0 a1 (aH a)) := smA_ok ok1 hs 0 _ (by rw [nL_0, hH1]; exact Nat.le_refl _)
    generalize smA s 0 a1 (aH a) = a2 at *
    have hN2 : aN a2 = aN a := aN_eq d2
    have hP2 : aP a2 s = aP a s := by unfold aP; rw [p2]
    refine comb hF (v := iv (sm (aP a s) (aN a))) (a1 := a2) ok2 hm ⟨w2, ?_, f2, ?_, ?_⟩ (fun w1 hm1 => ?_)
    · unfold fX8_sumsAs fX4_takeFrom
      rw [noSlot_g hs, bnd_s, if_pos rfl, ixA_iv hs (by omega), bind_s, e1, bnd_s, f1, bnd_s, bnd_s, bind_s, total_a ok2 f2 hs, bnd_s, hN2, hP2]
    · exact hv.kept hF ((e4.weak fun k z => by omega).trans (f4.weak fun k z => by omega)) (by unfold aTl; rw [d2, t2])
    · exact (e4.weak fun k z => by unfold mR at z; omega).trans (f4.weak fun k z => by unfold mR at z; omega)
    · obtain ⟨w4, m1, m2, m3⟩ := hm0 w1 hm1
      refine ⟨w4, ?_, m2, m3⟩
      unfold fX9_sumsAs
      rw [isSlot_g hs, bnd_s, if_neg (by decide), m1]
  · refine comb0 hF (v := -1) ha hc hm hv ?_ ?_
    · unfold fX8_sumsAs
      rw [noSlot_b hb, bnd_s, if_neg (by decide)]
    · unfold fX9_sumsAs
      rw [isSlot_b hb, bnd_s, if_pos rfl]
def tld (z : Int) : Int := if z = -9 then 0 else 1
theorem tld_T {z : Int} (h : Tol z) : (if iv z = (-9 : Int32) then (0 : Int32) else 1) = iv (tld z) := by
  unfold tld
  by_cases e : z = -9
  · rw [if_pos (by rw [e]; decide), if_pos e]; rfl
  · rw [if_neg (ne_m9 (by rw [h.ti]; exact e)), if_neg e]; rfl
theorem Top.tol {z : Int} (h : Top z) : Tol z := by unfold Top at h; unfold Tol; omega
theorem ite_k {β : Type} {c : Prop} {dc : Decidable c} {k : Int32 → β} {x y : Int32} : (if c then k x else k y) = k (if c then x else y) := by
  by_cases h : c
  · rw [if_pos h, if_pos h]
  · rw [if_neg h, if_neg h]
theorem countTold_s {a : Ab} (ha : AbOK a) (hc : CS a w) (col : Int32) : fX5_countTold col w = some (iv (sm (fun l => tld (getL col (aF a) (aS a) l)) (nL (aW a) (aH a) col)), w) := by
  have h5 := nL_le ha.1.2.1 ha.1.2.2.2 col
  unfold fX5_countTold
  refine lpB (m := nL (aW a) (aH a) col) (fun r => r = some (iv (sm (fun l => tld (getL col (aF a) (aS a) l)) (nL (aW a) (aH a) col)), w)) (fun i x w' => x = iv (sm (fun l => tld (getL col (aF a) (aS a) l)) i) ∧ w' = w) ?_ ?_ (hGn (by omega)) ⟨rfl, rfl⟩
  · rintro i x w' k hi ⟨rfl, rfl⟩
    have ht := getL_tol ha hi
    refine Or.inl ⟨iv (sm (fun l => tld (getL col (aF a) (aS a) l)) (i + 1)), w', ?_, rfl, rfl⟩
    unfold bX5_countTold_4 jX5_countTold_30
    rw [lines_s hc.1.1, bnd_s, if_neg (iv_Nle (by omega) hi), line_s ha hc hi, bnd_s, iv_s1, sm_s]
    by_cases e : getL col (aF a) (aS a) i = -9
    · rw [if_pos (by rw [e]; decide), show tld (getL col (aF a) (aS a) i) = 0 from if_pos e, Int.add_zero]
    · rw [if_neg (ne_m9 (by rw [ht.ti]; exact e)), show tld (getL col (aF a) (aS a) i) = 1 from if_neg e, iv_1, iv_add]
  · rintro x w' k ⟨rfl, rfl⟩
    unfold bX5_countTold_4
    rw [lines_s hc.1.1, bnd_s, if_pos iv_Nle']
theorem topsTold_s {a : Ab} (ha : AbOK a) (hc : CS a w) : fX5_topsTold w = some (iv (sm (fun c => tld (aT a c)) (aN a)), w) := by
  have hN := aN_le ha
  unfold fX5_topsTold
  refine lpB (m := aN a) (fun r => r = some (iv (sm (fun c => tld (aT a c)) (aN a)), w)) (fun i x w' => x = iv (sm (fun c => tld (aT a c)) i) ∧ w' = w) ?_ ?_ (hGn (by omega)) ⟨rfl, rfl⟩
  · rintro i x w' k hi ⟨rfl, rfl⟩
    have ht := ha.2.2.2.2.1 i hi
    refine Or.inl ⟨iv (sm (fun c => tld (aT a c)) (i + 1)), w', ?_, rfl, rfl⟩
    unfold bX5_topsTold_4 jX5_topsTold_29
    rw [cells_a hc, bnd_s, if_neg (iv_Nle (by omega) hi), gI_iv (by rw [LI_18]; omega) (by rw [LI_18]; omega), bind_s, hc.2.2.2.2.1 i hi, iv_s1, sm_s]
    by_cases e : aT a i = -9
    · rw [if_pos (by rw [e]; decide), show tld (aT a i) = 0 from if_pos e, Int.add_zero]
    · rw [if_neg (ne_m9 (by rw [ht.ti]; exact e)), show tld (aT a i) = 1 from if_neg e, iv_1, iv_add]
  · rintro x w' k ⟨rfl, rfl⟩
    unfold bX5_topsTold_4
    rw [cells_a hc, bnd_s, if_pos iv_Nle']
theorem sm_cut (f : Nat → Int) {n : Nat} : ∀ m, n ≤ m → sm (fun k => if k < n then f k else 0) m = sm f n
  | 0, h => by rw [show n = 0 by omega]; rfl
  | m + 1, h => by
    by_cases e : n = m + 1
    · rw [e]; exact sm_congr (fun i hi => if_pos hi)
    · rw [sm_s, sm_cut f m (by omega), if_neg (by omega), Int.add_zero]
def abR (a : Ab) (p : Int32) : Int32 := if p = 0 then iv (aW a : Nat) else if p = 1 then iv (aH a : Nat) else if p = 2 then iv (sm (fun l => tld (aF a l)) (aW a) + sm (fun l => tld (aS a l)) (aH a)) else if p = 3 then iv (sm (fun c => tld (aT a c)) (aN a)) else if p = 4 then iv (aN a : Nat) else -2
theorem mabout_s {a : Ab} (ha : AbOK a) (hm : MS a w) (p : Int32) : fX9_about p w = some (abR a p, w) := by
  have hN := aN_le ha
  have hW5 := ha.1.2.1
  have hH5 := ha.1.2.2.2
  have k2 : ∀ (V : Int), V = sm (fun l => tld (aF a l)) (aW a) + sm (fun l => tld (aS a l)) (aH a) → lp (fun _ _ _ _ => none) (bX9_about_78 p) G (iv V) (0 : Int32) (0 : Int32) w = some (abR a p, w) := by
    intro V hV
    refine lpC (m := aN a) (fun r => r = some (abR a p, w)) (fun i x y w' => x = iv V ∧ y = iv (sm (fun c => tld (aT a c)) i) ∧ w' = w) ?_ ?_ (hGn (by omega)) ⟨rfl, rfl, rfl⟩
    · rintro i x y w' k hi ⟨rfl, rfl, rfl⟩
      have ht := ha.2.2.2.2.1 i hi
      refine Or.inl ⟨iv V, iv (sm (fun c => tld (aT a c)) (i + 1)), w', ?_, rfl, rfl, rfl⟩
      unfold bX9_about_78 jX9_about_105
      rw [mcells_a hm, bnd_s, if_neg (iv_Nle (by omega) hi), gI_iv (by rw [LI_103]; omega) (by rw [LI_103]; omega), bind_s, hm.2.2.2.2.1 i hi, iv_s1, sm_s]
      by_cases e : aT a i = -9
      · rw [if_pos (by rw [e]; decide), show tld (aT a i) = 0 from if_pos e, show (0 : Int32) = iv 0 by decide, iv_add]
      · rw [if_neg (ne_m9 (by rw [ht.ti]; exact e)), show tld (aT a i) = 1 from if_neg e, iv_1, iv_add]
    · rintro x y w' k ⟨rfl, rfl, rfl⟩
      unfold bX9_about_78 abR
      rw [mcells_a hm, bnd_s, if_pos iv_Nle', mcells_a hm, bnd_s, hm.1.2.2.2.2.1, hm.1.2.2.2.2.2, hV]
      by_cases h0 : p = 0
      · rw [if_pos h0, if_pos h0]
      rw [if_neg h0, if_neg h0]
      by_cases h1 : p = 1
      · rw [if_pos h1, if_pos h1]
      rw [if_neg h1, if_neg h1]
      by_cases h2 : p = 2
      · rw [if_pos h2, if_pos h2]
      rw [if_neg h2, if_neg h2]
      by_cases h3 : p = 3
      · rw [if_pos h3, if_pos h3]
      rw [if_neg h3, if_neg h3]
      by_cases h4 : p = 4
      · rw [if_pos h4, if_pos h4]
      rw [if_neg h4, if_neg h4]
  unfold fX9_about
  refine lpC (m := 5) (fun r => r = some (abR a p, w)) (fun i x y w' => x = iv (sm (fun k => (if k < aW a then tld (aF a k) else 0) + (if k < aH a then tld (aS a k) else 0)) i) ∧ y = 0 ∧ w' = w) ?_ ?_ (hGn (by omega)) ⟨rfl, rfl, rfl⟩
  · rintro i x y w' k hi ⟨rfl, rfl, rfl⟩
    refine Or.inl ⟨iv (sm (fun k => (if k < aW a then tld (aF a k) else 0) + (if k < aH a then tld (aS a k) else 0)) (i + 1)), 0, w', ?_, rfl, rfl, rfl⟩
    rw [sm_s]
    generalize sm (fun k => (if k < aW a then tld (aF a k) else 0) + (if k < aH a then tld (aS a k) else 0)) i = V
    have k40 : ∀ z : Int, jX9_about_40 p k 0 (iv i) (iv z) (iv V) w' = k (iv (V + (z + (if i < aH a then tld (aS a i) else 0)))) 0 (iv ((i + 1 : Nat) : Int)) w' := by
      intro z
      unfold jX9_about_40 jX9_about_65 jX9_about_66
      rw [hm.1.2.2.2.2.2, iv_s1]
      by_cases hH : i < aH a
      · have ht := ha.2.2.2.1 i hH
        rw [if_neg (iv_Nle (by omega) hH), if_pos hH, gI_iv (by rw [LI_102]; omega) (by rw [LI_102]; omega), bind_s, hm.2.2.2.1 i hH]
        by_cases e : aS a i = -9
        · rw [if_pos (by rw [e]; decide), show tld (aS a i) = 0 from if_pos e, show iv z + (0 : Int32) = iv (z + 0) by rw [← iv_add]; rfl, iv_add]
        · rw [if_neg (ne_m9 (by rw [ht.ti]; exact e)), show tld (aS a i) = 1 from if_neg e, iv_1, iv_add, iv_add]
      · rw [if_pos (by rw [iv_le (by omega) (by omega)]; omega), if_neg hH, show iv z + (0 : Int32) = iv (z + 0) by rw [← iv_add]; rfl, iv_add]
    unfold bX9_about_7 jX9_about_39
    rw [if_neg (by rw [iv_5, iv_le (by omega) (by omega)]; omega), hm.1.2.2.2.2.1]
    have z0 : (0 : Int32) = iv 0 := by decide
    by_cases hW : i < aW a
    · have ht := ha.2.2.1 i hW
      rw [if_neg (iv_Nle (by omega) hW), if_pos hW, gI_iv (by rw [LI_101]; omega) (by rw [LI_101]; omega), bind_s, hm.2.2.1 i hW]
      by_cases e : aF a i = -9
      · rw [if_pos (by rw [e]; decide), show tld (aF a i) = 0 from if_pos e]
        exact k40 0
      · rw [if_neg (ne_m9 (by rw [ht.ti]; exact e)), show tld (aF a i) = 1 from if_neg e]
        exact k40 1
    · rw [if_pos (by rw [iv_le (by omega) (by omega)]; omega), if_neg hW]
      exact k40 0
  · rintro x y w' k ⟨rfl, rfl, rfl⟩
    unfold bX9_about_7
    rw [if_pos (by rw [iv_5]; exact Int32.le_refl _), k2 _ (by rw [sm_add, sm_cut _ 5 hW5, sm_cut _ 5 hH5])]
theorem g33 (hF : FTk FT) (hg : Good FT t w) (p q d : Int32) : ∃ w', st33 p q d w = some w' ∧ Good FT (t + 1) w' := by
  obtain ⟨a, ha, hc, hm, hv⟩ := hg
  unfold st33
  refine comb0 hF (v := abR a p) ha hc hm hv ?_ (mabout_s ha hm p)
  unfold fX8_about fX5_linesTold abR
  rw [lines_s hc.1.1, bnd_s, lines_s hc.1.1, bnd_s, countTold_s ha hc, bnd_s, countTold_s ha hc, bnd_s, bnd_s, topsTold_s ha hc, bnd_s, cells_a hc, bnd_s, nL_1, nL_0, iv_add]
  by_cases h0 : p = 0
  · rw [if_pos h0, if_pos h0]
  rw [if_neg h0, if_neg h0]
  by_cases h1 : p = 1
  · rw [if_pos h1, if_pos h1]
  rw [if_neg h1, if_neg h1]
  by_cases h2 : p = 2
  · rw [if_pos h2, if_pos h2]; rfl
  rw [if_neg h2, if_neg h2]
  by_cases h3 : p = 3
  · rw [if_pos h3, if_pos h3]
  rw [if_neg h3, if_neg h3]
  by_cases h4 : p = 4
  · rw [if_pos h4, if_pos h4]
  rw [if_neg h4, if_neg h4]
end STEPS
