/-! ===== turn, alike, same, least ===== -/
theorem dif_comm (f g : Nat → Int) : dif f g = dif g f := by
  funext i
  unfold dif
  by_cases e : f i = g i
  · rw [if_pos e, if_pos e.symm]
  · rw [if_neg e, if_neg (fun z => e z.symm)]
def tb (W H : Nat) (f g : Nat → Int) (t : Nat) : Int := if (t % 2 = 0 ∨ W = H) ∧ lxd (tH W H t f) g (W * H) = 0 then 1 else 0
theorem tb_bd (W H : Nat) (f g : Nat → Int) (t : Nat) : 0 ≤ tb W H f g t ∧ tb W H f g t ≤ 1 := by unfold tb; split <;> omega
theorem tbs_bd (W H : Nat) (f g : Nat → Int) (n : Nat) : 0 ≤ sm (tb W H f g) n ∧ sm (tb W H f g) n ≤ n := by
  have h := sm_bound (f := tb W H f g) (lo := 0) (hi := 1) (n := n) (fun i _ => tb_bd W H f g i)
  omega
/-- what has been found first, after the turns up to i -/
def bst (W H : Nat) (f : Nat → Int) : Nat → Nat × (Nat → Int)
  | 0 => (0, f)
  | i + 1 => if (((i + 1) % 2 = 0 ∨ W = H) ∧ lxd (tH W H (i + 1) f) (bst W H f i).2 (W * H) < 0) then (i + 1, tH W H (i + 1) f) else bst W H f i
theorem bst_ok {W H : Nat} (h2 : W ≤ 5) (h4 : H ≤ 5) (f : Nat → Int) : ∀ i, i < 8 → (bst W H f i).1 < 8 ∧ kps W H (bst W H f i).1 ∧ ∀ c, c < W * H → (bst W H f i).2 c = tH W H (bst W H f i).1 f c
  | 0, _ => ⟨by show 0 < 8; omega, Or.inl rfl, fun c hc => by
      show f c = f (im W H (ivt 0) c)
      rw [show ivt 0 = 0 from rfl, im_0 h2 h4 hc]⟩
  | i + 1, hi => by
    have ih := bst_ok h2 h4 f i (by omega)
    by_cases e : (((i + 1) % 2 = 0 ∨ W = H) ∧ lxd (tH W H (i + 1) f) (bst W H f i).2 (W * H) < 0)
    · rw [show bst W H f (i + 1) = (i + 1, tH W H (i + 1) f) from if_pos e]
      exact ⟨hi, e.1, fun c _ => rfl⟩
    · rw [show bst W H f (i + 1) = bst W H f i from if_neg e]
      exact ih
theorem tH_r {W H t : Nat} (h2 : W ≤ 5) (h4 : H ≤ 5) (ht : t < 8) (hk : kps W H t) {f : Nat → Int} (hf : ∀ c, c < W * H → Hgt (f c)) {g : Nat → Int32} (h : ∀ c, c < W * H → g c = iv (tH W H t f c)) : ∀ c, c < W * H → g c = iv (tH W H t f c) ∧ Hgt (tH W H t f c) := fun c hc => ⟨h c hc, tH_H h2 h4 ht hk hf c hc⟩
theorem turnsBetween_s {W H : Nat} {w : Wd} (hg : Gnd W H w) {k j : Nat} (hk96 : k ≠ 97) (hj96 : j ≠ 97) (hk : W * H ≤ LI k) (hk2 : LI k ≤ 2000) (hj : W * H ≤ LI j) (hj2 : LI j ≤ 2000) {f g : Nat → Int} (hf : ∀ c, c < W * H → w.1 k c = iv (f c) ∧ Hgt (f c)) (hgg : ∀ c, c < W * H → w.1 j c = iv (g c) ∧ Hgt (g c)) : ∃ w1, fX6_turnsBetween k j w = some (iv (sm (tb W H f g) 8), w1) ∧ Kp (fun q => q ≠ 97) w w1 := by
  have hN := WH_le hg.1.2.1 hg.1.2.2.2.1
  unfold fX6_turnsBetween
  refine lpB (m := 8) (fun r => ∃ w1, r = some (iv (sm (tb W H f g) 8), w1) ∧ Kp (fun q => q ≠ 97) w w1) (fun i x w' => x = iv (sm (tb W H f g) i) ∧ Kp (fun q => q ≠ 97) w w') ?_ ?_ (hGn (by omega)) ⟨rfl, Kp.rf⟩
  · rintro i x w' kk hi ⟨rfl, h2⟩
    have hg' : Gnd W H w' := hg.kept (h2.weak fun k z => by omega)
    refine Or.inl ?_
    unfold bX6_turnsBetween_5 jX6_turnsBetween_53
    rw [if_neg (by rw [iv_8, iv_le (by omega) (by omega)]; omega), iv_s1]
    by_cases hkp : kps W H i
    · rw [(keeps_s hg'.1 hi).1 hkp, bnd_s, if_neg (by decide)]
      obtain ⟨w1, e1, e2, e3⟩ := turnTo_s hg' hk96 hk hk2 (f := f) (fun c hc => by rw [(h2 k hk96).1]; exact (hf c hc).1) hi hkp
      have hg1 : Gnd W H w1 := hg'.kept (e3.weak fun k z => by omega)
      rw [e1, bnd_s, compare_s hg1.1 (by rw [LI_97]; omega) (by rw [LI_97]; omega) hj hj2 (tH_r hg.1.2.1 hg.1.2.2.2.1 hi hkp (fun c hc => (hf c hc).2) e2) (fun c hc => by rw [(e3 j hj96).1, (h2 j hj96).1]; exact hgg c hc), bnd_s]
      refine ⟨iv (sm (tb W H f g) (i + 1)), w1, ?_, rfl, h2.trans e3⟩
      rw [sm_s]
      have hb := lxd_bd (f := tH W H i f) (g := g) (n := W * H) (fun c hc => ⟨tH_H hg.1.2.1 hg.1.2.2.2.1 hi hkp (fun c hc => (hf c hc).2) c hc, (hgg c hc).2⟩)
      by_cases e : lxd (tH W H i f) g (W * H) = 0
      · rw [if_pos (by rw [e]; rfl), show tb W H f g i = 1 from if_pos ⟨hkp, e⟩, iv_1, iv_add]
      · rw [if_neg (by rw [iv_0, iv_eq (by omega) (by omega)]; exact e), show tb W H f g i = 0 from if_neg (fun z => e z.2), Int.add_zero]
    · rw [(keeps_s hg'.1 hi).2 hkp, bnd_s, if_pos rfl]
      refine ⟨iv (sm (tb W H f g) (i + 1)), w', ?_, rfl, h2⟩
      rw [sm_s, show tb W H f g i = 0 from if_neg (fun z => hkp z.1), Int.add_zero]
  · rintro x w' kk ⟨rfl, h2⟩
    refine ⟨w', ?_, h2⟩
    unfold bX6_turnsBetween_5
    rw [if_pos (by rw [iv_8]; exact Int32.le_refl _)]
theorem toFirst_s {W H : Nat} {w : Wd} (hg : Gnd W H w) {k : Nat} (hk96 : k ≠ 97) (hk97 : k ≠ 98) (hk : W * H ≤ LI k) (hk2 : LI k ≤ 2000) {f : Nat → Int} (hf : ∀ c, c < W * H → w.1 k c = iv (f c) ∧ Hgt (f c)) : ∃ w1, fX6_toFirst k w = some (iv ((bst W H f 7).1 : Nat), w1) ∧ Kp (fun q => q ≠ 97 ∧ q ≠ 98) w w1 := by
  have hN := WH_le hg.1.2.1 hg.1.2.2.2.1
  have h1k : k ≠ 1 ∨ k = 1 := by omega
  have hfr := fun c hc => (⟨(hf c hc).1, (hf c hc).2.rg⟩ : w.1 k c = iv (f c) ∧ _)
  have own : ∃ v w1, fX2_overwrite k 98 w = some (v, w1) ∧ (∀ c, c < W * H → w1.1 98 c = iv (f c)) ∧ Kp (fun q => q ≠ 98) w w1 := by
    by_cases e1 : k = 1
    · exfalso
      rw [e1] at hk
      have : LI 1 = 0 := by decide +kernel
      have := WH_pos hg.1.1 hg.1.2.2.1
      omega
    · obtain ⟨w1, a1, a2, _, a4⟩ := overwrite_s (k := k) (j := 98) hg.1 e1 (by omega) hk hk2 (by rw [LI_98]; omega) (by rw [LI_98]; omega) (f := f) (g := fun c => (w.1 98 c).toInt) hfr (fun c _ => ⟨(iv_toInt _).symm, Int32.le_toInt _, Int32.toInt_lt _⟩)
      exact ⟨_, w1, a1, a2, a4⟩
  obtain ⟨v, w0, a1, a2, a4⟩ := own
  unfold fX6_toFirst
  rw [a1, bnd_s, show (1 : Int32) = iv ((1 : Nat) : Int) by decide]
  refine lpB' (j := 1) (m := 8) (fun r => ∃ w1, r = some (iv ((bst W H f 7).1 : Nat), w1) ∧ Kp (fun q => q ≠ 97 ∧ q ≠ 98) w w1) (fun i x w' => ∃ i', i = i' + 1 ∧ x = iv ((bst W H f i').1 : Nat) ∧ (∀ c, c < W * H → w'.1 98 c = iv ((bst W H f i').2 c)) ∧ Kp (fun q => q ≠ 97 ∧ q ≠ 98) w w') ?_ ?_ (by omega) (hGn (by omega)) ⟨0, rfl, rfl, a2, a4.weak fun k z => z.2⟩
  · rintro i x w' kk hj hi ⟨i', hi', rfl, h1, h2⟩
    have hg' : Gnd W H w' := hg.kept (h2.weak fun k z => by omega)
    have hok := bst_ok hg.1.2.1 hg.1.2.2.2.1 f i' (by omega)
    have hH := fun c hc => (hf c hc).2
    have hbH : ∀ c, c < W * H → Hgt ((bst W H f i').2 c) := fun c hc => by rw [hok.2.2 c hc]; exact tH_H hg.1.2.1 hg.1.2.2.2.1 hok.1 hok.2.1 hH c hc
    refine Or.inl ?_
    unfold bX6_toFirst_17 jX6_toFirst_80
    rw [if_neg (by rw [iv_8, iv_le (by omega) (by omega)]; omega), iv_s1]
    by_cases hkp : kps W H i
    · rw [(keeps_s hg'.1 hi).1 hkp, bnd_s, if_neg (by decide)]
      obtain ⟨w1, e1, e2, e3⟩ := turnTo_s hg' hk96 hk hk2 (f := f) (fun c hc => by rw [(h2 k ⟨hk96, hk97⟩).1]; exact (hf c hc).1) hi hkp
      have hg1 : Gnd W H w1 := hg'.kept (e3.weak fun k z => by omega)
      have r96 := tH_r hg.1.2.1 hg.1.2.2.2.1 hi hkp hH e2
      have r97 : ∀ c, c < W * H → w1.1 98 c = iv ((bst W H f i').2 c) ∧ Hgt ((bst W H f i').2 c) := fun c hc => ⟨by rw [(e3 98 (by omega)).1]; exact h1 c hc, hbH c hc⟩
      have hb := lxd_bd (f := tH W H i f) (g := (bst W H f i').2) (n := W * H) (fun c hc => ⟨(r96 c hc).2, hbH c hc⟩)
      rw [e1, bnd_s, compare_s hg1.1 (by rw [LI_97]; omega) (by rw [LI_97]; omega) (by rw [LI_98]; omega) (by rw [LI_98]; omega) r96 r97, bnd_s]
      by_cases e : lxd (tH W H i f) (bst W H f i').2 (W * H) < 0
      · have eb : bst W H f i = (i, tH W H i f) := by subst hi'; exact if_pos ⟨hkp, e⟩
        obtain ⟨w2, b1, b2, _, b4⟩ := overwrite_s (k := 97) (j := 98) hg1.1 (by omega) (by omega) (by rw [LI_97]; omega) (by rw [LI_97]; omega) (by rw [LI_98]; omega) (by rw [LI_98]; omega) (f := tH W H i f) (g := (bst W H f i').2) (fun c hc => ⟨(r96 c hc).1, (r96 c hc).2.rg⟩) (fun c hc => ⟨(r97 c hc).1, (r97 c hc).2.rg⟩)
        rw [if_neg (by rw [iv_0, iv_le (by omega) (by omega)]; omega), b1, bnd_s]
        refine ⟨iv i, w2, rfl, i, rfl, by rw [eb], by rw [eb]; exact b2, h2.trans ((e3.weak fun k z => z.1).trans (b4.weak fun k z => z.2))⟩
      · have eb : bst W H f i = bst W H f i' := by subst hi'; exact if_neg (fun z => e z.2)
        rw [if_pos (by rw [iv_0, iv_le (by omega) (by omega)]; omega)]
        exact ⟨_, w1, rfl, i, rfl, by rw [eb], by rw [eb]; exact fun c hc => (r97 c hc).1, h2.trans (e3.weak fun k z => z.1)⟩
    · rw [(keeps_s hg'.1 hi).2 hkp, bnd_s, if_pos rfl]
      have eb : bst W H f i = bst W H f i' := by subst hi'; exact if_neg (fun z => hkp z.1)
      exact ⟨_, w', rfl, i, rfl, by rw [eb], by rw [eb]; exact h1, h2⟩
  · rintro x w' kk ⟨i', hi', rfl, h1, h2⟩
    have : i' = 7 := by omega
    subst this
    refine ⟨w', ?_, h2⟩
    unfold bX6_toFirst_17
    rw [if_pos (by rw [iv_8]; exact Int32.le_refl _)]
section STEPS
variable {FT : Tl → Wd → Prop} {t : Nat} {w : Wd}
theorem apply_s {a : Ab} (ha : AbOK a) (hc : CS a w) {s : Nat} (hs : s < 4) {tt : Nat} (ht : tt < 8) (hkp : kps (aW a) (aH a) tt) : ∃ w1, fX6_apply (6 + s) (iv tt) w = some (iv (sm (dif (aP a s) (tH (aW a) (aH a) tt (aP a s))) (aN a)), w1) ∧ CS (aSlot a s (tH (aW a) (aH a) tt (aP a s))) w1 ∧ Kp (fun q => q ≠ 97 ∧ q ≠ 6 + s) w w1 := by
  have hN := aN_le ha
  obtain ⟨w1, e1, e2, e3⟩ := turnTo_s hc.1 (k := 6 + s) (by omega) (by rw [LI_slot hs]; exact hN) (by rw [LI_slot hs]; omega) (f := aP a s) (fun c hc' => (hc.slot ha hs c hc').1) ht hkp
  have r96 := tH_r ha.1.2.1 ha.1.2.2.2 ht hkp (fun c hc' => (hc.slot ha hs c hc').2) e2
  have hc1 : CS a w1 := hc.kept (e3.weak fun k z => by unfold stC at z; omega)
  obtain ⟨w2, b1, b2, _, b4⟩ := overwrite_s (k := 97) (j := 6 + s) hc1.1.1 (by omega) (by omega) (by rw [LI_97]; exact hN) (by rw [LI_97]; omega) (by rw [LI_slot hs]; exact hN) (by rw [LI_slot hs]; omega) (f := tH (aW a) (aH a) tt (aP a s)) (g := aP a s) (fun c hc' => ⟨(r96 c hc').1, (r96 c hc').2.rg⟩) (fun c hc' => ⟨(hc1.slot ha hs c hc').1, (hc1.slot ha hs c hc').2.rg⟩)
  refine ⟨w2, ?_, hc1.slotset hs (b4.weak fun k z => z.2) b2, (e3.weak fun k z => z.1).trans (b4.weak fun k z => z.2)⟩
  unfold fX6_apply
  rw [e1, bnd_s, b1, bnd_s]
theorem mput119_s {W H : Nat} (hg : MW W H w) {s : Nat} (hs : s < 4) (x q : Int32) {g : Nat → Int} (hgg : ∀ c, c < W * H → w.1 120 c = iv (g c)) : ∃ w1, lp (fun _ _ _ => none) (bX9_turn_50 (iv s) q) G x (0 : Int32) w = some (x, w1) ∧ (∀ c, c < W * H → w1.1 100 (25 * s + c) = iv (g c)) ∧ (∀ s', s' < 4 → s' ≠ s → ∀ c, c < W * H → w1.1 100 (25 * s' + c) = w.1 100 (25 * s' + c)) ∧ Kp (fun q => q ≠ 100) w w1 := by
  have hN := WH_le hg.2.1 hg.2.2.2.1
  refine lpB (m := W * H) (fun r => ∃ w1, r = some (x, w1) ∧ (∀ c, c < W * H → w1.1 100 (25 * s + c) = iv (g c)) ∧ (∀ s', s' < 4 → s' ≠ s → ∀ c, c < W * H → w1.1 100 (25 * s' + c) = w.1 100 (25 * s' + c)) ∧ Kp (fun q => q ≠ 100) w w1) (fun i y w' => y = x ∧ (∀ c, c < i → w'.1 100 (25 * s + c) = iv (g c)) ∧ (∀ s', s' < 4 → s' ≠ s → ∀ c, c < W * H → w'.1 100 (25 * s' + c) = w.1 100 (25 * s' + c)) ∧ Kp (fun q => q ≠ 100) w w') ?_ ?_ (hGn (by omega)) ⟨rfl, fun c hc => by omega, fun _ _ _ _ _ => rfl, Kp.rf⟩
  · rintro i y w' kk hi ⟨rfl, h1, h2, h3⟩
    have hg' : MW W H w' := hg.kept (h3 99 (by omega)).1
    refine Or.inl ⟨y, uI w' 100 (25 * s + i) (iv (g i)), ?_, rfl, fun c hc => ?_, fun s' hs' hne c hc => ?_, h3.trans (Kp.uI (fun z => z rfl))⟩
    · unfold bX9_turn_50
      rw [mcells_s hg', bnd_s, if_neg (iv_Nle (by omega) hi), gI_iv (by rw [LI_120]; omega) (by rw [LI_120]; omega), bind_s, iv_25sc, sI_iv (by rw [LI_100]; omega) (by rw [LI_100]; omega), bind_s, iv_s1, (h3 120 (by omega)).1, hgg i hi]
    · by_cases e : c = i
      · subst e; exact uI_same
      · rw [uI_other (Or.inr (by omega))]; exact h1 c (by omega)
    · rw [uI_other (Or.inr (by omega))]; exact h2 s' hs' hne c hc
  · rintro y w' kk ⟨rfl, h1, h2, h3⟩
    have hg' : MW W H w' := hg.kept (h3 99 (by omega)).1
    refine ⟨w', ?_, h1, h2, h3⟩
    unfold bX9_turn_50
    rw [mcells_s hg', bnd_s, if_pos iv_Nle']
theorem mput120_s {W H : Nat} (hg : MW W H w) {s : Nat} (hs : s < 4) (x : Int32) {g : Nat → Int} (hgg : ∀ c, c < W * H → w.1 121 c = iv (g c)) : ∃ w1, lp (fun _ _ _ => none) (bX9_least_89 (iv s)) G x (0 : Int32) w = some (x, w1) ∧ (∀ c, c < W * H → w1.1 100 (25 * s + c) = iv (g c)) ∧ (∀ s', s' < 4 → s' ≠ s → ∀ c, c < W * H → w1.1 100 (25 * s' + c) = w.1 100 (25 * s' + c)) ∧ Kp (fun q => q ≠ 100) w w1 := by
  have hN := WH_le hg.2.1 hg.2.2.2.1
  refine lpB (m := W * H) (fun r => ∃ w1, r = some (x, w1) ∧ (∀ c, c < W * H → w1.1 100 (25 * s + c) = iv (g c)) ∧ (∀ s', s' < 4 → s' ≠ s → ∀ c, c < W * H → w1.1 100 (25 * s' + c) = w.1 100 (25 * s' + c)) ∧ Kp (fun q => q ≠ 100) w w1) (fun i y w' => y = x ∧ (∀ c, c < i → w'.1 100 (25 * s + c) = iv (g c)) ∧ (∀ s', s' < 4 → s' ≠ s → ∀ c, c < W * H → w'.1 100 (25 * s' + c) = w.1 100 (25 * s' + c)) ∧ Kp (fun q => q ≠ 100) w w') ?_ ?_ (hGn (by omega)) ⟨rfl, fun c hc => by omega, fun _ _ _ _ _ => rfl, Kp.rf⟩
  · rintro i y w' kk hi ⟨rfl, h1, h2, h3⟩
    have hg' : MW W H w' := hg.kept (h3 99 (by omega)).1
    refine Or.inl ⟨y, uI w' 100 (25 * s + i) (iv (g i)), ?_, rfl, fun c hc => ?_, fun s' hs' hne c hc => ?_, h3.trans (Kp.uI (fun z => z rfl))⟩
    · unfold bX9_least_89
      rw [mcells_s hg', bnd_s, if_neg (iv_Nle (by omega) hi), gI_iv (by rw [LI_121]; omega) (by rw [LI_121]; omega), bind_s, iv_25sc, sI_iv (by rw [LI_100]; omega) (by rw [LI_100]; omega), bind_s, iv_s1, (h3 121 (by omega)).1, hgg i hi]
    · by_cases e : c = i
      · subst e; exact uI_same
      · rw [uI_other (Or.inr (by omega))]; exact h1 c (by omega)
    · rw [uI_other (Or.inr (by omega))]; exact h2 s' hs' hne c hc
  · rintro y w' kk ⟨rfl, h1, h2, h3⟩
    have hg' : MW W H w' := hg.kept (h3 99 (by omega)).1
    refine ⟨w', ?_, h1, h2, h3⟩
    unfold bX9_least_89
    rw [mcells_s hg', bnd_s, if_pos iv_Nle']
theorem LL7 : (7 : Int64).toInt = 7 := by decide
theorem g29 (hF : FTk FT) (hg : Good FT t w) (p q d : Int32) : ∃ w', st29 p q d w = some w' ∧ Good FT (t + 1) w' := by
  obtain ⟨a, ha, hc, hm, hv⟩ := hg
  have hN := aN_le ha
  unfold st29
  rcases rng 4 p with ⟨s, hs, rfl⟩ | hb
  · rcases rng 8 q with ⟨tt, ht, rfl⟩ | hb2
    · by_cases hkp : kps (aW a) (aH a) tt
      · obtain ⟨w1, e1, e2, e3⟩ := apply_s ha hc hs ht hkp
        refine comb hF (v := iv (sm (dif (aP a s) (tH (aW a) (aH a) tt (aP a s))) (aN a))) (a1 := aSlot a s (tH (aW a) (aH a) tt (aP a s))) (ha.slot (tH_H ha.1.2.1 ha.1.2.2.2 ht hkp (ha.2.1 s hs))) hm ⟨w1, ?_, e2, hv.kept hF (e3.weak fun k z => by omega) rfl, e3.weak fun k z => by unfold mR at z; omega⟩ (fun w2 hm2 => ?_)
        · unfold fX8_turn
          rw [noSlot_g hs, bnd_s, if_pos rfl, if_neg (by rw [iv_0, iv_lt (by omega) (by omega)]; omega), if_pos (by rw [iv_8, iv_lt (by omega) (by omega)]; omega), (keeps_s hc.1.1 ht).1 hkp, bnd_s, if_neg (by decide), ixA_iv hs (by omega), bind_s, e1, bnd_s]
        · obtain ⟨w3, m1, m2, m3⟩ := layTurned_s hm2.1 hs (f := aP a s) (fun c hcc => (hm2.slot ha hs c hcc).1) ht hkp
          have r119 := tH_r ha.1.2.1 ha.1.2.2.2 ht hkp (ha.2.1 s hs) m2
          have hm3 : MS a w3 := hm2.kept (m3.weak fun k z => by unfold stM at z; omega)
          obtain ⟨w4, n1, n2, n3, n4⟩ := mput119_s (w := w3) hm3.1 hs (iv (sm (dif (tH (aW a) (aH a) tt (aP a s)) (aP a s)) (aN a))) (iv tt) (fun c hcc => (r119 c hcc).1)
          refine ⟨w4, ?_, hm3.slotset (n4.weak fun k z => z.2) n2 n3, (m3.weak fun k z => by unfold cR at z; omega).trans (n4.weak fun k z => by unfold cR at z; omega)⟩
          unfold fX9_turn
          rw [isSlot_g hs, bnd_s, if_neg (by decide), in_g w2 (by rw [L0, toInt_iv (by omega) (by omega)]; omega) (by rw [L7, toInt_iv (by omega) (by omega)]; omega), bnd_s, if_neg (by decide), (mkeeps_s hm2.1 ht).1 hkp, bnd_s, if_neg (by decide), m1, bnd_s, unlike_s hm3.1 hs r119 (hm3.slot ha hs), bnd_s, n1, dif_comm]
      · refine comb0 hF (v := -3) ha hc hm hv ?_ ?_
        · unfold fX8_turn
          rw [noSlot_g hs, bnd_s, if_pos rfl, if_neg (by rw [iv_0, iv_lt (by omega) (by omega)]; omega), if_pos (by rw [iv_8, iv_lt (by omega) (by omega)]; omega), (keeps_s hc.1.1 ht).2 hkp, bnd_s, if_pos rfl]
        · unfold fX9_turn
          rw [isSlot_g hs, bnd_s, if_neg (by decide), in_g w (by rw [L0, toInt_iv (by omega) (by omega)]; omega) (by rw [L7, toInt_iv (by omega) (by omega)]; omega), bnd_s, if_neg (by decide), (mkeeps_s hm.1 ht).2 hkp, bnd_s, if_pos rfl]
    · refine comb0 hF (v := -2) ha hc hm hv ?_ ?_
      · unfold fX8_turn
        rw [noSlot_g hs, bnd_s, if_pos rfl]
        by_cases e : q < 0
        · rw [if_pos e]
        · rw [if_neg e, if_neg]
          rw [Int32.lt_iff_toInt_lt, ti0] at e
          rw [Int32.lt_iff_toInt_lt, show (8 : Int32).toInt = 8 by decide]; omega
      · unfold fX9_turn
        rw [isSlot_g hs, bnd_s, if_neg (by decide), in_b w (by rw [L0, L7]; omega), bnd_s, if_pos rfl]
  · refine comb0 hF (v := -1) ha hc hm hv ?_ ?_
    · unfold fX8_turn
      rw [noSlot_b hb, bnd_s, if_neg (by decide)]
    · unfold fX9_turn
      rw [isSlot_b hb, bnd_s, if_pos rfl]
end STEPS
