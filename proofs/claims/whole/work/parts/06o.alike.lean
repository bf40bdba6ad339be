/-! ===== alike, same, least ===== -/
theorem malike_s {W H : Nat} {w : Wd} (hg : MW W H w) {s r : Nat} (hs : s < 4) (hr : r < 4) {f g : Nat → Int} (hf : ∀ c, c < W * H → w.1 100 (25 * s + c) = iv (f c) ∧ Hgt (f c)) (hgg : ∀ c, c < W * H → w.1 100 (25 * r + c) = iv (g c) ∧ Hgt (g c)) : ∃ w1, lp (fun _ _ _ => none) (bX9_alike_21 (iv s) (iv r)) G (0 : Int32) (0 : Int32) w = some (if 0 < sm (tb W H f g) 8 then 1 else 0, w1) ∧ Kp (fun q => q ≠ 120) w w1 := by
  have hN := WH_le hg.2.1 hg.2.2.2.1
  refine lpB (m := 8) (fun rr => ∃ w1, rr = some (if 0 < sm (tb W H f g) 8 then 1 else 0, w1) ∧ Kp (fun q => q ≠ 120) w w1) (fun i x w' => x = (if 0 < sm (tb W H f g) i then 1 else 0) ∧ Kp (fun q => q ≠ 120) w w') ?_ ?_ (hGn (by omega)) ⟨rfl, Kp.rf⟩
  · rintro i x w' kk hi ⟨hx, h2⟩
    have hg' : MW W H w' := hg.kept (h2 99 (by omega)).1
    have b0 := (tbs_bd W H f g i).1
    refine Or.inl ?_
    unfold bX9_alike_21 jX9_alike_56 jX9_alike_61 jX9_alike_62
    rw [if_neg (by rw [iv_8, iv_le (by omega) (by omega)]; omega), iv_s1]
    by_cases hkp : kps W H i
    · rw [(mkeeps_s hg' hi).1 hkp, bnd_s, if_neg (by decide)]
      obtain ⟨w1, e1, e2, e3⟩ := layTurned_s hg' hs (f := f) (fun c hc => by rw [(h2 100 (by omega)).1]; exact (hf c hc).1) hi hkp
      have hg1 : MW W H w1 := hg'.kept (e3 99 (by omega)).1
      have r119 := tH_r hg.2.1 hg.2.2.2.1 hi hkp (fun c hc => (hf c hc).2) e2
      rw [e1, bnd_s, unlike_s hg1 hr r119 (fun c hc => by rw [(e3 100 (by omega)).1, (h2 100 (by omega)).1]; exact hgg c hc), bnd_s]
      have hb := sm_bound (f := dif (tH W H i f) g) (lo := 0) (hi := 1) (n := W * H) (fun j _ => dif_bd _ _ j)
      have hd := lxd_dif (tH W H i f) g (W * H)
      by_cases e : 0 < sm (tb W H f g) i
      · rw [if_pos e] at hx
        subst hx
        rw [if_neg (by decide)]
        exact ⟨1, w1, rfl, by rw [sm_s, if_pos (by have := (tb_bd W H f g i).1; omega)], h2.trans e3⟩
      · rw [if_neg e] at hx
        subst hx
        rw [if_pos rfl]
        by_cases e5 : sm (dif (tH W H i f) g) (W * H) = 0
        · rw [if_pos (by rw [e5]; rfl)]
          exact ⟨1, w1, rfl, by rw [sm_s, show tb W H f g i = 1 from if_pos ⟨hkp, hd.mp e5⟩, if_pos (by omega)], h2.trans e3⟩
        · rw [if_neg (by rw [iv_0, iv_eq (by omega) (by omega)]; exact e5)]
          exact ⟨0, w1, rfl, by rw [sm_s, show tb W H f g i = 0 from if_neg (fun z => e5 (hd.mpr z.2)), if_neg (by omega)], h2.trans e3⟩
    · rw [(mkeeps_s hg' hi).2 hkp, bnd_s, if_pos rfl]
      exact ⟨x, w', rfl, by rw [sm_s, show tb W H f g i = 0 from if_neg (fun z => hkp z.1), Int.add_zero]; exact hx, h2⟩
  · rintro x w' kk ⟨rfl, h2⟩
    refine ⟨w', ?_, h2⟩
    unfold bX9_alike_21
    rw [if_pos (by rw [iv_8]; exact Int32.le_refl _)]
    by_cases e : 0 < sm (tb W H f g) 8
    · rw [if_pos e, if_neg (by decide)]
    · rw [if_neg e, if_pos rfl]
theorem msame_s {W H : Nat} {w : Wd} (hg : MW W H w) {s : Nat} (hs : s < 4) {f : Nat → Int} (hf : ∀ c, c < W * H → w.1 100 (25 * s + c) = iv (f c) ∧ Hgt (f c)) : ∃ w1, lp (fun _ _ _ => none) (bX9_same_13 (iv s)) G (0 : Int32) (0 : Int32) w = some (iv (sm (tb W H f f) 8), w1) ∧ Kp (fun q => q ≠ 120) w w1 := by
  have hN := WH_le hg.2.1 hg.2.2.2.1
  refine lpB (m := 8) (fun rr => ∃ w1, rr = some (iv (sm (tb W H f f) 8), w1) ∧ Kp (fun q => q ≠ 120) w w1) (fun i x w' => x = iv (sm (tb W H f f) i) ∧ Kp (fun q => q ≠ 120) w w') ?_ ?_ (hGn (by omega)) ⟨rfl, Kp.rf⟩
  · rintro i x w' kk hi ⟨rfl, h2⟩
    have hg' : MW W H w' := hg.kept (h2 99 (by omega)).1
    refine Or.inl ?_
    unfold bX9_same_13 jX9_same_47 jX9_same_49
    rw [if_neg (by rw [iv_8, iv_le (by omega) (by omega)]; omega), iv_s1]
    by_cases hkp : kps W H i
    · rw [(mkeeps_s hg' hi).1 hkp, bnd_s, if_neg (by decide)]
      obtain ⟨w1, e1, e2, e3⟩ := layTurned_s hg' hs (f := f) (fun c hc => by rw [(h2 100 (by omega)).1]; exact (hf c hc).1) hi hkp
      have hg1 : MW W H w1 := hg'.kept (e3 99 (by omega)).1
      have r119 := tH_r hg.2.1 hg.2.2.2.1 hi hkp (fun c hc => (hf c hc).2) e2
      rw [e1, bnd_s, unlike_s hg1 hs r119 (fun c hc => by rw [(e3 100 (by omega)).1, (h2 100 (by omega)).1]; exact hf c hc), bnd_s]
      have hb := sm_bound (f := dif (tH W H i f) f) (lo := 0) (hi := 1) (n := W * H) (fun j _ => dif_bd _ _ j)
      have hd := lxd_dif (tH W H i f) f (W * H)
      refine ⟨iv (sm (tb W H f f) (i + 1)), w1, ?_, rfl, h2.trans e3⟩
      rw [sm_s]
      by_cases e5 : sm (dif (tH W H i f) f) (W * H) = 0
      · rw [if_pos (by rw [e5]; rfl), show tb W H f f i = 1 from if_pos ⟨hkp, hd.mp e5⟩, iv_1, iv_add]
      · rw [if_neg (by rw [iv_0, iv_eq (by omega) (by omega)]; exact e5), show tb W H f f i = 0 from if_neg (fun z => e5 (hd.mpr z.2)), show (0 : Int32) = iv 0 by decide, iv_add]
    · rw [(mkeeps_s hg' hi).2 hkp, bnd_s, if_pos rfl]
      exact ⟨_, w', rfl, by rw [sm_s, show tb W H f f i = 0 from if_neg (fun z => hkp z.1), Int.add_zero], h2⟩
  · rintro x w' kk ⟨rfl, h2⟩
    refine ⟨w', ?_, h2⟩
    unfold bX9_same_13
    rw [if_pos (by rw [iv_8]; exact Int32.le_refl _)]
/-- the turned heap is kept as the first -/
theorem mkeep_s {W H : Nat} {w : Wd} (hg : MW W H w) {ρ : Type} (Q : Option (Int32 × Wd) → Prop) (kk : Int32 → Int32 → Wd → Option (Int32 × Wd)) (p v : Int32) {g : Nat → Int} (hgg : ∀ c, c < W * H → w.1 120 c = iv (g c)) (hQ : ∀ w1, (∀ c, c < W * H → w1.1 121 c = iv (g c)) → Kp (fun q => q ≠ 121) w w1 → Q (kk v (v + 1) w1)) : Q (jX9_least_47 p kk v w) := by
  have hN := WH_le hg.2.1 hg.2.2.2.1
  unfold jX9_least_47
  refine lpC (m := W * H) Q (fun i x y w' => x = v ∧ y = v ∧ (∀ c, c < i → w'.1 121 c = iv (g c)) ∧ Kp (fun q => q ≠ 121) w w') ?_ ?_ (hGn (by omega)) ⟨rfl, rfl, fun c hc => by omega, Kp.rf⟩
  · rintro i x y w' k2 hi ⟨rfl, rfl, h1, h2⟩
    have hg' : MW W H w' := hg.kept (h2 99 (by omega)).1
    refine Or.inl ⟨_, _, uI w' 121 i (iv (g i)), ?_, rfl, rfl, fun c hc => ?_, h2.trans (Kp.uI (fun z => z rfl))⟩
    · unfold bX9_least_52
      rw [mcells_s hg', bnd_s, if_neg (iv_Nle (by omega) hi), gI_iv (by rw [LI_120]; omega) (by rw [LI_120]; omega), bind_s, sI_iv (by rw [LI_121]; omega) (by rw [LI_121]; omega), bind_s, iv_s1, (h2 120 (by omega)).1, hgg i hi]
    · by_cases e : c = i
      · subst e; exact uI_same
      · rw [uI_other (Or.inr e)]; exact h1 c (by omega)
  · rintro x y w' k2 ⟨rfl, rfl, h1, h2⟩
    have hg' : MW W H w' := hg.kept (h2 99 (by omega)).1
    unfold bX9_least_52 jX9_least_81
    rw [mcells_s hg', bnd_s, if_pos iv_Nle']
    exact hQ w' h1 h2
theorem mleast_s {W H : Nat} {w : Wd} (hg : MW W H w) {s : Nat} (hs : s < 4) {f : Nat → Int} (hf : ∀ c, c < W * H → w.1 100 (25 * s + c) = iv (f c) ∧ Hgt (f c)) : ∃ w1, lp (fun _ _ _ => none) (bX9_least_14 (iv s)) G (-9 : Int32) (0 : Int32) w = some (iv ((bst W H f 7).1 : Nat), w1) ∧ (∀ c, c < W * H → w1.1 100 (25 * s + c) = iv ((bst W H f 7).2 c)) ∧ (∀ s', s' < 4 → s' ≠ s → ∀ c, c < W * H → w1.1 100 (25 * s' + c) = w.1 100 (25 * s' + c)) ∧ Kp (fun q => q ≠ 100 ∧ q ≠ 120 ∧ q ≠ 121) w w1 := by
  have hN := WH_le hg.2.1 hg.2.2.2.1
  have hH := fun c hc => (hf c hc).2
  have hbst : ∀ i, i < 8 → ∀ c, c < W * H → Hgt ((bst W H f i).2 c) := fun i hi c hc => by
    have hok := bst_ok hg.2.1 hg.2.2.2.1 f i hi
    rw [hok.2.2 c hc]; exact tH_H hg.2.1 hg.2.2.2.1 hok.1 hok.2.1 hH c hc
  let Q : Option (Int32 × Wd) → Prop := fun rr => ∃ w1, rr = some (iv ((bst W H f 7).1 : Nat), w1) ∧ (∀ c, c < W * H → w1.1 100 (25 * s + c) = iv ((bst W H f 7).2 c)) ∧ (∀ s', s' < 4 → s' ≠ s → ∀ c, c < W * H → w1.1 100 (25 * s' + c) = w.1 100 (25 * s' + c)) ∧ Kp (fun q => q ≠ 100 ∧ q ≠ 120 ∧ q ≠ 121) w w1
  -- from the turn i + 1 on
  have key : ∀ n i x w', i < 8 → 8 - i ≤ n → x = iv ((bst W H f i).1 : Nat) → (∀ c, c < W * H → w'.1 121 c = iv ((bst W H f i).2 c)) → Kp (fun q => q ≠ 120 ∧ q ≠ 121) w w' → Q (lp (fun _ _ _ => none) (bX9_least_14 (iv s)) n x (iv ((i + 1 : Nat) : Int)) w') := by
    intro n
    induction n with
    | zero => intro i x w' h1 h2; omega
    | succ n ih =>
      intro i x w' hi hn hx h1 h2
      have hg' : MW W H w' := hg.kept (h2 99 (by omega)).1
      have hok := bst_ok hg.2.1 hg.2.2.2.1 f i hi
      rw [lp_s]
      unfold bX9_least_14 jX9_least_81
      by_cases e8 : i = 7
      · subst e8
        rw [if_pos (by rw [iv_8]; exact Int32.le_refl _)]
        obtain ⟨w4, n1, n2, n3, n4⟩ := mput120_s (w := w') hg' hs x h1
        refine ⟨w4, by rw [n1, hx], n2, fun s' hs' hne c hc => ?_, (h2.weak fun k z => z.2).trans (n4.weak fun k z => z.1)⟩
        rw [n3 s' hs' hne c hc, (h2 100 (by omega)).1]
      · rw [if_neg (by rw [iv_8, iv_le (by omega) (by omega)]; omega), iv_s1]
        have hi1 : i + 1 < 8 := by omega
        by_cases hkp : kps W H (i + 1)
        · rw [(mkeeps_s hg' hi1).1 hkp, bnd_s, if_neg (by decide)]
          obtain ⟨w1, e1, e2, e3⟩ := layTurned_s hg' hs (f := f) (fun c hc => by rw [(h2 100 (by omega)).1]; exact (hf c hc).1) hi1 hkp
          have hg1 : MW W H w1 := hg'.kept (e3 99 (by omega)).1
          have r119 := tH_r hg.2.1 hg.2.2.2.1 hi1 hkp hH e2
          have r120 : ∀ c, c < W * H → w1.1 121 c = iv ((bst W H f i).2 c) ∧ Hgt ((bst W H f i).2 c) := fun c hc => ⟨by rw [(e3 121 (by omega)).1]; exact h1 c hc, hbst i hi c hc⟩
          have hk1 : Kp (fun q => q ≠ 120 ∧ q ≠ 121) w w1 := h2.trans (e3.weak fun k z => z.1)
          rw [e1, bnd_s, if_neg (by rw [hx, iv_m9, iv_eq (by omega) (by omega)]; omega), ahead_s hg1 r119 r120, bnd_s]
          by_cases e : lxd (tH W H (i + 1) f) (bst W H f i).2 (W * H) < 0
          · rw [if_pos e, if_neg (by decide)]
            have eb : bst W H f (i + 1) = (i + 1, tH W H (i + 1) f) := if_pos ⟨hkp, e⟩
            refine mkeep_s (ρ := Unit) hg1 Q _ _ _ (fun c hc => (r119 c hc).1) (fun w2 b1 b2 => ?_)
            rw [iv_s1]
            exact ih (i + 1) _ w2 hi1 (by omega) (by rw [eb]) (by rw [eb]; exact b1) (hk1.trans (b2.weak fun k z => z.2))
          · rw [if_neg e, if_pos rfl]
            have eb : bst W H f (i + 1) = bst W H f i := if_neg (fun z => e z.2)
            exact ih (i + 1) _ w1 hi1 (by omega) (by rw [eb]; exact hx) (by rw [eb]; exact fun c hc => (r120 c hc).1) hk1
        · rw [(mkeeps_s hg' hi1).2 hkp, bnd_s, if_pos rfl]
          have eb : bst W H f (i + 1) = bst W H f i := if_neg (fun z => hkp z.1)
          exact ih (i + 1) _ w' hi1 (by omega) (by rw [eb]; exact hx) (by rw [eb]; exact h1) h2
  have hG' := hG
  obtain ⟨n, hn⟩ : ∃ n, G = n + 1 := ⟨G - 1, by omega⟩
  show Q (lp (fun _ _ _ => none) (bX9_least_14 (iv s)) G (-9 : Int32) (0 : Int32) w)
  rw [hn, lp_s, show (0 : Int32) = iv ((0 : Nat) : Int) by decide]
  unfold bX9_least_14
  have k0 : kps W H 0 := Or.inl rfl
  rw [if_neg (by rw [iv_8, iv_le (by omega) (by omega)]; omega), (mkeeps_s hg (by omega)).1 k0, bnd_s, if_neg (by decide)]
  obtain ⟨w1, e1, e2, e3⟩ := layTurned_s hg hs (f := f) (fun c hc => (hf c hc).1) (t := 0) (by omega) k0
  have hg1 : MW W H w1 := hg.kept (e3 99 (by omega)).1
  rw [e1, bnd_s, if_pos rfl]
  refine mkeep_s (ρ := Unit) hg1 Q _ _ _ (g := f) (fun c hc => ?_) (fun w2 b1 b2 => ?_)
  · rw [e2 c hc]
    show iv (f (im W H (ivt 0) c)) = iv (f c)
    rw [show ivt 0 = 0 from rfl, im_0 hg.2.1 hg.2.2.2.1 hc]
  · rw [iv_s1]
    exact key n 0 _ w2 (by omega) (by omega) rfl b1 ((e3.weak fun k z => z.1).trans (b2.weak fun k z => z.2))
section STEPS
variable {FT : Tl → Wd → Prop} {t : Nat} {w : Wd}
theorem g30 (hF : FTk FT) (hg : Good FT t w) (p q d : Int32) : ∃ w', st30 p q d w = some w' ∧ Good FT (t + 1) w' := by
  obtain ⟨a, ha, hc, hm, hv⟩ := hg
  have hN := aN_le ha
  unfold st30
  rcases rng 4 p with ⟨s, hs, rfl⟩ | hb
  · rcases rng 4 q with ⟨r, hr, rfl⟩ | hb2
    · obtain ⟨w1, e1, e2⟩ := turnsBetween_s (k := 6 + s) (j := 6 + r) hc.1 (by omega) (by omega) (by rw [LI_slot hs]; exact hN) (by rw [LI_slot hs]; omega) (by rw [LI_slot hr]; exact hN) (by rw [LI_slot hr]; omega) (hc.slot ha hs) (hc.slot ha hr)
      have hb := tbs_bd (aW a) (aH a) (aP a s) (aP a r) 8
      refine comb hF (v := if 0 < sm (tb (aW a) (aH a) (aP a s) (aP a r)) 8 then 1 else 0) (a1 := a) ha hm ⟨w1, ?_, hc.kept (e2.weak fun k z => by unfold stC at z; omega), hv.kept hF (e2.weak fun k z => by omega) rfl, e2.weak fun k z => by unfold mR at z; omega⟩ (fun w2 hm2 => ?_)
      · unfold fX8_alike
        rw [noSlot_g hs, bnd_s, if_pos rfl, noSlot_g hr, bnd_s, if_pos rfl, ixA_iv hs (by omega), bind_s, ixA_iv hr (by omega), bind_s, e1, bnd_s]
        by_cases e : 0 < sm (tb (aW a) (aH a) (aP a s) (aP a r)) 8
        · rw [if_pos e, if_neg (by rw [iv_0, iv_le (by omega) (by omega)]; omega)]
        · rw [if_neg e, if_pos (by rw [iv_0, iv_le (by omega) (by omega)]; omega)]
      · obtain ⟨w3, m1, m2⟩ := malike_s hm2.1 hs hr (hm2.slot ha hs) (hm2.slot ha hr)
        refine ⟨w3, ?_, hm2.kept (m2.weak fun k z => by unfold stM at z; omega), m2.weak fun k z => by unfold cR at z; omega⟩
        unfold fX9_alike
        rw [isSlot_g hs, bnd_s, if_neg (by decide), isSlot_g hr, bnd_s, if_neg (by decide), m1]
    · refine comb0 hF (v := -1) ha hc hm hv ?_ ?_
      · unfold fX8_alike
        rw [noSlot_g hs, bnd_s, if_pos rfl, noSlot_b hb2, bnd_s, if_neg (by decide)]
      · unfold fX9_alike
        rw [isSlot_g hs, bnd_s, if_neg (by decide), isSlot_b hb2, bnd_s, if_pos rfl]
  · refine comb0 hF (v := -1) ha hc hm hv ?_ ?_
    · unfold fX8_alike
      rw [noSlot_b hb, bnd_s, if_neg (by decide)]
    · unfold fX9_alike
      rw [isSlot_b hb, bnd_s, if_pos rfl]
theorem g31 (hF : FTk FT) (hg : Good FT t w) (p q d : Int32) : ∃ w', st31 p q d w = some w' ∧ Good FT (t + 1) w' := by
  obtain ⟨a, ha, hc, hm, hv⟩ := hg
  have hN := aN_le ha
  unfold st31
  rcases rng 4 p with ⟨s, hs, rfl⟩ | hb
  · obtain ⟨w1, e1, e2⟩ := turnsBetween_s (k := 6 + s) (j := 6 + s) hc.1 (by omega) (by omega) (by rw [LI_slot hs]; exact hN) (by rw [LI_slot hs]; omega) (by rw [LI_slot hs]; exact hN) (by rw [LI_slot hs]; omega) (hc.slot ha hs) (hc.slot ha hs)
    refine comb hF (v := iv (sm (tb (aW a) (aH a) (aP a s) (aP a s)) 8)) (a1 := a) ha hm ⟨w1, ?_, hc.kept (e2.weak fun k z => by unfold stC at z; omega), hv.kept hF (e2.weak fun k z => by omega) rfl, e2.weak fun k z => by unfold mR at z; omega⟩ (fun w2 hm2 => ?_)
    · unfold fX8_same
      rw [noSlot_g hs, bnd_s, if_pos rfl, ixA_iv hs (by omega), bind_s, bind_s, e1, bnd_s]
    · obtain ⟨w3, m1, m2⟩ := msame_s hm2.1 hs (hm2.slot ha hs)
      refine ⟨w3, ?_, hm2.kept (m2.weak fun k z => by unfold stM at z; omega), m2.weak fun k z => by unfold cR at z; omega⟩
      unfold fX9_same
      rw [isSlot_g hs, bnd_s, if_neg (by decide), m1]
  · refine comb0 hF (v := -1) ha hc hm hv ?_ ?_
    · unfold fX8_same
      rw [noSlot_b hb, bnd_s, if_neg (by decide)]
    · unfold fX9_same
      rw [isSlot_b hb, bnd_s, if_pos rfl]
theorem MS.slotcongr {a : Ab} {s : Nat} {g g' : Nat → Int} (h : MS (aSlot a s g) w) (hs : s < 4) (e : ∀ c, c < aN a → g c = g' c) : MS (aSlot a s g') w := by
  refine ⟨h.1, fun s' hs' c hc => ?_, h.2.2⟩
  have := h.2.1 s' hs' c hc
  by_cases z : s' = s
  · subst z; rw [aSlot_at] at this ⊢; rw [this, e c hc]
  · rw [aSlot_ne a _ z] at this ⊢; exact this
theorem g32 (hF : FTk FT) (hg : Good FT t w) (p q d : Int32) : ∃ w', st32 p q d w = some w' ∧ Good FT (t + 1) w' := by
  obtain ⟨a, ha, hc, hm, hv⟩ := hg
  have hN := aN_le ha
  unfold st32
  rcases rng 4 p with ⟨s, hs, rfl⟩ | hb
  · obtain ⟨w1, e1, e2⟩ := toFirst_s (k := 6 + s) hc.1 (by omega) (by omega) (by rw [LI_slot hs]; exact hN) (by rw [LI_slot hs]; omega) (hc.slot ha hs)
    have hok := bst_ok (W := aW a) (H := aH a) ha.1.2.1 ha.1.2.2.2 (aP a s) 7 (by omega)
    have hc1 : CS a w1 := hc.kept (e2.weak fun k z => by unfold stC at z; omega)
    obtain ⟨w2, b1, b2, b3⟩ := apply_s ha hc1 hs hok.1 hok.2.1
    refine comb hF (v := iv ((bst (aW a) (aH a) (aP a s) 7).1 : Nat)) (a1 := aSlot a s (tH (aW a) (aH a) (bst (aW a) (aH a) (aP a s) 7).1 (aP a s))) (ha.slot (tH_H ha.1.2.1 ha.1.2.2.2 hok.1 hok.2.1 (ha.2.1 s hs))) hm ⟨w2, ?_, b2, hv.kept hF ((e2.weak fun k z => by omega).trans (b3.weak fun k z => by omega)) rfl, (e2.weak fun k z => by unfold mR at z; omega).trans (b3.weak fun k z => by unfold mR at z; omega)⟩ (fun w2 hm2 => ?_)
    · unfold fX8_least
      rw [noSlot_g hs, bnd_s, if_pos rfl, ixA_iv hs (by omega), bind_s, e1, bnd_s, bind_s, b1, bnd_s]
    · obtain ⟨w3, m1, m2, m3, m4⟩ := mleast_s hm2.1 hs (hm2.slot ha hs)
      refine ⟨w3, ?_, (hm2.slotset (m4.weak fun k z => by unfold stM at z; omega) m2 m3).slotcongr hs hok.2.2, m4.weak fun k z => by unfold cR at z; omega⟩
      unfold fX9_least
      rw [isSlot_g hs, bnd_s, if_neg (by decide), m1]
  · refine comb0 hF (v := -1) ha hc hm hv ?_ ?_
    · unfold fX8_least
      rw [noSlot_b hb, bnd_s, if_neg (by decide)]
    · unfold fX9_least
      rw [isSlot_b hb, bnd_s, if_pos rfl]
end STEPS
