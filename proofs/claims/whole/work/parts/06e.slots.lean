/-! ===== putting class and model together; calls that change slots, what is told, sums ===== -/
theorem VS.mv {FT : Tl → Wd → Prop} (hF : FTk FT) {t : Nat} {a : Ab} {w w1 : Wd} (h : VS FT t a w) (hk : Kp (fun k => 14 ≤ k ∧ k ≤ 76) w w1) : VS FT t a w1 := by
  obtain ⟨tv, fv, h1, h2, h3, h4, h5⟩ := h
  exact ⟨tv, fv, by rw [(hk 14 (by omega)).1]; exact h1, by rw [(hk 19 (by omega)).1]; exact h2, h3, h4, fun z => hF _ w w1 (fun k q1 q2 => hk k (by omega)) (h5 z)⟩
theorem stC_cR {k : Nat} (h : stC k) : cR k := by unfold stC at h; unfold cR; omega
theorem stM_mR {k : Nat} (h : stM k) : mR k := h.1
theorem comb {FT : Tl → Wd → Prop} (hF : FTk FT) {t : Nat} {w : Wd} {β : Type} {dq : DecidableEq β} {f1 : Option (β × Wd)} {f2 : Wd → Option (β × Wd)} {v : β} {a a1 : Ab} (ha1 : AbOK a1) (hm : MS a w) (h1 : ∃ w1, f1 = some (v, w1) ∧ CS a1 w1 ∧ VS FT (t + 1) a1 w1 ∧ Kp mR w w1) (h2 : ∀ w1, MS a w1 → ∃ w2, f2 w1 = some (v, w2) ∧ MS a1 w2 ∧ Kp cR w1 w2) : ∃ w', (bnd f1 fun x w1 => bnd (f2 w1) fun y w2 => if x = y then some w2 else none) = some w' ∧ Good FT (t + 1) w' := by
  obtain ⟨w1, e1, hc, hv, k1⟩ := h1
  obtain ⟨w2, e2, hm2, k2⟩ := h2 w1 (hm.kept (k1.weak fun _ z => stM_mR z))
  exact ⟨w2, step_of e1 e2, a1, ha1, hc.kept (k2.weak fun _ z => stC_cR z), hm2, hv.mv hF (k2.weak fun k z => by unfold cR; omega)⟩
/-- refused: nothing changes -/
theorem comb0 {FT : Tl → Wd → Prop} (hF : FTk FT) {t : Nat} {w : Wd} {β : Type} {dq : DecidableEq β} {f1 : Option (β × Wd)} {f2 : Wd → Option (β × Wd)} {v : β} {a : Ab} (ha : AbOK a) (hc : CS a w) (hm : MS a w) (hv : VS FT t a w) (h1 : f1 = some (v, w)) (h2 : f2 w = some (v, w)) : ∃ w', (bnd f1 fun x w1 => bnd (f2 w1) fun y w2 => if x = y then some w2 else none) = some w' ∧ Good FT (t + 1) w' :=
  ⟨w, step_of h1 h2, Good.same hF ha hc hm hv Kp.rf Kp.rf⟩
def aSlot (a : Ab) (s : Nat) (g : Nat → Int) : Ab := (a.1, (fun s' => if s' = s then g else aP a s'), a.2.2)
theorem aSlot_at (a : Ab) (s : Nat) (g : Nat → Int) : aP (aSlot a s g) s = g := if_pos rfl
theorem aSlot_ne (a : Ab) {s s' : Nat} (g : Nat → Int) (h : s' ≠ s) : aP (aSlot a s g) s' = aP a s' := if_neg h
theorem AbOK.slot {a : Ab} (ha : AbOK a) {s : Nat} {g : Nat → Int} (hg : ∀ c, c < aN a → Hgt (g c)) : AbOK (aSlot a s g) := by
  refine ⟨ha.1, fun s' hs' c hc => ?_, ha.2.2.1, ha.2.2.2.1, ha.2.2.2.2.1, ha.2.2.2.2.2.1, ha.2.2.2.2.2.2⟩
  by_cases z : s' = s
  · subst z; rw [aSlot_at]; exact hg c hc
  · rw [aSlot_ne a g z]; exact ha.2.1 s' hs' c hc
theorem CS.slotset {a : Ab} {w w1 : Wd} (h : CS a w) {s : Nat} (hs : s < 4) {g : Nat → Int} (hk : Kp (fun k => stC k ∧ k ≠ 6 + s) w w1) (hg : ∀ c, c < aN a → w1.1 (6 + s) c = iv (g c)) : CS (aSlot a s g) w1 := by
  obtain ⟨h1, h2, h3, h4, h5, h6, h7, h8⟩ := h
  have st : ∀ {k}, stC k → k ≠ 6 + s → w1.1 k = w.1 k := fun z1 z2 => (hk _ ⟨z1, z2⟩).1
  refine ⟨h1.kept (hk.weak fun k z => ⟨Or.inl z, by omega⟩), fun s' hs' c hc => ?_, fun x hx => ?_, fun y hy => ?_, fun c hc => ?_, fun x hx => ?_, fun y hy => ?_, ?_⟩
  · by_cases z : s' = s
    · subst z; rw [aSlot_at]; exact hg c hc
    · rw [aSlot_ne a g z, st (Or.inr (Or.inl (by omega))) (by omega)]; exact h2 s' hs' c hc
  · rw [st (Or.inr (Or.inr (Or.inl (by omega)))) (by omega)]; exact h3 x hx
  · rw [st (Or.inr (Or.inr (Or.inl (by omega)))) (by omega)]; exact h4 y hy
  · rw [st (Or.inr (Or.inr (Or.inl (by omega)))) (by omega)]; exact h5 c hc
  · rw [st (Or.inr (Or.inr (Or.inr (by omega)))) (by omega)]; exact h6 x hx
  · rw [st (Or.inr (Or.inr (Or.inr (by omega)))) (by omega)]; exact h7 y hy
  · rw [st (Or.inr (Or.inr (Or.inl (by omega)))) (by omega)]; exact h8
theorem MS.slotset {a : Ab} {w w1 : Wd} (h : MS a w) {s : Nat} {g : Nat → Int} (hk : Kp (fun k => stM k ∧ k ≠ 100) w w1) (hg : ∀ c, c < aN a → w1.1 100 (25 * s + c) = iv (g c)) (ho : ∀ s', s' < 4 → s' ≠ s → ∀ c, c < aN a → w1.1 100 (25 * s' + c) = w.1 100 (25 * s' + c)) : MS (aSlot a s g) w1 := by
  obtain ⟨h1, h2, h3, h4, h5, h6, h7, h8⟩ := h
  have st : ∀ {k}, stM k → k ≠ 100 → w1.1 k = w.1 k := fun z1 z2 => (hk _ ⟨z1, z2⟩).1
  have k98 := st (k := 99) (by constructor <;> omega) (by omega)
  refine ⟨h1.kept k98, fun s' hs' c hc => ?_, fun x hx => ?_, fun y hy => ?_, fun c hc => ?_, fun x hx => ?_, fun y hy => ?_, ?_⟩
  · by_cases z : s' = s
    · subst z; rw [aSlot_at]; exact hg c hc
    · rw [aSlot_ne a g z, ho s' hs' z c hc]; exact h2 s' hs' c hc
  · rw [st (by constructor <;> omega) (by omega)]; exact h3 x hx
  · rw [st (by constructor <;> omega) (by omega)]; exact h4 y hy
  · rw [st (by constructor <;> omega) (by omega)]; exact h5 c hc
  · rw [st (by constructor <;> omega) (by omega)]; exact h6 x hx
  · rw [st (by constructor <;> omega) (by omega)]; exact h7 y hy
  · rw [k98]; exact h8
section STEPS
variable {FT : Tl → Wd → Prop} {t : Nat} {w : Wd}
theorem Hgt_of {p : Int32} (h1 : ¬ p < 0) (h2 : p ≤ 4) : ∃ z : Int, p = iv z ∧ Hgt z := by
  refine ⟨p.toInt, (iv_toInt p).symm, ?_⟩
  rw [Int32.lt_iff_toInt_lt] at h1
  rw [Int32.le_iff_toInt_le] at h2
  have e0 : (0 : Int32).toInt = 0 := by decide
  have e4 : (4 : Int32).toInt = 4 := by decide
  unfold Hgt; omega
theorem g1 (hF : FTk FT) (hg : Good FT t w) (p q d : Int32) : ∃ w', st1 p q d w = some w' ∧ Good FT (t + 1) w' := by
  obtain ⟨a, ha, hc, hm, hv⟩ := hg
  have hN := aN_le ha
  unfold st1
  rcases rng 4 p with ⟨s, hs, rfl⟩ | hb
  · rcases rng (aN a) q with ⟨c, hcc, rfl⟩ | hb2
    · by_cases hd0 : d < 0
      · refine comb0 hF (v := -2) ha hc hm hv ?_ ?_
        · unfold fX8_set
          rw [noSlot_g hs, bnd_s, if_pos rfl, noCell_g hc.1.1 hcc, bnd_s, if_pos rfl, if_pos hd0]
        · unfold fX9_set
          rw [Int32.lt_iff_toInt_lt] at hd0
          have e0 : (0 : Int32).toInt = 0 := by decide
          rw [isSlot_g hs, bnd_s, if_neg (by decide), isCell_g hm.1 hcc, bnd_s, if_neg (by decide), in_b w (by rw [L0]; omega), bnd_s, if_pos rfl]
      · by_cases hd4 : d ≤ 4
        · obtain ⟨z, rfl, hz⟩ := Hgt_of hd0 hd4
          have hz' := hz
          unfold Hgt at hz'
          refine comb hF (v := iv (aP a s c)) (a1 := aSlot a s (fun c' => if c' = c then z else aP a s c')) (ha.slot fun c' hc' => ?_) hm ⟨uI w (6 + s) c (iv z), ?_, ?_, ?_, ?_⟩ (fun w1 hm1 => ⟨uI w1 100 (25 * s + c) (iv z), ?_, ?_, ?_⟩)
          · by_cases e : c' = c
            · rw [if_pos e]; exact hz
            · rw [if_neg e]; exact ha.2.1 s hs c' hc'
          · unfold fX8_set
            rw [noSlot_g hs, bnd_s, if_pos rfl, noCell_g hc.1.1 hcc, bnd_s, if_pos rfl, if_neg hd0, if_pos hd4, ixA_iv hs (by omega), bind_s, gI_iv (by rw [LI_slot hs]; omega) (by rw [LI_slot hs]; omega), bind_s, bind_s, sI_iv (by rw [LI_slot hs]; omega) (by rw [LI_slot hs]; omega), bind_s, (hc.slot ha hs c hcc).1]
          · refine hc.slotset hs (Kp.uI fun z => z.2 rfl) fun c' hc' => ?_
            by_cases e : c' = c
            · subst e; rw [if_pos rfl, uI_same]
            · rw [if_neg e, uI_other (Or.inr e)]; exact hc.2.1 s hs c' hc'
          · exact hv.kept hF (Kp.uI (by omega)) rfl
          · exact Kp.uI (by unfold mR; omega)
          · unfold fX9_set
            rw [isSlot_g hs, bnd_s, if_neg (by decide), isCell_g hm1.1 hcc, bnd_s, if_neg (by decide), in_g w1 (by rw [L0, hz.ti]; omega) (by rw [L4, hz.ti]; omega), bnd_s, if_neg (by decide), iv_25sc, gI_iv (by rw [LI_100]; omega) (by rw [LI_100]; omega), bind_s, sI_iv (by rw [LI_100]; omega) (by rw [LI_100]; omega), bind_s, (hm1.slot ha hs c hcc).1]
          · refine hm1.slotset (Kp.uI fun z => z.2 rfl) (fun c' hc' => ?_) (fun s' hs' hne c' hc' => uI_other (Or.inr (by omega)))
            by_cases e : c' = c
            · subst e; rw [if_pos rfl, uI_same]
            · rw [if_neg e, uI_other (Or.inr (by omega))]; exact hm1.2.1 s hs c' hc'
          · exact Kp.uI (by unfold cR; omega)
        · refine comb0 hF (v := -2) ha hc hm hv ?_ ?_
          · unfold fX8_set
            rw [noSlot_g hs, bnd_s, if_pos rfl, noCell_g hc.1.1 hcc, bnd_s, if_pos rfl, if_neg hd0, if_neg hd4]
          · unfold fX9_set
            rw [Int32.le_iff_toInt_le] at hd4
            have e4 : (4 : Int32).toInt = 4 := by decide
            rw [isSlot_g hs, bnd_s, if_neg (by decide), isCell_g hm.1 hcc, bnd_s, if_neg (by decide), in_b w (by rw [L4]; omega), bnd_s, if_pos rfl]
    · refine comb0 hF (v := -1) ha hc hm hv ?_ ?_
      · unfold fX8_set
        rw [noSlot_g hs, bnd_s, if_pos rfl, noCell_b hc.1.1 hb2, bnd_s, if_neg (by decide)]
      · unfold fX9_set
        rw [isSlot_g hs, bnd_s, if_neg (by decide), isCell_b hm.1 hb2, bnd_s, if_pos rfl]
  · refine comb0 hF (v := -1) ha hc hm hv ?_ ?_
    · unfold fX8_set
      rw [noSlot_b hb, bnd_s, if_neg (by decide)]
    · unfold fX9_set
      rw [isSlot_b hb, bnd_s, if_pos rfl]
/-- how many places of two rows differ -/
def dif (f g : Nat → Int) : Nat → Int := fun i => if f i = g i then 0 else 1
theorem dif_bd (f g : Nat → Int) (i : Nat) : 0 ≤ dif f g i ∧ dif f g i ≤ 1 := by unfold dif; split <;> omega
/-- a row becomes as another one; both may be one row -/
theorem overwrite_s {W H : Nat} {w : Wd} (hg : GW W H w) {k j : Nat} (hk1 : k ≠ 1) (hj1 : j ≠ 1) (hk : W * H ≤ LI k) (hk2 : LI k ≤ 2000) (hj : W * H ≤ LI j) (hj2 : LI j ≤ 2000) {f g : Nat → Int} (hf : ∀ c, c < W * H → w.1 k c = iv (f c) ∧ -2147483648 ≤ f c ∧ f c < 2147483648) (hgg : ∀ c, c < W * H → w.1 j c = iv (g c) ∧ -2147483648 ≤ g c ∧ g c < 2147483648) : ∃ w1, fX2_overwrite k j w = some (iv (sm (dif g f) (W * H)), w1) ∧ (∀ c, c < W * H → w1.1 j c = iv (f c)) ∧ (∀ c, W * H ≤ c → w1.1 j c = w.1 j c) ∧ Kp (fun q => q ≠ j) w w1 := by
  have hWH := WH_le hg.2.1 hg.2.2.2.1
  have key : ∀ n i w', i ≤ W * H → W * H - i < n → (∀ c, c < i → w'.1 j c = iv (f c)) → (∀ c, i ≤ c → w'.1 j c = w.1 j c) → Kp (fun q => q ≠ j) w w' → ∃ w1, lp (fun _ _ _ => none) (bX2_overwrite_5 k j) n (iv (sm (dif g f) i)) (iv i) w' = some (iv (sm (dif g f) (W * H)), w1) ∧ (∀ c, c < W * H → w1.1 j c = iv (f c)) ∧ (∀ c, W * H ≤ c → w1.1 j c = w.1 j c) ∧ Kp (fun q => q ≠ j) w w1 := by
    intro n
    induction n with
    | zero => intro i w' h1 h2; omega
    | succ n ih =>
      intro i w' h1 h2 hlo hhi hkp
      have hg' : GW W H w' := hg.kept (hkp 1 (by omega)).1
      rw [lp_s]
      unfold bX2_overwrite_5 jX2_overwrite_28
      rw [cells_s hg', bnd_s]
      by_cases z : i = W * H
      · rw [if_pos (by rw [iv_le (by omega) (by omega)]; omega), z]
        exact ⟨w', rfl, fun c hc => hlo c (by omega), fun c hc => hhi c (by omega), hkp⟩
      · have hki : w'.1 k i = iv (f i) := by
          by_cases e : k = j
          · rw [e, hhi i (by omega), ← e]; exact (hf i (by omega)).1
          · rw [(hkp k e).1]; exact (hf i (by omega)).1
        have hji : w'.1 j i = iv (g i) := by rw [hhi i (by omega)]; exact (hgg i (by omega)).1
        rw [if_neg (by rw [iv_le (by omega) (by omega)]; omega), gI_iv (by omega) hj2, bind_s, gI_iv (by omega) hk2, bind_s, hki, hji]
        have nx := ih (i + 1) (uI w' j i (iv (f i))) (by omega) (by omega) (fun c hc => by
          by_cases e : c = i
          · subst e; exact uI_same
          · rw [uI_other (Or.inr e)]; exact hlo c (by omega)) (fun c hc => by rw [uI_other (Or.inr (by omega))]; exact hhi c (by omega)) (hkp.trans (Kp.uI (fun z => z rfl)))
        rw [sm_s] at nx
        have e1 := (hf i (by omega)).2
        have e2 := (hgg i (by omega)).2
        by_cases e : g i = f i
        · rw [if_pos (by rw [iv_eq e2 e1]; exact e), bind_s, sI_iv (by omega) hj2, bind_s, iv_s1]
          have : dif g f i = 0 := if_pos e
          rw [this, Int.add_zero] at nx
          exact nx
        · rw [if_neg (by rw [iv_eq e2 e1]; exact e), bind_s, sI_iv (by omega) hj2, bind_s, iv_s1, iv_1, iv_add]
          have : dif g f i = 1 := if_neg e
          rw [this] at nx
          exact nx
  unfold fX2_overwrite
  rw [iv_0]
  exact key G 0 w (by omega) (by have := hG; omega) (fun c hc => by omega) (fun c _ => rfl) Kp.rf
theorem Hgt.rg {z : Int} (h : Hgt z) : -2147483648 ≤ z ∧ z < 2147483648 := by unfold Hgt at h; omega
theorem mcopy_s {W H : Nat} {w : Wd} (hg : MW W H w) {s r : Nat} (hs : s < 4) (hr : r < 4) {P : Nat → Nat → Int} (hP : ∀ s, s < 4 → ∀ c, c < W * H → w.1 100 (25 * s + c) = iv (P s c) ∧ Hgt (P s c)) : ∃ w1, lp (fun _ _ _ => none) (bX9_copy_21 (iv s) (iv r)) G (0 : Int32) (0 : Int32) w = some (iv (sm (dif (P r) (P s)) (W * H)), w1) ∧ (∀ c, c < W * H → w1.1 100 (25 * r + c) = iv (P s c)) ∧ (∀ s', s' < 4 → s' ≠ r → ∀ c, c < W * H → w1.1 100 (25 * s' + c) = w.1 100 (25 * s' + c)) ∧ Kp (fun q => q ≠ 100) w w1 := by
  have hWH := WH_le hg.2.1 hg.2.2.2.1
  have key : ∀ n i w', i ≤ W * H → W * H - i < n → (∀ c, c < i → w'.1 100 (25 * r + c) = iv (P s c)) → (∀ s', s' < 4 → ∀ c, c < W * H → (s' ≠ r ∨ i ≤ c) → w'.1 100 (25 * s' + c) = w.1 100 (25 * s' + c)) → Kp (fun q => q ≠ 100) w w' → ∃ w1, lp (fun _ _ _ => none) (bX9_copy_21 (iv s) (iv r)) n (iv (sm (dif (P r) (P s)) i)) (iv i) w' = some (iv (sm (dif (P r) (P s)) (W * H)), w1) ∧ (∀ c, c < W * H → w1.1 100 (25 * r + c) = iv (P s c)) ∧ (∀ s', s' < 4 → s' ≠ r → ∀ c, c < W * H → w1.1 100 (25 * s' + c) = w.1 100 (25 * s' + c)) ∧ Kp (fun q => q ≠ 100) w w1 := by
    intro n
    induction n with
    | zero => intro i w' h1 h2; omega
    | succ n ih =>
      intro i w' h1 h2 hlo hhi hkp
      have hg' : MW W H w' := hg.kept (hkp 99 (by omega)).1
      rw [lp_s]
      unfold bX9_copy_21 jX9_copy_63
      rw [mcells_s hg', bnd_s]
      by_cases z : i = W * H
      · rw [if_pos (by rw [iv_le (by omega) (by omega)]; omega), z]
        exact ⟨w', rfl, fun c hc => hlo c (by omega), fun s' hs' hne c hc => hhi s' hs' c hc (Or.inl hne), hkp⟩
      · have hki : w'.1 100 (25 * s + i) = iv (P s i) := by rw [hhi s hs i (by omega) (Or.inr (by omega))]; exact (hP s hs i (by omega)).1
        have hji : w'.1 100 (25 * r + i) = iv (P r i) := by rw [hhi r hr i (by omega) (Or.inr (by omega))]; exact (hP r hr i (by omega)).1
        rw [if_neg (by rw [iv_le (by omega) (by omega)]; omega), iv_25sc, iv_25sc, gI_iv (by rw [LI_100]; omega) (by rw [LI_100]; omega), bind_s, gI_iv (by rw [LI_100]; omega) (by rw [LI_100]; omega), bind_s, hki, hji]
        have nx := ih (i + 1) (uI w' 100 (25 * r + i) (iv (P s i))) (by omega) (by omega) (fun c hc => by
          by_cases e : c = i
          · subst e; exact uI_same
          · rw [uI_other (Or.inr (by omega))]; exact hlo c (by omega)) (fun s' hs' c hc hor => by
          rw [uI_other (Or.inr (by omega))]
          exact hhi s' hs' c hc (by omega)) (hkp.trans (Kp.uI (fun z => z rfl)))
        rw [sm_s] at nx
        have e1 := (hP s hs i (by omega)).2.rg
        have e2 := (hP r hr i (by omega)).2.rg
        by_cases e : P s i = P r i
        · rw [if_pos (by rw [iv_eq e1 e2]; exact e), bind_s, sI_iv (by rw [LI_100]; omega) (by rw [LI_100]; omega), bind_s, iv_s1, iv_0, iv_add]
          have : dif (P r) (P s) i = 0 := if_pos e.symm
          rw [this] at nx
          exact nx
        · rw [if_neg (by rw [iv_eq e1 e2]; exact e), bind_s, sI_iv (by rw [LI_100]; omega) (by rw [LI_100]; omega), bind_s, iv_s1, iv_1, iv_add]
          have : dif (P r) (P s) i = 1 := if_neg (fun q => e q.symm)
          rw [this] at nx
          exact nx
  rw [iv_0]
  exact key G 0 w (by omega) (by have := hG; omega) (fun c hc => by omega) (fun _ _ _ _ _ => rfl) Kp.rf
theorem g3 (hF : FTk FT) (hg : Good FT t w) (p q d : Int32) : ∃ w', st3 p q d w = some w' ∧ Good FT (t + 1) w' := by
  obtain ⟨a, ha, hc, hm, hv⟩ := hg
  have hN := aN_le ha
  unfold st3
  rcases rng 4 p with ⟨s, hs, rfl⟩ | hb
  · rcases rng 4 q with ⟨r, hr, rfl⟩ | hb2
    · obtain ⟨w1, e1, e2, e3, e4⟩ := overwrite_s (k := 6 + s) (j := 6 + r) hc.1.1 (by omega) (by omega) (by rw [LI_slot hs]; exact hN) (by rw [LI_slot hs]; omega) (by rw [LI_slot hr]; exact hN) (by rw [LI_slot hr]; omega) (fun c hcc => ⟨(hc.slot ha hs c hcc).1, (hc.slot ha hs c hcc).2.rg⟩) (fun c hcc => ⟨(hc.slot ha hr c hcc).1, (hc.slot ha hr c hcc).2.rg⟩)
      refine comb hF (v := iv (sm (dif (aP a r) (aP a s)) (aN a))) (a1 := aSlot a r (aP a s)) (ha.slot fun c hcc => ha.2.1 s hs c hcc) hm ⟨w1, ?_, hc.slotset hr (e4.weak fun k z => z.2) e2, hv.kept hF (e4.weak fun k z => by omega) rfl, e4.weak fun k z => by unfold mR at z; omega⟩ (fun w2 hm2 => ?_)
      · unfold fX8_copy
        rw [noSlot_g hs, bnd_s, if_pos rfl, noSlot_g hr, bnd_s, if_pos rfl, ixA_iv hs (by omega), bind_s, ixA_iv hr (by omega), bind_s, e1, bnd_s]
      · obtain ⟨w3, m1, m2, m3, m4⟩ := mcopy_s hm2.1 hs hr (P := aP a) (fun s hs c hcc => hm2.slot ha hs c hcc)
        refine ⟨w3, ?_, hm2.slotset (m4.weak fun k z => z.2) m2 m3, m4.weak fun k z => by unfold cR at z; omega⟩
        unfold fX9_copy
        rw [isSlot_g hs, bnd_s, if_neg (by decide), isSlot_g hr, bnd_s, if_neg (by decide), m1]
    · refine comb0 hF (v := -1) ha hc hm hv ?_ ?_
      · unfold fX8_copy
        rw [noSlot_g hs, bnd_s, if_pos rfl, noSlot_b hb2, bnd_s, if_neg (by decide)]
      · unfold fX9_copy
        rw [isSlot_g hs, bnd_s, if_neg (by decide), isSlot_b hb2, bnd_s, if_pos rfl]
  · refine comb0 hF (v := -1) ha hc hm hv ?_ ?_
    · unfold fX8_copy
      rw [noSlot_b hb, bnd_s, if_neg (by decide)]
    · unfold fX9_copy
      rw [isSlot_b hb, bnd_s, if_pos rfl]
end STEPS
