/-! ===== carry: the step ===== -/
section MCARRY2
variable {a : Ab} {w : Wd}
theorem mcarry_s (ha : AbOK a) (hm : MS a w) {s t : Nat} (hs : s < 4) (ht : t < 4) : ∃ x w1, fX9_carry (iv s) (iv t) w = some (x, w1) ∧ Kp mcar w w1 ∧ ((sm (aP a s) (aN a) ≠ sm (aP a t) (aN a) ∧ x = -9) ∨ (sm (aP a s) (aN a) = sm (aP a t) (aN a) ∧ ∃ Y : Int, x = iv Y ∧ OptM (aW a) (aH a) (fun v => aP a s v - aP a t v) Y)) := by
  have hN := aN_le ha
  have hN1 : 1 ≤ aN a := WH_pos ha.1.1 ha.1.2.2.1
  have hh : ∀ {s : Nat}, s < 4 → ∀ c, c < aN a → 0 ≤ aP a s c ∧ aP a s c ≤ 4 := fun hs c hc => ha.2.1 _ hs c hc
  have b1 := sm_bound (f := aP a s) (lo := 0) (hi := 4) (n := aN a) (hh hs)
  have b2 := sm_bound (f := aP a t) (lo := 0) (hi := 4) (n := aN a) (hh ht)
  unfold fX9_carry
  rw [isSlot_g hs, bnd_s, if_neg (by decide), isSlot_g ht, bnd_s, if_neg (by decide), cubesOf_s hm.1 hs (hm.slot ha hs), bnd_s, cubesOf_s hm.1 ht (hm.slot ha ht), bnd_s]
  by_cases z : sm (aP a s) (aN a) = sm (aP a t) (aN a)
  · rw [if_pos (by show iv (sm (aP a s) (aN a)) = iv (sm (aP a t) (aN a)); rw [z])]
    -- spare and lack
    refine lpA (m := 25) (fun r => ∃ x w1, r = some (x, w1) ∧ Kp mcar w w1 ∧ ((sm (aP a s) (aN a) ≠ sm (aP a t) (aN a) ∧ x = -9) ∨ (sm (aP a s) (aN a) = sm (aP a t) (aN a) ∧ ∃ Y : Int, x = iv Y ∧ OptM (aW a) (aH a) (fun v => aP a s v - aP a t v) Y))) (fun i w2 => (∀ c, c < i → c < aN a → w2.1 115 c = iv (max 0 (aP a s c - aP a t c)) ∧ w2.1 116 c = iv (max 0 (-(aP a s c - aP a t c)))) ∧ Kp mcar w w2) ?_ ?_ (hGn (by omega)) ⟨fun c h => by omega, Kp.rf⟩
    · rintro i w2 k hi ⟨c1, c2⟩
      left
      have hm2 : MS a w2 := hm.kept (c2.weak fun k z => by unfold stM at z; unfold mcar; omega)
      have two : ∀ z : Int, -4 ≤ z → z ≤ 4 → (i < aN a → z = aP a s i - aP a t i) → ∃ w', jX9_carry_75 (iv s) (iv t) k (iv i) (iv z) w2 = k (iv ((i + 1 : Nat) : Int)) w' ∧ (∀ c, c < i + 1 → c < aN a → w'.1 115 c = iv (max 0 (aP a s c - aP a t c)) ∧ w'.1 116 c = iv (max 0 (-(aP a s c - aP a t c)))) ∧ Kp mcar w w' := by
        intro z z1 z2 z3
        have fin : ∀ x y : Int, x = max 0 z → y = max 0 (-z) → ∃ w', k (iv ((i + 1 : Nat) : Int)) (uI (uI w2 115 i (iv x)) 116 i (iv y)) = k (iv ((i + 1 : Nat) : Int)) w' ∧ (∀ c, c < i + 1 → c < aN a → w'.1 115 c = iv (max 0 (aP a s c - aP a t c)) ∧ w'.1 116 c = iv (max 0 (-(aP a s c - aP a t c)))) ∧ Kp mcar w w' := fun x y hx hy => by
          refine ⟨_, rfl, fun c hc hcN => ?_, c2.trans ((Kp.uI (fun z => by unfold mcar at z; omega)).trans (Kp.uI (fun z => by unfold mcar at z; omega)))⟩
          by_cases u : c = i
          · subst u
            rw [uI_row (by omega), uI_same, uI_same, hx, hy, z3 hcN]
            exact ⟨rfl, rfl⟩
          · rw [uI_row (by omega), uI_other (Or.inr u), uI_other (Or.inr u), uI_row (by omega)]; exact c1 c (by omega) hcN
        unfold jX9_carry_75 jX9_carry_93 jX9_carry_111
        by_cases y : z ≤ 0
        · rw [if_pos (by rw [iv_0, iv_le (by omega) (by omega)]; exact y), iv_0, sI_iv (by rw [LI_115]; omega) (by rw [LI_115]; omega), bind_s]
          by_cases y2 : 0 ≤ z
          · rw [if_pos (by rw [iv_le (by omega) (by omega)]; exact y2), sI_iv (by rw [LI_116]; omega) (by rw [LI_116]; omega), bind_s, iv_s1]
            exact fin 0 0 (by omega) (by omega)
          · rw [if_neg (by rw [iv_le (by omega) (by omega)]; exact y2), iv_neg, sI_iv (by rw [LI_116]; omega) (by rw [LI_116]; omega), bind_s, iv_s1]
            exact fin 0 (-z) (by omega) (by omega)
        · rw [if_neg (by rw [iv_0, iv_le (by omega) (by omega)]; exact y), sI_iv (by rw [LI_115]; omega) (by rw [LI_115]; omega), bind_s, if_pos (by rw [iv_0, iv_le (by omega) (by omega)]; omega), iv_0, sI_iv (by rw [LI_116]; omega) (by rw [LI_116]; omega), bind_s, iv_s1]
          exact fin z 0 (by omega) (by omega)
      unfold bX9_carry_34
      rw [if_neg (by rw [iv_25, iv_le (by omega) (by omega)]; omega), mcells_a hm2, bnd_s]
      by_cases y : i < aN a
      · have e1 := hm2.slot ha hs i y
        have e2 := hm2.slot ha ht i y
        have e3 := e1.2
        have e4 := e2.2
        unfold Hgt at e3 e4
        rw [if_neg (iv_Nle (by omega) y), iv_25sc, gI_iv (by rw [LI_100]; omega) (by rw [LI_100]; omega), bind_s, iv_25sc, gI_iv (by rw [LI_100]; omega) (by rw [LI_100]; omega), bind_s, e1.1, e2.1, iv_sub]
        exact two _ (by omega) (by omega) (fun _ => rfl)
      · rw [if_pos (by rw [iv_le (by omega) (by omega)]; omega), iv_0]
        exact two 0 (by omega) (by omega) (fun u => absurd u y)
    · rintro w2 k ⟨c1, c2⟩
      unfold bX9_carry_34
      rw [if_pos (by decide)]
      -- nothing is carried yet
      refine lpA (m := 625) (fun r => ∃ x w1, r = some (x, w1) ∧ Kp mcar w w1 ∧ ((sm (aP a s) (aN a) ≠ sm (aP a t) (aN a) ∧ x = -9) ∨ (sm (aP a s) (aN a) = sm (aP a t) (aN a) ∧ ∃ Y : Int, x = iv Y ∧ OptM (aW a) (aH a) (fun v => aP a s v - aP a t v) Y))) (fun i w3 => (∀ j, j < i → w3.1 117 j = 0) ∧ Kp (fun k => k ≠ 117) w2 w3) ?_ ?_ (hGn (by omega)) ⟨fun c h => by omega, Kp.rf⟩
      · rintro i w3 k3 hi ⟨d1, d2⟩
        left
        unfold bX9_carry_120
        rw [if_neg (by rw [iv_625, iv_le (by omega) (by omega)]; omega), sI_iv (by rw [LI_117]; omega) (by rw [LI_117]; omega), bind_s, iv_s1]
        refine ⟨_, rfl, fun j hj => ?_, d2.trans (Kp.uI (fun z => z rfl))⟩
        by_cases u : j = i
        · rw [u, uI_same]
        · rw [uI_other (Or.inr u)]; exact d1 j (by omega)
      · rintro w3 k3 ⟨d1, d2⟩
        have k3 : Kp mcar w w3 := c2.trans (d2.weak fun k z => by unfold mcar at z; omega)
        have hm3 : MS a w3 := hm.kept (k3.weak fun k z => by unfold stM at z; unfold mcar; omega)
        unfold bX9_carry_120
        rw [if_pos (by decide)]
        have fz : ∀ (M : Nat) (e : Nat → Nat) v, flw M e (fun _ => 0) v = 0 := fun M e v => by
          have : flw M e (fun _ => 0) v = sm (fun _ => 0) M := sm_congr (fun j _ => Int.zero_mul _)
          rw [this, sm_zero]
        have cz : ∀ M, cw M (aW a) (fun _ => 0) = 0 := fun M => by
          have : cw M (aW a) (fun _ => 0) = sm (fun _ => 0) M := sm_congr (fun j _ => Int.zero_mul _)
          rw [this, sm_zero]
        have lb : sm (fun v => max 0 (-(aP a s v - aP a t v))) (aN a) ≤ 100 := by
          have := sm_bound (f := fun v => max 0 (-(aP a s v - aP a t v))) (lo := 0) (hi := 4) (n := aN a) (fun v hv => by have := hh hs v hv; have := hh ht v hv; show 0 ≤ max 0 (-(aP a s v - aP a t v)) ∧ max 0 (-(aP a s v - aP a t v)) ≤ 4; omega)
          omega
        have hC : CMI (aW a) (aH a) (fun v => aP a s v - aP a t v) (fun _ => 0) (fun v => max 0 (aP a s v - aP a t v)) (fun v => max 0 (-(aP a s v - aP a t v))) (fun _ => 0) (fun _ => 0) w3 := by
          refine ⟨fun j hj => ⟨d1 j hj, Int.le_refl 0, by show (0 : Int) + sm (fun v => max 0 (-(aP a s v - aP a t v))) (aN a) ≤ 100; omega, fun u => absurd rfl u⟩, fun c hc => ?_, fun c hc => ?_, fun c hc => ?_, fun _ => by show (-100 : Int) ≤ 0 ∧ (0 : Int) ≤ 100; decide, fun _ => by show (-100 : Int) ≤ 0 ∧ (0 : Int) ≤ 100; decide, fun c d _ _ => by show (0 : Int) ≤ 0 + dM (aW a) c d; have := dM_nn (aW a) c d; omega, fun c d _ _ u => by have u : (0 : Int) < 0 := u; omega⟩
          · have := hh hs c hc
            have := hh ht c hc
            rw [(d2 115 (by omega)).1]
            exact ⟨(c1 c (Nat.lt_of_lt_of_le hc hN) hc).1, by show 0 ≤ max 0 (aP a s c - aP a t c); omega, by show max 0 (aP a s c - aP a t c) ≤ 4; omega⟩
          · have := hh hs c hc
            have := hh ht c hc
            rw [(d2 116 (by omega)).1]
            exact ⟨(c1 c (Nat.lt_of_lt_of_le hc hN) hc).2, by show 0 ≤ max 0 (-(aP a s c - aP a t c)); omega, by show max 0 (-(aP a s c - aP a t c)) ≤ 4; omega⟩
          · rw [fz, fz]
            exact ⟨Int.zero_add _, Int.zero_add _⟩
        obtain ⟨Y, w4, f1, f2, f3⟩ := mcarry_lp hm3.1 (by rw [sm_sub]; show sm (aP a s) (aN a) - sm (aP a t) (aN a) = 0; omega) hC (cz _) (iv s) (iv t)
        exact ⟨iv Y, w4, f1, k3.trans f2, Or.inr ⟨z, Y, rfl, f3⟩⟩
  · rw [if_neg (by show ¬ iv (sm (aP a s) (aN a)) = iv (sm (aP a t) (aN a)); rw [iv_eq (by omega) (by omega)]; exact z)]
    exact ⟨_, w, rfl, Kp.rf, Or.inl ⟨z, rfl⟩⟩
end MCARRY2
section STEPS
variable {FT : Tl → Wd → Prop} {t : Nat} {w : Wd}
theorem g28 (hF : FTk FT) (hg : Good FT t w) (p q d : Int32) : ∃ w', st28 p q d w = some w' ∧ Good FT (t + 1) w' := by
  obtain ⟨a, ha, hc, hm, hv⟩ := hg
  unfold st28
  rcases rng 4 p with ⟨s, hs, rfl⟩ | hb
  · rcases rng 4 q with ⟨u, hu, rfl⟩ | hb2
    · obtain ⟨x, w1, a1, a2, a3⟩ := leastSteps_s hc.1 (p1 := 6 + s) (p2 := 6 + u) (by omega) (by omega) (LI_slot hs) (LI_slot hu) (f := aP a s) (g := aP a u) (fun c hcc => ⟨(hc.slot ha hs c hcc).1, (hc.slot ha hs c hcc).2⟩) (fun c hcc => ⟨(hc.slot ha hu c hcc).1, (hc.slot ha hu c hcc).2⟩)
      refine comb hF (v := x) (a1 := a) ha hm ⟨w1, ?_, hc.kept (a2.weak fun k z => by unfold stC at z; unfold rcar; omega), hv.kept hF (a2.weak fun k z => by unfold rcar; omega) rfl, a2.weak fun k z => by unfold mR at z; unfold rcar; omega⟩ (fun w2 hm2 => ?_)
      · unfold fX8_carry
        rw [noSlot_g hs, bnd_s, if_pos rfl, noSlot_g hu, bnd_s, if_pos rfl, ixA_iv hs (by omega), bind_s, ixA_iv hu (by omega), bind_s, a1, bnd_s]
      · obtain ⟨y, w3, b1, b2, b3⟩ := mcarry_s ha hm2 hs hu
        refine ⟨w3, ?_, hm2.kept (b2.weak fun k z => by unfold stM at z; unfold mcar; omega), b2.weak fun k z => by unfold cR at z; unfold mcar; omega⟩
        have : y = x := by
          rcases a3 with ⟨e1, rfl⟩ | ⟨e1, X, rfl, e2⟩
          · rcases b3 with ⟨e3, rfl⟩ | ⟨e3, _⟩
            · rfl
            · exact absurd e3 e1
          · rcases b3 with ⟨e3, _⟩ | ⟨e3, Y, rfl, e4⟩
            · exact absurd e1 e3
            · rw [opt_eq ha.1.1 ha.1.2.1 ha.1.2.2.1 ha.1.2.2.2 e2 e4]
        rw [b1, this]
    · refine comb0 hF (v := -1) ha hc hm hv ?_ ?_
      · unfold fX8_carry
        rw [noSlot_g hs, bnd_s, if_pos rfl, noSlot_b hb2, bnd_s, if_neg (by decide)]
      · unfold fX9_carry
        rw [isSlot_g hs, bnd_s, if_neg (by decide), isSlot_b hb2, bnd_s, if_pos rfl]
  · refine comb0 hF (v := -1) ha hc hm hv ?_ ?_
    · unfold fX8_carry
      rw [noSlot_b hb, bnd_s, if_neg (by decide)]
    · unfold fX9_carry
      rw [isSlot_b hb, bnd_s, if_pos rfl]
end STEPS
