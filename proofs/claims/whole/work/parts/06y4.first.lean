/-! ===== sums, the class: the first heap that is made ===== -/
def lo0 (T : Nat → Int) (c : Nat) : Int := if T c = 1 then 1 else 0
def hi0 (T : Nat → Int) (c : Nat) : Int := if T c = 0 then 0 else 4
theorem BL0 (T : Nat → Int) (N : Nat) : BL N (lo0 T) (hi0 T) := fun c _ => by
  unfold lo0 hi0
  constructor
  · split <;> omega
  · split <;> omega
theorem lohi0 {T : Nat → Int} (c : Nat) : 0 ≤ lo0 T c ∧ lo0 T c ≤ 1 ∧ lo0 T c ≤ hi0 T c ∧ hi0 T c ≤ 4 := by
  unfold lo0 hi0
  by_cases h : T c = 1
  · rw [if_pos h, if_neg (by omega)]; omega
  · rw [if_neg h]; split <;> omega
def rsum (k : Nat) : Prop := k < 83 ∨ 89 < k
section CSUM4
variable {a : Ab} {w : Wd}
theorem CS.rs {w1 : Wd} (hc : CS a w) (hk : Kp rsum w w1) : CS a w1 := hc.kept (hk.weak fun k z => by unfold stC at z; unfold rsum; omega)
theorem startLow_s (ha : AbOK a) (hc : CS a w) : ∃ w1, fX4_startLow w = some ((), w1) ∧ S3 (aW a) (aH a) (lo0 (aT a)) (hi0 (aT a)) (lo0 (aT a)) w1 ∧ Kp rsum w w1 := by
  have hN := aN_le ha
  unfold fX4_startLow
  refine lpA (m := aN a) (fun r => ∃ w1, r = some ((), w1) ∧ S3 (aW a) (aH a) (lo0 (aT a)) (hi0 (aT a)) (lo0 (aT a)) w1 ∧ Kp rsum w w1) (fun i w' => (∀ c, c < i → w'.1 83 c = iv (lo0 (aT a) c) ∧ w'.1 84 c = iv (lo0 (aT a) c) ∧ w'.1 85 c = iv (hi0 (aT a) c)) ∧ Kp rsum w w') ?_ ?_ (hGn (by omega)) ⟨fun c hc => by omega, Kp.rf⟩
  · rintro i w' k hi ⟨h1, h2⟩
    left
    have hc' := hc.rs h2
    have hT := ha.2.2.2.2.1 i hi
    unfold bX4_startLow_2 jX4_startLow_35 jX4_startLow_57
    rw [cells_s hc'.1.1, bnd_s, if_neg (iv_Nle (by omega) hi), top_s ha hc' hi, bnd_s]
    have go : ∀ x y : Int, lo0 (aT a) i = x → hi0 (aT a) i = y → ∃ w'', ((sI (uI w' 84 i (iv x)) 85 (iv i) (iv y)).bind fun w8 => (gI w8 84 (iv i)).bind fun x9 => (sI w8 83 (iv i) x9).bind fun w10 => k (iv i + (1 : Int32)) w10) = k (iv ((i + 1 : Nat) : Int)) w'' ∧ (∀ c, c < i + 1 → w''.1 83 c = iv (lo0 (aT a) c) ∧ w''.1 84 c = iv (lo0 (aT a) c) ∧ w''.1 85 c = iv (hi0 (aT a) c)) ∧ Kp rsum w w'' := by
      intro x y hx hy
      refine ⟨uI (uI (uI w' 84 i (iv x)) 85 i (iv y)) 83 i (iv x), ?_, fun c hcc => ?_, h2.trans ((Kp.uI (fun z => by unfold rsum at z; omega)).trans ((Kp.uI (fun z => by unfold rsum at z; omega)).trans (Kp.uI (fun z => by unfold rsum at z; omega))))⟩
      · rw [sI_iv (by rw [LI_85]; omega) (by rw [LI_85]; omega), bind_s, gI_iv (by rw [LI_84]; omega) (by rw [LI_84]; omega), bind_s, sI_iv (by rw [LI_83]; omega) (by rw [LI_83]; omega), bind_s, iv_s1, uI_row (by omega), uI_same]
      · by_cases z : c = i
        · subst z
          refine ⟨?_, ?_, ?_⟩
          · rw [uI_same, hx]
          · rw [uI_row (by omega), uI_row (by omega), uI_same, hx]
          · rw [uI_row (by omega), uI_same, hy]
        · have := h1 c (by omega)
          refine ⟨?_, ?_, ?_⟩
          · rw [uI_other (Or.inr z), uI_row (by omega), uI_row (by omega)]; exact this.1
          · rw [uI_row (by omega), uI_row (by omega), uI_other (Or.inr z)]; exact this.2.1
          · rw [uI_row (by omega), uI_other (Or.inr z), uI_row (by omega)]; exact this.2.2
    have tp2 : ∀ {w2 : Wd}, Kp rsum w' w2 → fX5_top (iv i) w2 = some (iv (aT a i), w2) := fun hk => top_s ha (hc'.rs hk) hi
    have k84 : ∀ {x : Int32}, Kp rsum w' (uI w' 84 i x) := fun {x} => Kp.uI (fun z => by unfold rsum at z; omega)
    unfold lo0 hi0 at go
    rcases hT with hT | hT | hT
    · rw [if_neg (by rw [hT]; decide), iv_0, sI_iv (by rw [LI_84]; omega) (by rw [LI_84]; omega), bind_s, tp2 k84, bnd_s, if_neg (by rw [hT]; decide), iv_4]
      exact go 0 4 (if_neg (by omega)) (if_neg (by omega))
    · rw [if_neg (by rw [hT]; decide), iv_0, sI_iv (by rw [LI_84]; omega) (by rw [LI_84]; omega), bind_s, tp2 k84, bnd_s, if_pos (by rw [hT])]
      exact go 0 0 (if_neg (by omega)) (if_pos hT)
    · rw [if_pos (by rw [hT]; decide), iv_1, sI_iv (by rw [LI_84]; omega) (by rw [LI_84]; omega), bind_s, tp2 k84, bnd_s, if_neg (by rw [hT]; decide), iv_4, ← iv_1]
      rw [iv_1]
      exact go 1 4 (if_pos hT) (if_neg (by omega))
  · rintro w' k ⟨h1, h2⟩
    have hc' := hc.rs h2
    unfold bX4_startLow_2
    rw [cells_s hc'.1.1, bnd_s, if_pos iv_Nle']
    exact ⟨w', rfl, h1, h2⟩
theorem missR {f : Nat → Int} (ha : AbOK a) (hc : CS a w) (hf : ∀ c, c < aN a → w.1 83 c = iv (f c) ∧ 0 ≤ f c ∧ f c ≤ 4) {y : Nat} (hy : y < aH a) : fX4_missing (0 : Int32) (iv y) w = some (iv (aR a y - lS (aW a) (eR (aW a)) f y), w) := by
  have hN := aN_le ha
  have h5 := ha.1.2.2.2
  unfold fX4_missing fX3_ofS
  rw [if_pos rfl, gI_iv (by rw [LI_82]; omega) (by rw [LI_82]; omega), bind_s, bnd_s, lineTotal_s hc.1.1 (by rw [LI_83]; exact hN) (by rw [LI_83]; omega) (col := 0) (by exact hy), bnd_s, hc.2.2.2.2.2.2.1 y hy, iv_sub]
  have : sm (fun i => (w.1 83 (onL (aW a) 0 y i)).toInt) (lL (aW a) (aH a) 0) = lS (aW a) (eR (aW a)) f y := sm_congr (fun i hi => by
    have hlt : onL (aW a) 0 y i < aN a := onL_lt (H := aH a) (col := 0) hy hi
    have := hf _ hlt
    rw [this.1, toInt_iv (by omega) (by omega)]; rfl)
  rw [this]
theorem missC {f : Nat → Int} (ha : AbOK a) (hc : CS a w) (hf : ∀ c, c < aN a → w.1 83 c = iv (f c) ∧ 0 ≤ f c ∧ f c ≤ 4) {x : Nat} (hx : x < aW a) : fX4_missing (1 : Int32) (iv x) w = some (iv (aC a x - hS (aH a) (eR (aW a)) f x), w) := by
  have hN := aN_le ha
  have h5 := ha.1.2.1
  unfold fX4_missing fX3_ofS
  rw [if_neg (by decide), gI_iv (by rw [LI_81]; omega) (by rw [LI_81]; omega), bind_s, bnd_s, lineTotal_s hc.1.1 (by rw [LI_83]; exact hN) (by rw [LI_83]; omega) (col := 1) (by exact hx), bnd_s, hc.2.2.2.2.2.1 x hx, iv_sub]
  have : sm (fun i => (w.1 83 (onL (aW a) 1 x i)).toInt) (lL (aW a) (aH a) 1) = hS (aH a) (eR (aW a)) f x := sm_congr (fun i hi => by
    have hlt : onL (aW a) 1 x i < aN a := onL_lt (H := aH a) (col := 1) hx hi
    have := hf _ hlt
    rw [this.1, toInt_iv (by omega) (by omega)]; rfl)
  rw [this]
theorem line_bd {P Q N : Nat} {e : Nat → Nat → Nat} (hE : EOK P Q N e) {f : Nat → Int} (hf : ∀ c, c < N → 0 ≤ f c ∧ f c ≤ 4) : (∀ i, i < P → 0 ≤ lS Q e f i ∧ lS Q e f i ≤ 20) ∧ (∀ j, j < Q → 0 ≤ hS P e f j ∧ hS P e f j ≤ 20) := by
  have hP := hE.1
  have hQ := hE.2.1
  refine ⟨fun i hi => ?_, fun j hj => ?_⟩
  · have := sm_bound (f := fun j => f (e i j)) (lo := 0) (hi := 4) (n := Q) (fun j hj => hf _ (hE.2.2.1 i j hi hj))
    unfold lS; omega
  · have := sm_bound (f := fun i => f (e i j)) (lo := 0) (hi := 4) (n := P) (fun i hi => hf _ (hE.2.2.1 i j hi hj))
    unfold hS; omega
/-- what is open: the columns -/
def opC (W H : Nat) (C f : Nat → Int) (n : Nat) : Int := if 5 ≤ n ∧ n < 5 + W then C (n - 5) - hS H (eR W) f (n - 5) else 0
theorem openColumns_s {f lo hi : Nat → Int} (ha : AbOK a) (hc : CS a w) (hs : S3 (aW a) (aH a) lo hi f w) (hf : ∀ c, c < aN a → 0 ≤ f c ∧ f c ≤ 4) (hfl : ∀ c, c < aN a → f c = lo c) : ∃ x w1, fX4_openColumns w = some (x, w1) ∧ Kp (fun k => k ≠ 86) w w1 ∧ ((x = 0 ∧ ¬ ∃ g, Fs (aW a) (aH a) (aC a) (aR a) lo hi g) ∨ (x = 1 ∧ (∀ y, y < aH a → lS (aW a) (eR (aW a)) f y ≤ aR a y) ∧ (∀ x, x < aW a → hS (aH a) (eR (aW a)) f x ≤ aC a x) ∧ sm (aR a) (aH a) = sm (aC a) (aW a) ∧ (∀ n, n < 10 → w1.1 86 n = iv (opC (aW a) (aH a) (aC a) f n)))) := by
  have hN := aN_le ha
  have hE : EOK (aH a) (aW a) (aN a) (eR (aW a)) := eR_ok ha.1.1 ha.1.2.1 ha.1.2.2.2
  have hW5 := ha.1.2.1
  have hH5 := ha.1.2.2.2
  obtain ⟨lb, hb⟩ := line_bd hE hf
  have hR := ha.2.2.2.2.2.2
  have hC := ha.2.2.2.2.2.1
  unfold Sum at hR hC
  obtain ⟨wa, a1, a2, a3⟩ := fill_s (k := 86) (by rw [LI_86]; omega) (by rw [LI_86]; omega) 0 w
  have noR : ∀ y, y < aH a → aR a y < lS (aW a) (eR (aW a)) f y → ¬ ∃ g, Fs (aW a) (aH a) (aC a) (aR a) lo hi g := by
    rintro y hy hlt ⟨g, hg⟩
    have h1 : lS (aW a) (eR (aW a)) f y ≤ lS (aW a) (eR (aW a)) g y := sm_mono0 (fun j hj => by
      have := hE.2.2.1 y j hy hj
      rw [hfl _ this]; exact (hg.1 _ this).1)
    rw [hg.2.1 y hy] at h1
    omega
  have noC : ∀ x, x < aW a → aC a x < hS (aH a) (eR (aW a)) f x → ¬ ∃ g, Fs (aW a) (aH a) (aC a) (aR a) lo hi g := by
    rintro x hx hlt ⟨g, hg⟩
    have h1 : hS (aH a) (eR (aW a)) f x ≤ hS (aH a) (eR (aW a)) g x := sm_mono0 (fun j hj => by
      have := hE.2.2.1 j x hj hx
      rw [hfl _ this]; exact (hg.1 _ this).1)
    rw [hg.2.2 x hx] at h1
    omega
  have noS : sm (aR a) (aH a) ≠ sm (aC a) (aW a) → ¬ ∃ g, Fs (aW a) (aH a) (aC a) (aR a) lo hi g := by
    rintro hne ⟨g, hg⟩
    apply hne
    rw [← sm_congr hg.2.1, ← sm_congr hg.2.2]
    exact lh_all g
  unfold fX4_openColumns
  rw [a1, bnd_s]
  have dR : ∀ n, n ≤ aH a → -100 ≤ sm (fun y => aR a y - lS (aW a) (eR (aW a)) f y) n ∧ sm (fun y => aR a y - lS (aW a) (eR (aW a)) f y) n ≤ 100 := fun n hn => by
    have := sm_bound (f := fun y => aR a y - lS (aW a) (eR (aW a)) f y) (lo := -20) (hi := 20) (n := n) (fun y hy => by have := hR y (by omega); have := lb y (by omega); omega)
    omega
  have dC : ∀ n, n ≤ aW a → -100 ≤ sm (fun y => aC a y - hS (aH a) (eR (aW a)) f y) n ∧ sm (fun y => aC a y - hS (aH a) (eR (aW a)) f y) n ≤ 100 := fun n hn => by
    have := sm_bound (f := fun y => aC a y - hS (aH a) (eR (aW a)) f y) (lo := -20) (hi := 20) (n := n) (fun y hy => by have := hC y (by omega); have := hb y (by omega); omega)
    omega
  refine lpB (m := aH a) (fun r => ∃ x w1, r = some (x, w1) ∧ Kp (fun k => k ≠ 86) w w1 ∧ ((x = 0 ∧ ¬ ∃ g, Fs (aW a) (aH a) (aC a) (aR a) lo hi g) ∨ (x = 1 ∧ (∀ y, y < aH a → lS (aW a) (eR (aW a)) f y ≤ aR a y) ∧ (∀ x, x < aW a → hS (aH a) (eR (aW a)) f x ≤ aC a x) ∧ sm (aR a) (aH a) = sm (aC a) (aW a) ∧ (∀ n, n < 10 → w1.1 86 n = iv (opC (aW a) (aH a) (aC a) f n))))) (fun i x w' => w' = wa ∧ x = iv (sm (fun y => aR a y - lS (aW a) (eR (aW a)) f y) i) ∧ (∀ y, y < i → lS (aW a) (eR (aW a)) f y ≤ aR a y)) ?_ ?_ (hGn (by omega)) ⟨rfl, rfl, fun y hy => by omega⟩
  · rintro i x w' k hi' ⟨rfl, rfl, h1⟩
    have hc' : CS a w' := hc.kept (a3.weak fun k z => by unfold stC at z; omega)
    have hm := missR ha hc' (f := f) (fun c hcc => ⟨by rw [(a3 83 (by omega)).1]; exact (hs c hcc).1, hf c hcc⟩) hi'
    have := hR i hi'
    have := lb i hi'
    have := dR i (by omega)
    unfold bX4_openColumns_12
    rw [lines_s hc'.1.1, bnd_s, show nL (aW a) (aH a) 0 = aH a from rfl, if_neg (iv_Nle (by omega) hi'), hm, bnd_s]
    by_cases z : lS (aW a) (eR (aW a)) f i ≤ aR a i
    · left
      rw [if_pos (by rw [iv_0, iv_le (by omega) (by omega)]; omega), hm, bnd_s, iv_add, iv_s1]
      refine ⟨_, w', rfl, rfl, rfl, fun y hy => ?_⟩
      by_cases q : y = i
      · subst q; exact z
      · exact h1 y (by omega)
    · right
      rw [if_neg (by rw [iv_0, iv_le (by omega) (by omega)]; omega)]
      exact ⟨0, w', zr_0, a3, Or.inl ⟨rfl, noR i hi' (by omega)⟩⟩
  · rintro x w' k ⟨rfl, rfl, h1⟩
    have hc' : CS a w' := hc.kept (a3.weak fun k z => by unfold stC at z; omega)
    have hdr := dR (aH a) (by omega)
    unfold bX4_openColumns_12
    rw [lines_s hc'.1.1, bnd_s, show nL (aW a) (aH a) 0 = aH a from rfl, if_pos iv_Nle']
    refine lpB (m := aW a) (fun r => ∃ x w1, r = some (x, w1) ∧ Kp (fun k => k ≠ 86) w w1 ∧ ((x = 0 ∧ ¬ ∃ g, Fs (aW a) (aH a) (aC a) (aR a) lo hi g) ∨ (x = 1 ∧ (∀ y, y < aH a → lS (aW a) (eR (aW a)) f y ≤ aR a y) ∧ (∀ x, x < aW a → hS (aH a) (eR (aW a)) f x ≤ aC a x) ∧ sm (aR a) (aH a) = sm (aC a) (aW a) ∧ (∀ n, n < 10 → w1.1 86 n = iv (opC (aW a) (aH a) (aC a) f n))))) (fun i x w2 => Kp (fun k => k ≠ 86) w w2 ∧ x = iv (sm (fun y => aR a y - lS (aW a) (eR (aW a)) f y) (aH a) - sm (fun y => aC a y - hS (aH a) (eR (aW a)) f y) i) ∧ (∀ y, y < i → hS (aH a) (eR (aW a)) f y ≤ aC a y) ∧ (∀ n, n < 10 → w2.1 86 n = iv (if 5 ≤ n ∧ n < 5 + i then aC a (n - 5) - hS (aH a) (eR (aW a)) f (n - 5) else 0))) ?_ ?_ (hGn (by omega)) ⟨a3, by rw [show sm (fun y => aC a y - hS (aH a) (eR (aW a)) f y) 0 = 0 from rfl, Int.sub_zero], fun y hy => by omega, fun n hn => by rw [if_neg (by omega)]; exact a2 n (by rw [LI_86]; exact hn)⟩
    · rintro i x w2 k2 hi' ⟨b1, rfl, b2, b3⟩
      have hc2 : CS a w2 := hc.kept (b1.weak fun k z => by unfold stC at z; omega)
      have hm := missC ha hc2 (f := f) (fun c hcc => ⟨by rw [(b1 83 (by omega)).1]; exact (hs c hcc).1, hf c hcc⟩) hi'
      have := hC i hi'
      have := hb i hi'
      have := dC i (by omega)
      unfold bX4_openColumns_52
      rw [lines_s hc2.1.1, bnd_s, show nL (aW a) (aH a) 1 = aW a from rfl, if_neg (iv_Nle (by omega) hi'), hm, bnd_s]
      by_cases z : hS (aH a) (eR (aW a)) f i ≤ aC a i
      · left
        have b1' : Kp (fun k => k ≠ 86) w (uI w2 86 (5 + i) (iv (aC a i - hS (aH a) (eR (aW a)) f i))) := b1.trans (Kp.uI (fun z => z rfl))
        have hc3 : CS a (uI w2 86 (5 + i) (iv (aC a i - hS (aH a) (eR (aW a)) f i))) := hc.kept (b1'.weak fun k z => by unfold stC at z; omega)
        have hm3 := missC ha hc3 (f := f) (fun c hcc => ⟨by rw [(b1' 83 (by omega)).1]; exact (hs c hcc).1, hf c hcc⟩) hi'
        rw [if_pos (by rw [iv_0, iv_le (by omega) (by omega)]; omega), hm, bnd_s, iv_5, show (5 : Int) = ((5 : Nat) : Int) from rfl, iv_addN, sI_iv (by rw [LI_86]; omega) (by rw [LI_86]; omega), bind_s, hm3, bnd_s, iv_sub, iv_s1]
        refine ⟨_, _, rfl, b1', by rw [sm_s]; congr 1; omega, fun y hy => ?_, fun n hn => ?_⟩
        · by_cases q : y = i
          · subst q; exact z
          · exact b2 y (by omega)
        · by_cases q : n = 5 + i
          · subst q
            rw [uI_same, if_pos (by omega), show 5 + i - 5 = i by omega]
          · rw [uI_other (Or.inr q), b3 n hn]
            by_cases q2 : 5 ≤ n ∧ n < 5 + i
            · rw [if_pos q2, if_pos (by omega)]
            · rw [if_neg q2, if_neg (by omega)]
      · right
        rw [if_neg (by rw [iv_0, iv_le (by omega) (by omega)]; omega)]
        exact ⟨0, w2, zr_0, b1, Or.inl ⟨rfl, noC i hi' (by omega)⟩⟩
    · rintro x w2 k2 ⟨b1, rfl, b2, b3⟩
      have hc2 : CS a w2 := hc.kept (b1.weak fun k z => by unfold stC at z; omega)
      have hdc := dC (aW a) (by omega)
      have hall := lh_all (P := aH a) (Q := aW a) (e := eR (aW a)) f
      rw [sm_sub (aR a), sm_sub (aC a)] at *
      unfold bX4_openColumns_52
      rw [lines_s hc2.1.1, bnd_s, show nL (aW a) (aH a) 1 = aW a from rfl, if_pos iv_Nle']
      by_cases z : sm (aR a) (aH a) = sm (aC a) (aW a)
      · rw [if_pos (by rw [iv_0, iv_eq (by omega) (by omega)]; omega)]
        exact ⟨1, w2, zr_1, b1, Or.inr ⟨rfl, h1, b2, z, b3⟩⟩
      · rw [if_neg (by rw [iv_0, iv_eq (by omega) (by omega)]; omega)]
        exact ⟨0, w2, zr_0, b1, Or.inl ⟨rfl, noS z⟩⟩
end CSUM4
