/-! ===== sums, the class: its three answers ===== -/
theorem SA.op {W H : Nat} {lo hi f op op' : Nat → Int} {w : Wd} (h : SA W H lo hi f op w) (he : ∀ n, n < 10 → op n = op' n) : SA W H lo hi f op' w := ⟨h.1, fun n hn => by rw [← he n hn]; exact h.2 n hn⟩
section CSUM5
variable {a : Ab} {w : Wd}
theorem makeOne_s (ha : AbOK a) (hc : CS a w) : ∃ w1, Kp rsum w w1 ∧ ((fX4_makeOne w = some (0, w1) ∧ ¬ ∃ g, Fs (aW a) (aH a) (aC a) (aR a) (lo0 (aT a)) (hi0 (aT a)) g) ∨ (∃ f, fX4_makeOne w = some (1, w1) ∧ S3 (aW a) (aH a) (lo0 (aT a)) (hi0 (aT a)) f w1 ∧ Fs (aW a) (aH a) (aC a) (aR a) (lo0 (aT a)) (hi0 (aT a)) f)) := by
  have hN := aN_le ha
  have hE : EOK (aH a) (aW a) (aN a) (eR (aW a)) := eR_ok ha.1.1 ha.1.2.1 ha.1.2.2.2
  have hW1 := ha.1.1
  have hW5 := ha.1.2.1
  have hH5 := ha.1.2.2.2
  have hR := ha.2.2.2.2.2.2
  have hC := ha.2.2.2.2.2.1
  unfold Sum at hR hC
  obtain ⟨wa, a1, a2, a3⟩ := startLow_s ha hc
  have hca := hc.rs a3
  obtain ⟨x, wb, b1, b2, b3⟩ := openColumns_s ha hca a2 (fun c _ => by have := lohi0 (T := aT a) c; omega) (fun c _ => rfl)
  have kb : Kp rsum w wb := a3.trans (b2.weak fun k z => by unfold rsum at z; omega)
  unfold fX4_makeOne
  rw [a1, bnd_s, b1, bnd_s]
  rcases b3 with ⟨rfl, hno⟩ | ⟨rfl, c1, c2, c3, c4⟩
  · exact ⟨wb, kb, Or.inl ⟨by rw [if_pos rfl]; exact zr_0, hno⟩⟩
  · rw [if_neg (by decide)]
    have opb : ∀ (f : Nat → Int), (∀ c, c < aN a → 0 ≤ f c ∧ f c ≤ 4) → ∀ n, n < 10 → -1000 ≤ opC (aW a) (aH a) (aC a) f n ∧ opC (aW a) (aH a) (aC a) f n ≤ 1000 := fun f hf n hn => by
      have := (line_bd hE hf).2
      unfold opC
      by_cases z : 5 ≤ n ∧ n < 5 + aW a
      · rw [if_pos z]
        have := this (n - 5) (by omega)
        have := hC (n - 5) (by omega)
        omega
      · rw [if_neg z]; omega
    refine lpA (m := aH a) (fun r => ∃ w1, Kp rsum w w1 ∧ ((r = some (0, w1) ∧ ¬ ∃ g, Fs (aW a) (aH a) (aC a) (aR a) (lo0 (aT a)) (hi0 (aT a)) g) ∨ (∃ f, r = some (1, w1) ∧ S3 (aW a) (aH a) (lo0 (aT a)) (hi0 (aT a)) f w1 ∧ Fs (aW a) (aH a) (aC a) (aR a) (lo0 (aT a)) (hi0 (aT a)) f))) (fun r w' => ∃ f, SA (aW a) (aH a) (lo0 (aT a)) (hi0 (aT a)) f (opC (aW a) (aH a) (aC a) f) w' ∧ BH (aN a) (lo0 (aT a)) (hi0 (aT a)) f ∧ (∀ y, y < r → lS (aW a) (eR (aW a)) f y = aR a y) ∧ (∀ y, y < aH a → lS (aW a) (eR (aW a)) f y ≤ aR a y) ∧ (∀ x, x < aW a → hS (aH a) (eR (aW a)) f x ≤ aC a x) ∧ Kp rsum w w') ?_ ?_ (hGn (by omega)) ⟨lo0 (aT a), ⟨fun c hcc => by
      rw [(b2 83 (by omega)).1, (b2 84 (by omega)).1, (b2 85 (by omega)).1]; exact a2 c hcc, fun n hn => ⟨c4 n hn, opb _ (fun c _ => by have := lohi0 (T := aT a) c; omega) n hn⟩⟩, fun c _ => by have := lohi0 (T := aT a) c; omega, fun y hy => by omega, c1, c2, kb⟩
    · rintro r w' k hr ⟨f, d1, d2, d3, d4, d5, d6⟩
      have hc' := hc.rs d6
      have hf4 : ∀ {f : Nat → Int}, BH (aN a) (lo0 (aT a)) (hi0 (aT a)) f → ∀ c, c < aN a → 0 ≤ f c ∧ f c ≤ 4 := fun h c hcc => by have := h c hcc; omega
      have hm := missR ha hc' (f := f) (fun c hcc => ⟨(d1.1 c hcc).1, hf4 d2 c hcc⟩) hr
      have hl := (line_bd hE (hf4 d2)).1 r hr
      have hle := d4 r hr
      have hRr := hR r hr
      unfold bX4_makeOne_15
      rw [lines_s hc'.1.1, bnd_s, show nL (aW a) (aH a) 0 = aH a from rfl, if_neg (iv_Nle (by omega) hr), hm, bnd_s]
      obtain ⟨mm, hmm⟩ : ∃ mm : Nat, aR a r - lS (aW a) (eR (aW a)) f r = (mm : Int) := ⟨(aR a r - lS (aW a) (eR (aW a)) f r).toNat, by omega⟩
      rw [hmm]
      refine lpG (fun (F : Int32 → Int32 → Wd → Option (Int32 × Wd)) (s : Int32 × Wd) => F (iv r) s.1 s.2) (fun q => (∃ w', q = k (iv ((r + 1 : Nat) : Int)) w' ∧ ∃ f, SA (aW a) (aH a) (lo0 (aT a)) (hi0 (aT a)) f (opC (aW a) (aH a) (aC a) f) w' ∧ BH (aN a) (lo0 (aT a)) (hi0 (aT a)) f ∧ (∀ y, y < r + 1 → lS (aW a) (eR (aW a)) f y = aR a y) ∧ (∀ y, y < aH a → lS (aW a) (eR (aW a)) f y ≤ aR a y) ∧ (∀ x, x < aW a → hS (aH a) (eR (aW a)) f x ≤ aC a x) ∧ Kp rsum w w') ∨ (∃ w1, Kp rsum w w1 ∧ ((q = some (0, w1) ∧ ¬ ∃ g, Fs (aW a) (aH a) (aC a) (aR a) (lo0 (aT a)) (hi0 (aT a)) g) ∨ (∃ f, q = some (1, w1) ∧ S3 (aW a) (aH a) (lo0 (aT a)) (hi0 (aT a)) f w1 ∧ Fs (aW a) (aH a) (aC a) (aR a) (lo0 (aT a)) (hi0 (aT a)) f)))) (fun mm s => ∃ f, s.1 = iv (mm : Nat) ∧ SA (aW a) (aH a) (lo0 (aT a)) (hi0 (aT a)) f (opC (aW a) (aH a) (aC a) f) s.2 ∧ BH (aN a) (lo0 (aT a)) (hi0 (aT a)) f ∧ (∀ y, y < r → lS (aW a) (eR (aW a)) f y = aR a y) ∧ (∀ y, y < aH a → lS (aW a) (eR (aW a)) f y ≤ aR a y) ∧ lS (aW a) (eR (aW a)) f r + mm = aR a r ∧ (∀ x, x < aW a → hS (aH a) (eR (aW a)) f x ≤ aC a x) ∧ Kp rsum w s.2) ?_ G mm (iv mm, w') (hGn (by omega)) ⟨f, rfl, d1, d2, d3, d4, by omega, d5, d6⟩
      rintro mm ⟨x, w2⟩ k34 ⟨f, rfl, e1, e2, e3, e4, e5, e6, e7⟩
      have hc2 := hc.rs e7
      have hl2 := (line_bd hE (hf4 e2)).1 r hr
      show (∃ (s' : Int32 × Wd) (m' : Nat), m' < mm ∧ bX4_makeOne_34 k k34 (iv r) (iv mm) w2 = k34 (iv r) s'.1 s'.2 ∧ _) ∨ ((∃ w', bX4_makeOne_34 k k34 (iv r) (iv mm) w2 = _ ∧ _) ∨ (∃ w1, Kp rsum w w1 ∧ ((bX4_makeOne_34 k k34 (iv r) (iv mm) w2 = _ ∧ _) ∨ (∃ f, bX4_makeOne_34 k k34 (iv r) (iv mm) w2 = _ ∧ _))))
      unfold bX4_makeOne_34
      by_cases z : mm = 0
      · right; left
        rw [if_pos (by rw [iv_0, iv_le (by omega) (by omega)]; omega), iv_s1]
        refine ⟨w2, rfl, f, e1, e2, fun y hy => ?_, e4, e6, e7⟩
        by_cases q : y = r
        · subst q; omega
        · exact e3 y (by omega)
      · obtain ⟨w3, p1, p2⟩ := push_s hc2.1 e1 e2 (st := r) (Or.inl hr)
        have k3 : Kp rsum w w3 := e7.trans (p1.weak fun k z => by unfold rsum at z; omega)
        rw [if_neg (by rw [iv_0, iv_le (by omega) (by omega)]; omega)]
        rcases p2 with ⟨q1, q2, S, q3, q4, q5⟩ | ⟨en, f', q1, q2, q3, q4, q5, q6, q7, q8⟩
        · right; right
          rw [q1, bnd_s, if_pos rfl]
          refine ⟨w3, k3, Or.inl ⟨zr_0, make_cut hE q5 hr (by omega) q3 e4 (by omega) (fun j hj hSj => ?_)⟩⟩
          have := q4 (5 + j) hSj (by omega)
          unfold opC at this
          rw [if_pos (by omega), show 5 + j - 5 = j by omega] at this
          have := e6 j hj
          omega
        · left
          have hen : 5 ≤ en ∧ en < 5 + aW a := by
            unfold opC at q4
            by_cases y : 5 ≤ en ∧ en < 5 + aW a
            · exact y
            · rw [if_neg y] at q4; omega
          have q8' : ∀ j, j < aW a → hS (aH a) (eR (aW a)) f' j = hS (aH a) (eR (aW a)) f j + (if en = 5 + j then 1 else 0) := fun j hj => by
            rw [q8 j hj, if_neg (show ¬ r = 5 + j by omega)]; omega
          have q7' : ∀ i, i < aH a → lS (aW a) (eR (aW a)) f' i = lS (aW a) (eR (aW a)) f i + (if r = i then 1 else 0) := fun i hi' => by
            rw [q7 i hi', if_neg (show ¬ en = i by omega)]; omega
          rw [q1, bnd_s, if_neg (by decide), iv_p1]
          refine ⟨(iv ((mm : Int) - 1), w3), mm - 1, by omega, rfl, f', by rw [show ((mm - 1 : Nat) : Int) = (mm : Int) - 1 by omega], q5.op (fun n hn => ?_), q6, fun y hy => ?_, fun y hy => ?_, ?_, fun x hx => ?_, k3⟩
          · by_cases y : n = en
            · subst y
              rw [pu_at]
              unfold opC
              rw [if_pos hen, if_pos hen, q8' _ (by omega), if_pos (by omega)]; omega
            · rw [pu_ne y]
              unfold opC
              by_cases y2 : 5 ≤ n ∧ n < 5 + aW a
              · rw [if_pos y2, if_pos y2, q8' _ (by omega), if_neg (by omega)]; omega
              · rw [if_neg y2, if_neg y2]
          · rw [q7' y (by omega), if_neg (by omega), e3 y hy]; omega
          · rw [q7' y hy]
            by_cases y2 : r = y
            · subst y2; rw [if_pos rfl]; omega
            · rw [if_neg y2]; have := e4 y hy; omega
          · rw [q7' r hr, if_pos rfl]; omega
          · rw [q8' x hx]
            by_cases y2 : en = 5 + x
            · rw [if_pos y2]
              unfold opC at q4
              rw [if_pos hen, show en - 5 = x by omega] at q4
              omega
            · rw [if_neg y2]; have := e6 x hx; omega
    · rintro w' k ⟨f, d1, d2, d3, d4, d5, d6⟩
      have hc' := hc.rs d6
      unfold bX4_makeOne_15
      rw [lines_s hc'.1.1, bnd_s, show nL (aW a) (aH a) 0 = aH a from rfl, if_pos iv_Nle']
      refine ⟨w', d6, Or.inr ⟨f, zr_1, d1.1, fun c hcc => ⟨(d2 c hcc).2.1, (d2 c hcc).2.2.1⟩, d3, fun x hx => ?_⟩⟩
      have hall := lh_all (P := aH a) (Q := aW a) (e := eR (aW a)) f
      rw [sm_congr d3] at hall
      have h0 : sm (fun x => aC a x - hS (aH a) (eR (aW a)) f x) (aW a) = 0 := by rw [sm_sub (aC a)]; omega
      have := sm_all0 (f := fun x => aC a x - hS (aH a) (eR (aW a)) f x) (fun i hi' => by have := d5 i hi'; omega) h0 hx
      have h3 : aC a x - hS (aH a) (eR (aW a)) f x = 0 := this
      omega
/-- none, one, more -/
def Ans (a : Ab) (x : Int32) : Prop := (x = 0 ∧ ¬ ∃ g, Fs (aW a) (aH a) (aC a) (aR a) (lo0 (aT a)) (hi0 (aT a)) g) ∨ (x = 1 ∧ ∃ f, Fs (aW a) (aH a) (aC a) (aR a) (lo0 (aT a)) (hi0 (aT a)) f ∧ ∀ g, Fs (aW a) (aH a) (aC a) (aR a) (lo0 (aT a)) (hi0 (aT a)) g → ∀ c, c < aN a → g c = f c) ∨ (x = 2 ∧ ∃ f g c, Fs (aW a) (aH a) (aC a) (aR a) (lo0 (aT a)) (hi0 (aT a)) f ∧ Fs (aW a) (aH a) (aC a) (aR a) (lo0 (aT a)) (hi0 (aT a)) g ∧ c < aN a ∧ f c ≠ g c)
theorem Ans.one {x y : Int32} (h1 : Ans a x) (h2 : Ans a y) : x = y := by
  rcases h1 with ⟨rfl, p⟩ | ⟨rfl, f, p1, p2⟩ | ⟨rfl, f, g, c, p1, p2, p3, p4⟩
  · rcases h2 with ⟨rfl, q⟩ | ⟨rfl, f', q1, q2⟩ | ⟨rfl, f', g', c', q1, q2, q3, q4⟩
    · rfl
    · exact absurd ⟨f', q1⟩ p
    · exact absurd ⟨f', q1⟩ p
  · rcases h2 with ⟨rfl, q⟩ | ⟨rfl, f', q1, q2⟩ | ⟨rfl, f', g', c', q1, q2, q3, q4⟩
    · exact absurd ⟨f, p1⟩ q
    · rfl
    · exact absurd ((p2 f' q1 c' q3).trans (p2 g' q2 c' q3).symm) q4
  · rcases h2 with ⟨rfl, q⟩ | ⟨rfl, f', q1, q2⟩ | ⟨rfl, f', g', c', q1, q2, q3, q4⟩
    · exact absurd ⟨f, p1⟩ q
    · exact absurd ((q2 f p1 c p3).trans (q2 g p2 c p3).symm) p4
    · rfl
theorem noneOneMore_s (ha : AbOK a) (hc : CS a w) : ∃ x w1, fX4_noneOneMore w = some (x, w1) ∧ Kp rsum w w1 ∧ Ans a x := by
  have hN := aN_le ha
  obtain ⟨wa, a1, a2⟩ := makeOne_s ha hc
  unfold fX4_noneOneMore
  rcases a2 with ⟨b1, b2⟩ | ⟨f, b1, b2, b3⟩
  · rw [b1, bnd_s, if_pos rfl]
    exact ⟨0, wa, rfl, a1, Or.inl ⟨rfl, b2⟩⟩
  · rw [b1, bnd_s, if_neg (by decide)]
    refine lpA (m := aN a) (fun r => ∃ x w1, r = some (x, w1) ∧ Kp rsum w w1 ∧ Ans a x) (fun i w' => Kp rsum w w' ∧ S3 (aW a) (aH a) (lo0 (aT a)) (hi0 (aT a)) f w' ∧ ∀ c, c < i → ∀ g, Fs (aW a) (aH a) (aC a) (aR a) (lo0 (aT a)) (hi0 (aT a)) g → f c ≤ g c) ?_ ?_ (hGn (by omega)) ⟨a1, b2, fun c h => by omega⟩
    · rintro i w' k hi' ⟨c1, c2, c3⟩
      have hc' := hc.rs c1
      obtain ⟨x, w2, f', d1, d2, d3, d4, d5⟩ := shift_s hc'.1 c2 b3 (BL0 _ _) hi' (sg := -1) (Or.inr rfl)
      unfold bX4_noneOneMore_11
      rw [cells_s hc'.1.1, bnd_s, if_neg (iv_Nle (by omega) hi'), iv_m1, d1, bnd_s]
      rcases d5 with ⟨rfl, e1⟩ | ⟨rfl, rfl, e2⟩
      · right
        rw [if_neg (by decide)]
        exact ⟨2, w2, rfl, c1.trans d2, Or.inr (Or.inr ⟨rfl, f, f', i, b3, d4, hi', by omega⟩)⟩
      · left
        rw [if_pos rfl, iv_s1]
        refine ⟨w2, rfl, c1.trans d2, d3, fun c hcc g hg => ?_⟩
        by_cases q : c = i
        · subst q; exact (e2 g hg).2 rfl
        · exact c3 c (by omega) g hg
    · rintro w' k ⟨c1, c2, c3⟩
      have hc' := hc.rs c1
      unfold bX4_noneOneMore_11
      rw [cells_s hc'.1.1, bnd_s, if_pos iv_Nle']
      refine ⟨1, w', rfl, c1, Or.inr (Or.inl ⟨rfl, f, b3, fun g hg c hcc => ?_⟩)⟩
      have e1 : sm f (aN a) = sm (aR a) (aH a) := b3.tot
      have e2 : sm g (aN a) = sm (aR a) (aH a) := hg.tot
      have h0 : sm (fun c => g c - f c) (aN a) = 0 := by rw [sm_sub]; omega
      have := sm_all0 (f := fun c => g c - f c) (fun i hi' => by have := c3 i hi' g hg; omega) h0 hcc
      have h3 : g c - f c = 0 := this
      omega
theorem extremeS_s (ha : AbOK a) (hc : CS a w) {c : Nat} (hcc : c < aN a) (T : Int32) : ∃ x w1, fX4_extreme (iv c) T w = some (x, w1) ∧ Kp rsum w w1 ∧ ((x = -9 ∧ ¬ ∃ g, Fs (aW a) (aH a) (aC a) (aR a) (lo0 (aT a)) (hi0 (aT a)) g) ∨ (∃ f, x = iv (f c) ∧ Fs (aW a) (aH a) (aC a) (aR a) (lo0 (aT a)) (hi0 (aT a)) f ∧ EX (aW a) (aH a) (aC a) (aR a) (lo0 (aT a)) (hi0 (aT a)) (if T = 0 then -1 else 1) c f)) := by
  have hN := aN_le ha
  obtain ⟨wa, a1, a2⟩ := makeOne_s ha hc
  have hca := hc.rs a1
  unfold fX4_extreme jX4_extreme_21
  rcases a2 with ⟨b1, b2⟩ | ⟨f, b1, b2, b3⟩
  · rw [b1, bnd_s, if_pos rfl]
    exact ⟨_, wa, rfl, a1, Or.inl ⟨rfl, b2⟩⟩
  · rw [b1, bnd_s, if_neg (by decide)]
    by_cases z : T = 0
    · obtain ⟨w1, f', c1, c2, c3, c4, c5⟩ := shiftFar_s hca.1 b2 b3 (BL0 _ _) hcc (sg := -1) (Or.inr rfl)
      rw [if_pos z, if_pos z, iv_m1, c1, bnd_s, gI_iv (by rw [LI_83]; omega) (by rw [LI_83]; omega), bind_s, (c3 c hcc).1]
      exact ⟨_, w1, rfl, a1.trans c2, Or.inr ⟨f', rfl, c4, c5⟩⟩
    · obtain ⟨w1, f', c1, c2, c3, c4, c5⟩ := shiftFar_s hca.1 b2 b3 (BL0 _ _) hcc (sg := 1) (Or.inl rfl)
      rw [if_neg z, if_neg z, iv_1, c1, bnd_s, gI_iv (by rw [LI_83]; omega) (by rw [LI_83]; omega), bind_s, (c3 c hcc).1]
      exact ⟨_, w1, rfl, a1.trans c2, Or.inr ⟨f', rfl, c4, c5⟩⟩
/-! the first heap of all -/
def stg (L lo : Nat → Int) (i : Nat) : Nat → Int := fun c => if c < i then L c else lo c
def LXF (W H : Nat) (C R lo hi L : Nat → Int) (n : Nat) : Prop := ∀ c, c < n → (∃ f, Fs W H C R (stg L lo c) (stg L hi c) f ∧ f c = L c) ∧ ∀ g, Fs W H C R (stg L lo c) (stg L hi c) g → L c ≤ g c
theorem stg_congr {L L' lo : Nat → Int} {i : Nat} (h : ∀ c, c < i → L c = L' c) : stg L lo i = stg L' lo i := funext fun c => by
  unfold stg
  by_cases z : c < i
  · rw [if_pos z, if_pos z, h c z]
  · rw [if_neg z, if_neg z]
theorem stg_next (L lo : Nat → Int) (i : Nat) (v : Int) : stg (pu L i v) lo (i + 1) = pu (stg L lo i) i v := funext fun c => by
  show (if c < i + 1 then (if c = i then v else L c) else lo c) = (if c = i then v else (if c < i then L c else lo c))
  by_cases z : c = i
  · rw [if_pos z, if_pos z, if_pos (by omega)]
  · rw [if_neg z, if_neg z]
    by_cases z2 : c < i
    · rw [if_pos z2, if_pos (by omega)]
    · rw [if_neg z2, if_neg (by omega)]
theorem LXF.next {W H : Nat} {C R lo hi L f : Nat → Int} {i : Nat} (h : LXF W H C R lo hi L i) (hf : Fs W H C R (stg L lo i) (stg L hi i) f) (hm : ∀ g, Fs W H C R (stg L lo i) (stg L hi i) g → f i ≤ g i) : LXF W H C R lo hi (pu L i (f i)) (i + 1) := fun c hc => by
  have e1 : ∀ lo, stg (pu L i (f i)) lo c = stg L lo c := fun lo => stg_congr (fun k hk => pu_ne (by omega))
  rw [e1, e1]
  by_cases z : c = i
  · subst z
    rw [pu_at]
    exact ⟨⟨f, hf, rfl⟩, hm⟩
  · rw [pu_ne z]
    exact h c (by omega)
theorem LXF.one {W H : Nat} {C R lo hi L L' : Nat → Int} {n : Nat} (h : LXF W H C R lo hi L n) (h' : LXF W H C R lo hi L' n) : ∀ m c, c < m → c < n → L c = L' c
  | 0, c, h1, _ => by omega
  | m + 1, c, h1, h2 => by
    have ih := LXF.one h h' m
    have e1 : ∀ lo, stg L lo c = stg L' lo c := fun lo => stg_congr (fun k hk => ih k (by omega) (by omega))
    obtain ⟨⟨f, f1, f2⟩, f3⟩ := h c h2
    obtain ⟨⟨g, g1, g2⟩, g3⟩ := h' c h2
    rw [e1, e1] at f1 f3
    have := f3 g g1
    have := g3 f f1
    omega
theorem Fs.fix {W H : Nat} {C R lo hi f : Nat → Int} (h : Fs W H C R lo hi f) (i : Nat) : Fs W H C R (pu lo i (f i)) (pu hi i (f i)) f := ⟨fun c hc => by
  have := h.1 c hc
  by_cases z : c = i
  · subst z; rw [pu_at, pu_at]; omega
  · rw [pu_ne z, pu_ne z]; exact this, h.2⟩
theorem fillFirst_s (ha : AbOK a) (hc : CS a w) {s : Nat} (hs : s < 4) : ∃ w1, Kp (fun k => rsum k ∧ k ≠ 6 + s) w w1 ∧ ((fX4_fillFirst (6 + s) w = some (0, w1) ∧ Kp rsum w w1 ∧ ¬ ∃ g, Fs (aW a) (aH a) (aC a) (aR a) (lo0 (aT a)) (hi0 (aT a)) g) ∨ (∃ L, fX4_fillFirst (6 + s) w = some (1, w1) ∧ (∃ g, Fs (aW a) (aH a) (aC a) (aR a) (lo0 (aT a)) (hi0 (aT a)) g) ∧ LXF (aW a) (aH a) (aC a) (aR a) (lo0 (aT a)) (hi0 (aT a)) L (aN a) ∧ (∀ c, c < aN a → Hgt (L c)) ∧ (∀ c, c < aN a → w1.1 (6 + s) c = iv (L c)))) := by
  have hN := aN_le ha
  obtain ⟨wa, a1, a2⟩ := makeOne_s ha hc
  unfold fX4_fillFirst
  rcases a2 with ⟨b1, b2⟩ | ⟨f0, b1, b2, b3⟩
  · rw [b1, bnd_s, if_pos rfl]
    exact ⟨wa, a1.weak fun k z => z.1, Or.inl ⟨zr_0, a1, b2⟩⟩
  · rw [b1, bnd_s, if_neg (by decide)]
    have st0 : ∀ lo, stg (fun _ => 0) lo 0 = lo := fun lo => funext fun c => if_neg (by omega)
    have bl : ∀ L i, (∀ c, c < i → 0 ≤ L c ∧ L c ≤ 4) → BL (aN a) (stg L (lo0 (aT a)) i) (stg L (hi0 (aT a)) i) := fun L i h c _ => by
      unfold stg
      by_cases z : c < i
      · rw [if_pos z, if_pos z]; exact ⟨(h c z).1, (h c z).2⟩
      · have := lohi0 (T := aT a) c
        rw [if_neg z, if_neg z]; omega
    refine lpA (m := aN a) (fun r => ∃ w1, Kp (fun k => rsum k ∧ k ≠ 6 + s) w w1 ∧ ((r = some (0, w1) ∧ Kp rsum w w1 ∧ ¬ ∃ g, Fs (aW a) (aH a) (aC a) (aR a) (lo0 (aT a)) (hi0 (aT a)) g) ∨ (∃ L, r = some (1, w1) ∧ (∃ g, Fs (aW a) (aH a) (aC a) (aR a) (lo0 (aT a)) (hi0 (aT a)) g) ∧ LXF (aW a) (aH a) (aC a) (aR a) (lo0 (aT a)) (hi0 (aT a)) L (aN a) ∧ (∀ c, c < aN a → Hgt (L c)) ∧ (∀ c, c < aN a → w1.1 (6 + s) c = iv (L c))))) (fun i w' => ∃ L f, LXF (aW a) (aH a) (aC a) (aR a) (lo0 (aT a)) (hi0 (aT a)) L i ∧ (∀ c, c < i → 0 ≤ L c ∧ L c ≤ 4) ∧ S3 (aW a) (aH a) (stg L (lo0 (aT a)) i) (stg L (hi0 (aT a)) i) f w' ∧ Fs (aW a) (aH a) (aC a) (aR a) (stg L (lo0 (aT a)) i) (stg L (hi0 (aT a)) i) f ∧ Kp rsum w w') ?_ ?_ (hGn (by omega)) ⟨fun _ => 0, f0, fun c h => by omega, fun c h => by omega, by rw [st0, st0]; exact b2, by rw [st0, st0]; exact b3, a1⟩
    · rintro i w' k hi' ⟨L, f, c1, c2, c3, c4, c5⟩
      left
      have hc' := hc.rs c5
      have hbl := bl L i c2
      obtain ⟨w2, f', d1, d2, d3, d4, d5⟩ := shiftFar_s hc'.1 c3 c4 hbl hi' (sg := -1) (Or.inr rfl)
      have hbh := d4.BH hbl
      unfold bX4_fillFirst_11
      rw [cells_s hc'.1.1, bnd_s, if_neg (iv_Nle (by omega) hi'), iv_m1, d1, bnd_s, gI_iv (by rw [LI_83]; omega) (by rw [LI_83]; omega), bind_s, sI_iv (by rw [LI_84]; omega) (by rw [LI_84]; omega), bind_s, gI_iv (by rw [LI_83]; omega) (by rw [LI_83]; omega), bind_s, sI_iv (by rw [LI_85]; omega) (by rw [LI_85]; omega), bind_s, iv_s1, uI_row (by omega), (d3 i hi').1]
      refine ⟨_, rfl, pu L i (f' i), f', c1.next d4 (fun g hg => (d5 g hg).2 rfl), fun c hcc => ?_, fun c hcc => ?_, ?_, c5.trans (d2.trans ((Kp.uI (fun z => by omega)).trans (Kp.uI (fun z => by omega))))⟩
      · by_cases z : c = i
        · subst z; rw [pu_at]; have := hbh c hi'; omega
        · rw [pu_ne z]; exact c2 c (by omega)
      · rw [stg_next, stg_next]
        have := d3 c hcc
        refine ⟨?_, ?_, ?_⟩
        · rw [uI_row (by omega), uI_row (by omega)]; exact this.1
        · rw [uI_row (by omega)]
          by_cases z : c = i
          · subst z; rw [uI_same, pu_at]
          · rw [uI_other (Or.inr z), pu_ne z]; exact this.2.1
        · by_cases z : c = i
          · subst z; rw [uI_same, pu_at]
          · rw [uI_other (Or.inr z), pu_ne z, uI_row (by omega)]; exact this.2.2
      · rw [stg_next, stg_next]
        exact d4.fix i
    · rintro w' k ⟨L, f, c1, c2, c3, c4, c5⟩
      have hc' := hc.rs c5
      have hfL : ∀ c, c < aN a → f c = L c := fun c hcc => by
        have := c4.1 c hcc
        unfold stg at this
        rw [if_pos hcc, if_pos hcc] at this
        omega
      have hsl := hc'.slot ha hs
      obtain ⟨w2, d1, d2, _, d3⟩ := overwrite_s hc'.1.1 (k := 83) (j := 6 + s) (by omega) (by omega) (by rw [LI_83]; exact hN) (by rw [LI_83]; omega) (by rw [LI_slot hs]; exact hN) (by rw [LI_slot hs]; omega) (f := f) (g := aP a s) (fun c hcc => ⟨(c3 c hcc).1, by have := hfL c hcc; have := c2 c hcc; omega, by have := hfL c hcc; have := c2 c hcc; omega⟩) (fun c hcc => ⟨(hsl c hcc).1, by have := (hsl c hcc).2; unfold Hgt at this; omega, by have := (hsl c hcc).2; unfold Hgt at this; omega⟩)
      unfold bX4_fillFirst_11
      rw [cells_s hc'.1.1, bnd_s, if_pos iv_Nle', d1, bnd_s]
      refine ⟨w2, (c5.weak fun k z => z.1).trans (d3.weak fun k z => z.2), Or.inr ⟨L, zr_1, ⟨f0, b3⟩, c1, c2, fun c hcc => by rw [d2 c hcc, hfL c hcc]⟩⟩
end CSUM5
