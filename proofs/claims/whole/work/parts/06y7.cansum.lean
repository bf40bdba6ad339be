/-! ===== sums, the model: whether there is a heap ===== -/
theorem sm_ext (h : Nat → Int) (W : Nat) : ∀ n, W ≤ n → sm (fun x => if x < W then h x else 0) n = sm h W
  | 0, hw => by
    have : W = 0 := by omega
    subst this; rfl
  | n + 1, hw => by
    by_cases z : W = n + 1
    · subst z; exact sm_congr (fun i hi => if_pos hi)
    · rw [sm_s, sm_ext h W n (by omega), if_neg (by omega)]; omega
def lcF (W H : Nat) (C g : Nat → Int) (x : Nat) : Int := if x < W then C x - lS H (eK W) g x else 0
def lrF (W H : Nat) (R g : Nat → Int) (y : Nat) : Int := if y < H then R y - hS W (eK W) g y else 0
theorem stg_z (lo : Nat → Int) (i : Nat) : stg lo (fun _ => 0) (i + 1) = pu (stg lo (fun _ => 0) i) i (lo i) := funext fun c => by
  show (if c < i + 1 then lo c else 0) = (if c = i then lo i else (if c < i then lo c else 0))
  by_cases z : c = i
  · rw [if_pos z, if_pos (by omega), z]
  · rw [if_neg z]
    by_cases z2 : c < i
    · rw [if_pos z2, if_pos (by omega)]
    · rw [if_neg z2, if_neg (by omega)]
theorem MA.cg {W H : Nat} {lo hi f lc lr lc' lr' : Nat → Int} {w : Wd} (h : MA W H lo hi f lc lr w) (h1 : ∀ x, x < 5 → lc x = lc' x) (h2 : ∀ x, x < 5 → lr x = lr' x) : MA W H lo hi f lc' lr' w := ⟨h.1, fun x hx => by rw [← h1 x hx]; exact h.2.1 x hx, fun x hx => by rw [← h2 x hx]; exact h.2.2 x hx⟩
def ME (a : Ab) (lo hi : Nat → Int) (w : Wd) : Prop := ∀ c, c < aN a → w.1 109 c = iv (lo c) ∧ w.1 110 c = iv (hi c)
def mflow (k : Nat) : Prop := k < 111 ∨ 114 < k
section MSUM2
variable {a : Ab} {w : Wd} {lo hi : Nat → Int}
theorem canSum_s (ha : AbOK a) (hm : MS a w) (he : ME a lo hi w) (hb : BH (aN a) lo hi lo) : ∃ x w1, fX9_canSum w = some (x, w1) ∧ Kp mflow w w1 ∧ ((x = 1 ∧ ∃ g, Fs (aW a) (aH a) (aC a) (aR a) lo hi g) ∨ (x = 0 ∧ ¬ ∃ g, Fs (aW a) (aH a) (aC a) (aR a) lo hi g)) := by
  have hN := aN_le ha
  have hE : EOK (aW a) (aH a) (aN a) (eK (aW a)) := eK_ok ha.1.1 ha.1.2.1 ha.1.2.2.2
  have hW1 := ha.1.1
  have hW5 := ha.1.2.1
  have hH1 := ha.1.2.2.1
  have hH5 := ha.1.2.2.2
  have hR := ha.2.2.2.2.2.2
  have hC := ha.2.2.2.2.2.1
  unfold Sum at hR hC
  generalize hQQ : (fun r => ∃ x w1, r = some (x, w1) ∧ Kp mflow w w1 ∧ ((x = 1 ∧ ∃ g, Fs (aW a) (aH a) (aC a) (aR a) lo hi g) ∨ (x = 0 ∧ ¬ ∃ g, Fs (aW a) (aH a) (aC a) (aR a) lo hi g)) : Option (Int32 × Wd) → Prop) = QQ
  have out : ∀ {r : Option (Int32 × Wd)}, (∃ x w1, r = some (x, w1) ∧ Kp mflow w w1 ∧ ((x = 1 ∧ ∃ g, Fs (aW a) (aH a) (aC a) (aR a) lo hi g) ∨ (x = 0 ∧ ¬ ∃ g, Fs (aW a) (aH a) (aC a) (aR a) lo hi g))) ↔ QQ r := by
    intro r; rw [← hQQ]
  rw [out]
  have bnd4 : ∀ {f : Nat → Int}, (∀ c, c < aN a → 0 ≤ f c ∧ f c ≤ 4) → (∀ x, x < 5 → -1000 ≤ lcF (aW a) (aH a) (aC a) f x ∧ lcF (aW a) (aH a) (aC a) f x ≤ 20) ∧ (∀ y, y < 5 → -1000 ≤ lrF (aW a) (aH a) (aR a) f y ∧ lrF (aW a) (aH a) (aR a) f y ≤ 20) := fun {f} hf => by
    obtain ⟨p1, p2⟩ := line_bd hE hf
    refine ⟨fun x _ => ?_, fun y _ => ?_⟩
    · unfold lcF
      by_cases z : x < aW a
      · rw [if_pos z]; have := p1 x z; have := hC x z; omega
      · rw [if_neg z]; omega
    · unfold lrF
      by_cases z : y < aH a
      · rw [if_pos z]; have := p2 y z; have := hR y z; omega
      · rw [if_neg z]; omega
  have lo4 : ∀ c, c < aN a → 0 ≤ lo c ∧ lo c ≤ 4 := fun c hc => by have := hb c hc; omega
  have lc5 : ∀ f, sm (lcF (aW a) (aH a) (aC a) f) 5 = sm (aC a) (aW a) - sm (lS (aH a) (eK (aW a)) f) (aW a) := fun f => by
    rw [← sm_sub (aC a)]; exact sm_ext (fun x => aC a x - lS (aH a) (eK (aW a)) f x) (aW a) 5 hW5
  have lr5 : ∀ f, sm (lrF (aW a) (aH a) (aR a) f) 5 = sm (aR a) (aH a) - sm (hS (aW a) (eK (aW a)) f) (aH a) := fun f => by
    rw [← sm_sub (aR a)]; exact sm_ext (fun x => aR a x - hS (aW a) (eK (aW a)) f x) (aH a) 5 hH5
  -- the flow grows
  have L4 : ∀ (f : Nat → Int) (x : Int32) (w2 : Wd), MA (aW a) (aH a) lo hi f (lcF (aW a) (aH a) (aC a) f) (lrF (aW a) (aH a) (aR a) f) w2 → BH (aN a) lo hi f → (∀ x, x < 5 → 0 ≤ lcF (aW a) (aH a) (aC a) f x) → (∀ y, y < 5 → 0 ≤ lrF (aW a) (aH a) (aR a) f y) → sm (lcF (aW a) (aH a) (aC a) f) 5 = sm (lrF (aW a) (aH a) (aR a) f) 5 → Kp mflow w w2 → QQ (bnd (fX9_reach w2) fun x18 w19 => lp (fun _ _ _ => none) bX9_canSum_242 G (iv (sm (lcF (aW a) (aH a) (aC a) f) 5)) x18 w19) := by
    intro f x w2 h1 h2 h3 h4 h5 h6
    have hmw : ∀ {w3}, Kp mflow w w3 → MW (aW a) (aH a) w3 := fun h => hm.1.kept (h 99 (by unfold mflow; omega)).1
    have f4 : ∀ {f : Nat → Int}, BH (aN a) lo hi f → ∀ c, c < aN a → 0 ≤ f c ∧ f c ≤ 4 := fun h c hc => by have := h c hc; omega
    have sb : ∀ {f : Nat → Int}, BH (aN a) lo hi f → (∀ x, x < 5 → 0 ≤ lcF (aW a) (aH a) (aC a) f x) → 0 ≤ sm (lcF (aW a) (aH a) (aC a) f) 5 ∧ sm (lcF (aW a) (aH a) (aC a) f) 5 ≤ 100 := fun {f} h h' => by
      have := sm_bound (f := lcF (aW a) (aH a) (aC a) f) (lo := 0) (hi := 20) (n := 5) (fun x hx => ⟨h' x hx, ((bnd4 (f4 h)).1 x hx).2⟩)
      omega
    obtain ⟨x0, w3, r1, r2, r3⟩ := reach_s (hmw h6) h1 h2
    rw [r1, bnd_s]
    have hs0 := sb h2 h3
    have k3 : Kp mflow w w3 := h6.trans (r2.weak fun k z => by unfold mflow at z; omega)
    refine lpG (fun (F : Int32 → Int32 → Wd → Option (Int32 × Wd)) (s : Int32 × Int32 × Wd) => F s.1 s.2.1 s.2.2) QQ (fun mm s => ∃ f, s.1 = iv (sm (lcF (aW a) (aH a) (aC a) f) 5) ∧ MA (aW a) (aH a) lo hi f (lcF (aW a) (aH a) (aC a) f) (lrF (aW a) (aH a) (aR a) f) s.2.2 ∧ BH (aN a) lo hi f ∧ (∀ x, x < 5 → 0 ≤ lcF (aW a) (aH a) (aC a) f x) ∧ (∀ y, y < 5 → 0 ≤ lrF (aW a) (aH a) (aR a) f y) ∧ sm (lcF (aW a) (aH a) (aC a) f) 5 = sm (lrF (aW a) (aH a) (aR a) f) 5 ∧ Kp mflow w s.2.2 ∧ mm = (sm (lcF (aW a) (aH a) (aC a) f) 5).toNat ∧ ((s.2.1 = -9 ∧ (∀ x, x < aW a → 0 < lcF (aW a) (aH a) (aC a) f x → s.2.2.1 114 x ≠ -9) ∧ (∀ c, c < aN a → RC (aW a) lo hi f s.2.2 c) ∧ (∀ y, y < aH a → s.2.2.1 114 (5 + y) ≠ -9 → lrF (aW a) (aH a) (aR a) f y ≤ 0)) ∨ (∃ y rk b, s.2.1 = iv ((5 + y : Nat) : Int) ∧ y < aH a ∧ 0 < lrF (aW a) (aH a) (aR a) f y ∧ s.2.2.1 114 (5 + y) ≠ -9 ∧ b ≤ 100 ∧ RT (aW a) (aH a) lo hi f (lcF (aW a) (aH a) (aC a) f) rk b s.2.2))) ?_ G (sm (lcF (aW a) (aH a) (aC a) f) 5).toNat (iv (sm (lcF (aW a) (aH a) (aC a) f) 5), x0, w3) (hGn (by omega)) ⟨f, rfl, h1.kept r2, h2, h3, h4, h5, k3, rfl, r3⟩
    rintro mm ⟨v2, v4, w4⟩ k ⟨f, rfl, q1, q2, q3, q4, q5, q6, rfl, q8⟩
    have hs1 := sb q2 q3
    show (∃ (s' : Int32 × Int32 × Wd) (m' : Nat), m' < (sm (lcF (aW a) (aH a) (aC a) f) 5).toNat ∧ bX9_canSum_242 k (iv (sm (lcF (aW a) (aH a) (aC a) f) 5)) v4 w4 = k s'.1 s'.2.1 s'.2.2 ∧ _) ∨ QQ (bX9_canSum_242 k (iv (sm (lcF (aW a) (aH a) (aC a) f) 5)) v4 w4)
    unfold bX9_canSum_242
    rcases q8 with ⟨z, u1, u2, u3⟩ | ⟨y, rk, b, z, u1, u2, u3, u4, u5⟩
    · right
      have z' : v4 = -9 := z
      rw [if_pos z', ← out]
      by_cases z2 : sm (lcF (aW a) (aH a) (aC a) f) 5 = 0
      · rw [if_pos (by rw [iv_0, iv_eq (by omega) (by omega)]; exact z2)]
        refine ⟨1, w4, zr_1, q6, Or.inl ⟨rfl, f, Fs_K.mpr ⟨fun c hc => ⟨(q2 c hc).2.1, (q2 c hc).2.2.1⟩, fun x hx => ?_, fun y hy => ?_⟩⟩⟩
        · have := sm_all0 q3 z2 (show x < 5 by omega)
          unfold lcF at this
          rw [if_pos hx] at this; omega
        · have := sm_all0 q4 (by omega) (show y < 5 by omega)
          unfold lrF at this
          rw [if_pos hy] at this; omega
      · rw [if_neg (by rw [iv_0, iv_eq (by omega) (by omega)]; exact z2)]
        have hex : ∃ r, r < 5 ∧ 0 < lcF (aW a) (aH a) (aC a) f r := sm_ex (by omega)
        obtain ⟨r, e1, e2⟩ := hex
        have hrW : r < aW a := by
          unfold lcF at e2
          by_cases y : r < aW a
          · exact y
          · rw [if_neg y] at e2; omega
        refine ⟨0, w4, zr_0, q6, Or.inr ⟨rfl, fun hg => ?_⟩⟩
        obtain ⟨g, hg⟩ := hg
        refine make_cut hE (f := f) (lo := lo) (hi := hi) (A := aC a) (B := aR a) (S := fun n => nOK (aW a) (aH a) n ∧ w4.1 114 n ≠ -9) (fun m n hm' hn ho hp => ⟨hn, ?_⟩) hrW (by omega) ⟨Or.inl hrW, u1 r hrW e2⟩ (fun i hi' => ?_) ?_ (fun j hj hSj => ?_) ⟨g, Fs_K.mp hg⟩
        · have hmo := hm'.1
          unfold nOK at hn hmo
          unfold opp at ho
          unfold ps ec at hp
          by_cases y : m < 5
          · rw [if_pos y, if_pos y] at hp
            have hc : eK (aW a) m (n - 5) < aN a := hE.2.2.1 _ _ (by omega) (by omega)
            have xy := xy_of (W := aW a) (x := m) (y := n - 5) (by omega)
            have hrc := (u2 _ hc).1
            rw [show eK (aW a) m (n - 5) % aW a = m from xy.1, show eK (aW a) m (n - 5) / aW a = n - 5 from xy.2, show 5 + (n - 5) = n by omega] at hrc
            exact hrc hm'.2 hp
          · rw [if_neg y, if_neg y] at hp
            have hc : eK (aW a) n (m - 5) < aN a := hE.2.2.1 _ _ (by omega) (by omega)
            have xy := xy_of (W := aW a) (x := n) (y := m - 5) (by omega)
            have hrc := (u2 _ hc).2
            rw [show eK (aW a) n (m - 5) % aW a = n from xy.1, show eK (aW a) n (m - 5) / aW a = m - 5 from xy.2, show 5 + (m - 5) = m by omega] at hrc
            exact hrc hm'.2 hp
        · have := q3 i (by omega)
          unfold lcF at this
          rw [if_pos hi'] at this; omega
        · unfold lcF at e2
          rw [if_pos hrW] at e2; omega
        · have h1 := u3 j hj hSj.2
          have h2 := q4 j (by omega)
          unfold lrF at h1 h2
          rw [if_pos hj] at h1 h2; omega
    · left
      have z' : v4 = iv ((5 + y : Nat) : Int) := z
      obtain ⟨w5, f', x1, t1, t2, t3, t4, t5, t6, t7, t8⟩ := take_s (hmw q6) q1 q2 u1 u2 u3 u4 u5
      have k5 : Kp mflow w w5 := q6.trans (t2.weak fun k z => by unfold mflow at z; omega)
      have eC : ∀ x, x < 5 → pu (lcF (aW a) (aH a) (aC a) f) x1 (lcF (aW a) (aH a) (aC a) f x1 - 1) x = lcF (aW a) (aH a) (aC a) f' x := fun x hx => by
        by_cases y : x = x1
        · subst y
          rw [pu_at]; unfold lcF
          rw [if_pos t3, if_pos t3, t7 x t3, if_pos rfl]; omega
        · rw [pu_ne y]; unfold lcF
          by_cases y2 : x < aW a
          · rw [if_pos y2, if_pos y2, t7 x y2, if_neg (fun q => y q.symm)]; omega
          · rw [if_neg y2, if_neg y2]
      have eR' : ∀ j, j < 5 → pu (lrF (aW a) (aH a) (aR a) f) y (lrF (aW a) (aH a) (aR a) f y - 1) j = lrF (aW a) (aH a) (aR a) f' j := fun j hj => by
        by_cases yj : j = y
        · subst yj
          rw [pu_at]; unfold lrF
          rw [if_pos u1, if_pos u1, t8 j u1, if_pos rfl]; omega
        · rw [pu_ne yj]; unfold lrF
          by_cases y2 : j < aH a
          · rw [if_pos y2, if_pos y2, t8 j y2, if_neg (fun q => yj q.symm)]; omega
          · rw [if_neg y2, if_neg y2]
      have t5' := t5.cg eC eR'
      have c3 : ∀ x, x < 5 → 0 ≤ lcF (aW a) (aH a) (aC a) f' x := fun x hx => by
        rw [← eC x hx]
        by_cases y : x = x1
        · subst y; rw [pu_at]; omega
        · rw [pu_ne y]; exact q3 x hx
      have c4 : ∀ j, j < 5 → 0 ≤ lrF (aW a) (aH a) (aR a) f' j := fun j hj => by
        rw [← eR' j hj]
        by_cases yj : j = y
        · subst yj; rw [pu_at]; omega
        · rw [pu_ne yj]; exact q4 j hj
      have s1 : sm (lcF (aW a) (aH a) (aC a) f') 5 = sm (lcF (aW a) (aH a) (aC a) f) 5 + -1 := sm_at (m := x1) (by omega) (fun i hi' hne => by rw [← eC i hi', pu_ne hne]) (by rw [← eC x1 (by omega), pu_at]; omega)
      have s2 : sm (lrF (aW a) (aH a) (aR a) f') 5 = sm (lrF (aW a) (aH a) (aR a) f) 5 + -1 := sm_at (m := y) (by omega) (fun i hi' hne => by rw [← eR' i hi', pu_ne hne]) (by rw [← eR' y (by omega), pu_at]; omega)
      obtain ⟨x0', w6, r1, r2, r3⟩ := reach_s (hmw k5) t5' t6
      have hs2 := sb t6 c3
      rw [if_neg (by rw [z']; exact iv_ne_m9 (by omega)), z', t1, bnd_s, r1, bnd_s, iv_m1, iv_add, ← s1]
      exact ⟨(iv (sm (lcF (aW a) (aH a) (aC a) f') 5), x0', w6), (sm (lcF (aW a) (aH a) (aC a) f') 5).toNat, by omega, rfl, f', rfl, t5'.kept r2, t6, c3, c4, by omega, k5.trans (r2.weak fun k z => by unfold mflow at z; omega), rfl, r3⟩
  -- the three counting loops ahead of it
  have L3 : ∀ w2, MA (aW a) (aH a) lo hi lo (lcF (aW a) (aH a) (aC a) lo) (lrF (aW a) (aH a) (aR a) lo) w2 → Kp mflow w w2 → QQ (lp (fun _ _ _ _ _ => none) bX9_canSum_163 G (1 : Int32) (0 : Int32) (0 : Int32) (0 : Int32) w2) := by
    intro w2 h1 h2
    have hb4 := bnd4 lo4
    have sb1 : ∀ i, i ≤ 5 → -5000 ≤ sm (lcF (aW a) (aH a) (aC a) lo) i ∧ sm (lcF (aW a) (aH a) (aC a) lo) i ≤ 100 := fun i hi' => by
      have := sm_bound (f := lcF (aW a) (aH a) (aC a) lo) (lo := -1000) (hi := 20) (n := i) (fun x hx => hb4.1 x (by omega))
      omega
    have sb2 : ∀ i, i ≤ 5 → -5000 ≤ sm (lrF (aW a) (aH a) (aR a) lo) i ∧ sm (lrF (aW a) (aH a) (aR a) lo) i ≤ 100 := fun i hi' => by
      have := sm_bound (f := lrF (aW a) (aH a) (aR a) lo) (lo := -1000) (hi := 20) (n := i) (fun x hx => hb4.2 x (by omega))
      omega
    have noN : ∀ k, k < 5 → (lcF (aW a) (aH a) (aC a) lo k < 0 ∨ lrF (aW a) (aH a) (aR a) lo k < 0) → ¬ ∃ g, Fs (aW a) (aH a) (aC a) (aR a) lo hi g := by
      rintro k hk hlt ⟨g, hg⟩
      have hg' := Fs_K.mp hg
      rcases hlt with hlt | hlt
      · unfold lcF at hlt
        by_cases y : k < aW a
        · rw [if_pos y] at hlt
          have h1 : lS (aH a) (eK (aW a)) lo k ≤ lS (aH a) (eK (aW a)) g k := sm_mono0 (fun j hj => (hg'.1 _ (hE.2.2.1 k j y hj)).1)
          rw [hg'.2.1 k y] at h1; omega
        · rw [if_neg y] at hlt; omega
      · unfold lrF at hlt
        by_cases y : k < aH a
        · rw [if_pos y] at hlt
          have h1 : hS (aW a) (eK (aW a)) lo k ≤ hS (aW a) (eK (aW a)) g k := sm_mono0 (fun j hj => (hg'.1 _ (hE.2.2.1 j k hj y)).1)
          rw [hg'.2.2 k y] at h1; omega
        · rw [if_neg y] at hlt; omega
    refine lpT (α := Int32 → Int32 → Int32 → Int32 → Wd → Option (Int32 × Wd)) (τ := Int32 × Int32 × Int32) (fun F x i w => F x.1 x.2.1 x.2.2 i w) (m := 5) QQ (fun i x w3 => w3 = w2 ∧ x.2.1 = iv (sm (lcF (aW a) (aH a) (aC a) lo) i) ∧ x.2.2 = iv (sm (lrF (aW a) (aH a) (aR a) lo) i) ∧ ((x.1 = 1 ∧ ∀ k, k < i → 0 ≤ lcF (aW a) (aH a) (aC a) lo k ∧ 0 ≤ lrF (aW a) (aH a) (aR a) lo k) ∨ (x.1 = 0 ∧ ∃ k, k < 5 ∧ (lcF (aW a) (aH a) (aC a) lo k < 0 ∨ lrF (aW a) (aH a) (aR a) lo k < 0)))) ?_ ?_ (hGn (by omega)) (x := ((1 : Int32), (0 : Int32), (0 : Int32))) ⟨rfl, rfl, rfl, Or.inl ⟨rfl, fun k h => by omega⟩⟩
    · rintro i ⟨v1, v2, v3⟩ w3 k hi' ⟨rfl, e2, e3, e4⟩
      left
      have e2' : v2 = iv (sm (lcF (aW a) (aH a) (aC a) lo) i) := e2
      have e3' : v3 = iv (sm (lrF (aW a) (aH a) (aR a) lo) i) := e3
      have hlc := h1.2.1 i hi'
      have hlr := h1.2.2 i hi'
      show ∃ (x' : Int32 × Int32 × Int32) (w' : Wd), bX9_canSum_163 k v1 v2 v3 (iv i) w3 = k x'.1 x'.2.1 x'.2.2 (iv ((i + 1 : Nat) : Int)) w' ∧ _
      unfold bX9_canSum_163 jX9_canSum_197 jX9_canSum_198
      rw [e2', e3', if_neg (by rw [iv_5, iv_le (by omega) (by omega)]; omega)]
      have fin : ∀ u : Int32, ((u = 1 ∧ ∀ k, k < i + 1 → 0 ≤ lcF (aW a) (aH a) (aC a) lo k ∧ 0 ≤ lrF (aW a) (aH a) (aR a) lo k) ∨ (u = 0 ∧ ∃ k, k < 5 ∧ (lcF (aW a) (aH a) (aC a) lo k < 0 ∨ lrF (aW a) (aH a) (aR a) lo k < 0))) → ∃ (x' : Int32 × Int32 × Int32) (w' : Wd), ((gI w3 112 (iv i)).bind fun x26 => (gI w3 113 (iv i)).bind fun x27 => k u (iv (sm (lcF (aW a) (aH a) (aC a) lo) i) + x26) (iv (sm (lrF (aW a) (aH a) (aR a) lo) i) + x27) (iv i + (1 : Int32)) w3) = k x'.1 x'.2.1 x'.2.2 (iv ((i + 1 : Nat) : Int)) w' ∧ (w' = w3 ∧ x'.2.1 = iv (sm (lcF (aW a) (aH a) (aC a) lo) (i + 1)) ∧ x'.2.2 = iv (sm (lrF (aW a) (aH a) (aR a) lo) (i + 1)) ∧ ((x'.1 = 1 ∧ ∀ k, k < i + 1 → 0 ≤ lcF (aW a) (aH a) (aC a) lo k ∧ 0 ≤ lrF (aW a) (aH a) (aR a) lo k) ∨ (x'.1 = 0 ∧ ∃ k, k < 5 ∧ (lcF (aW a) (aH a) (aC a) lo k < 0 ∨ lrF (aW a) (aH a) (aR a) lo k < 0)))) := fun u hu => by
        rw [gI_iv (by rw [LI_112]; omega) (by rw [LI_112]; omega), bind_s, gI_iv (by rw [LI_113]; omega) (by rw [LI_113]; omega), bind_s, hlc.1, hlr.1, iv_add, iv_add, iv_s1]
        exact ⟨(u, iv (sm (lcF (aW a) (aH a) (aC a) lo) i + lcF (aW a) (aH a) (aC a) lo i), iv (sm (lrF (aW a) (aH a) (aR a) lo) i + lrF (aW a) (aH a) (aR a) lo i)), w3, rfl, rfl, rfl, rfl, hu⟩
      rcases e4 with ⟨z, e5⟩ | ⟨z, e5⟩
      · have z' : v1 = 1 := z
        rw [z', if_neg (show ¬ (1 : Int32) = 0 by decide), gI_iv (k := 112) (by rw [LI_112]; omega) (by rw [LI_112]; omega), bind_s, hlc.1]
        by_cases y : lcF (aW a) (aH a) (aC a) lo i < 0
        · rw [if_pos (by rw [iv_0, iv_lt (by omega) (by omega)]; exact y), ← hlc.1]
          have := fin 0 (Or.inr ⟨rfl, i, hi', Or.inl y⟩)
          rw [gI_iv (k := 112) (by rw [LI_112]; omega) (by rw [LI_112]; omega), bind_s] at this
          exact this
        · rw [if_neg (by rw [iv_0, iv_lt (by omega) (by omega)]; exact y), gI_iv (k := 113) (by rw [LI_113]; omega) (by rw [LI_113]; omega), bind_s, hlr.1]
          by_cases y2 : lrF (aW a) (aH a) (aR a) lo i < 0
          · rw [if_pos (by rw [iv_0, iv_lt (by omega) (by omega)]; exact y2)]
            have := fin 0 (Or.inr ⟨rfl, i, hi', Or.inr y2⟩)
            rw [gI_iv (k := 112) (by rw [LI_112]; omega) (by rw [LI_112]; omega), bind_s, gI_iv (k := 113) (by rw [LI_113]; omega) (by rw [LI_113]; omega), bind_s, hlc.1, hlr.1] at this
            exact this
          · rw [if_neg (by rw [iv_0, iv_lt (by omega) (by omega)]; exact y2)]
            have := fin 1 (Or.inl ⟨rfl, fun k hk => by
              by_cases u : k = i
              · subst u; omega
              · exact e5 k (by omega)⟩)
            rw [gI_iv (k := 112) (by rw [LI_112]; omega) (by rw [LI_112]; omega), bind_s, gI_iv (k := 113) (by rw [LI_113]; omega) (by rw [LI_113]; omega), bind_s, hlc.1, hlr.1] at this
            exact this
      · have z' : v1 = 0 := z
        rw [z', if_pos rfl]
        exact fin 0 (Or.inr ⟨rfl, e5⟩)
    · rintro ⟨v1, v2, v3⟩ w3 k ⟨rfl, e2, e3, e4⟩
      have e2' : v2 = iv (sm (lcF (aW a) (aH a) (aC a) lo) 5) := e2
      have e3' : v3 = iv (sm (lrF (aW a) (aH a) (aR a) lo) 5) := e3
      have q1 := sb1 5 (by omega)
      have q2 := sb2 5 (by omega)
      show QQ (bX9_canSum_163 k v1 v2 v3 (iv ((5 : Nat) : Int)) w3)
      unfold bX9_canSum_163
      rw [e2', e3', if_pos (by decide)]
      rcases e4 with ⟨z, e5⟩ | ⟨z, e5⟩
      · have z' : v1 = 1 := z
        rw [z', if_neg (show ¬ (1 : Int32) = 0 by decide)]
        by_cases y : sm (lcF (aW a) (aH a) (aC a) lo) 5 = sm (lrF (aW a) (aH a) (aR a) lo) 5
        · rw [if_pos (by rw [y])]
          exact L4 lo 0 w3 h1 hb (fun x hx => (e5 x hx).1) (fun x hx => (e5 x hx).2) y h2
        · rw [if_neg (by rw [iv_eq (by omega) (by omega)]; exact y), ← out]
          refine ⟨0, w3, zr_0, h2, Or.inr ⟨rfl, fun hg => ?_⟩⟩
          obtain ⟨g, hg⟩ := hg
          have hg' := Fs_K.mp hg
          apply y
          rw [lc5, lr5, lh_all lo, ← sm_congr hg'.2.1, ← sm_congr hg'.2.2, lh_all g]
      · have z' : v1 = 0 := z
        obtain ⟨k0, k1, k2⟩ := e5
        rw [z', if_pos rfl, ← out]
        exact ⟨0, w3, zr_0, h2, Or.inr ⟨rfl, noN k0 k1 k2⟩⟩
  have L2 : ∀ w2, (∀ x, x < 5 → w2.1 112 x = iv (lcF (aW a) (aH a) (aC a) (fun _ => 0) x)) → (∀ y, y < 5 → w2.1 113 y = iv (lrF (aW a) (aH a) (aR a) (fun _ => 0) y)) → Kp mflow w w2 → QQ (lp (fun _ _ _ => none) bX9_canSum_65 G (1 : Int32) (0 : Int32) w2) := by
    intro w2 h1 h2 h3
    have st0 : stg lo (fun _ => 0) 0 = fun _ => 0 := funext fun c => if_neg (by omega)
    refine lpB (m := aN a) QQ (fun i v w3 => v = 1 ∧ (∀ c, c < i → w3.1 111 c = iv (lo c)) ∧ (∀ x, x < 5 → w3.1 112 x = iv (lcF (aW a) (aH a) (aC a) (stg lo (fun _ => 0) i) x)) ∧ (∀ y, y < 5 → w3.1 113 y = iv (lrF (aW a) (aH a) (aR a) (stg lo (fun _ => 0) i) y)) ∧ Kp mflow w w3) ?_ ?_ (hGn (by omega)) ⟨rfl, fun c h => by omega, by rw [st0]; exact h1, by rw [st0]; exact h2, h3⟩
    · rintro i v w3 k hi' ⟨rfl, q1, q2, q3, q4⟩
      left
      have hg3 : MW (aW a) (aH a) w3 := hm.1.kept (q4 99 (by unfold mflow; omega)).1
      have he3 : w3.1 109 i = iv (lo i) ∧ w3.1 110 i = iv (hi i) := by
        rw [(q4 109 (by unfold mflow; omega)).1, (q4 110 (by unfold mflow; omega)).1]; exact he i hi'
      obtain ⟨ce, ci, cj⟩ := cell_e (W := aW a) (H := aH a) hW1 hi'
      have ce' : eK (aW a) (i % aW a) (i / aW a) = i := ce
      have hyn : (0 : Int) ≤ ((i / aW a : Nat) : Int) := Int.natCast_nonneg _
      have hbi := hb i hi'
      have g0 : stg lo (fun _ => 0) i i = 0 := if_neg (by omega)
      have nx : ∀ x, x < 5 → lcF (aW a) (aH a) (aC a) (stg lo (fun _ => 0) (i + 1)) x = lcF (aW a) (aH a) (aC a) (stg lo (fun _ => 0) i) x - (if x = i % aW a then lo i else 0) := fun x hx => by
        unfold lcF
        by_cases y : x < aW a
        · have := lS_pu (f := stg lo (fun _ => 0) i) hE cj ci y (lo i)
          rw [ce', g0, ← stg_z] at this
          rw [if_pos y, if_pos y, this]
          by_cases u : x = i % aW a
          · rw [if_pos u, if_pos u]; omega
          · rw [if_neg u, if_neg u]; omega
        · rw [if_neg y, if_neg y, if_neg (by omega)]; rfl
      have ny : ∀ x, x < 5 → lrF (aW a) (aH a) (aR a) (stg lo (fun _ => 0) (i + 1)) x = lrF (aW a) (aH a) (aR a) (stg lo (fun _ => 0) i) x - (if x = i / aW a then lo i else 0) := fun x hx => by
        unfold lrF
        by_cases y : x < aH a
        · have := hS_pu (f := stg lo (fun _ => 0) i) hE cj ci y (lo i)
          rw [ce', g0, ← stg_z] at this
          rw [if_pos y, if_pos y, this]
          by_cases u : x = i / aW a
          · rw [if_pos u, if_pos u]; omega
          · rw [if_neg u, if_neg u]; omega
        · rw [if_neg y, if_neg y, if_neg (by omega)]; rfl
      unfold bX9_canSum_65 jX9_canSum_149
      rw [mcells_s hg3, bnd_s, if_neg (iv_Nle (by omega) hi'), gI_iv (by rw [LI_109]; omega) (by rw [LI_109]; omega), bind_s, sI_iv (by rw [LI_111]; omega) (by rw [LI_111]; omega), bind_s, uI_row (show 99 ≠ 111 by omega), hg3.2.2.2.2.1, rm_iv (by omega) (by omega) (by omega), bind_s, gI_iv (by rw [LI_112]; omega) (by rw [LI_112]; omega), bind_s, gI_iv (by rw [LI_109]; omega) (by rw [LI_109]; omega), bind_s, sI_iv (by rw [LI_112]; omega) (by rw [LI_112]; omega), bind_s, uI_row (show 99 ≠ 112 by omega), uI_row (show 99 ≠ 111 by omega), hg3.2.2.2.2.1, dv_iv (by omega) (by omega) (by omega), bind_s, gI_iv (by rw [LI_113]; omega) (by rw [LI_113]; omega), bind_s, gI_iv (by rw [LI_109]; omega) (by rw [LI_109]; omega), bind_s, sI_iv (by rw [LI_113]; omega) (by rw [LI_113]; omega), bind_s, if_neg (show ¬ (1 : Int32) = 0 by decide), gI_iv (by rw [LI_109]; omega) (by rw [LI_109]; omega), bind_s, gI_iv (by rw [LI_110]; omega) (by rw [LI_110]; omega), bind_s]
      simp only [uI_row (show (109 : Nat) ≠ 111 by omega), uI_row (show (109 : Nat) ≠ 112 by omega), uI_row (show (109 : Nat) ≠ 113 by omega), uI_row (show (110 : Nat) ≠ 111 by omega), uI_row (show (110 : Nat) ≠ 112 by omega), uI_row (show (110 : Nat) ≠ 113 by omega), uI_row (show (112 : Nat) ≠ 111 by omega), uI_row (show (113 : Nat) ≠ 111 by omega), uI_row (show (113 : Nat) ≠ 112 by omega), he3.1, he3.2, q2 (i % aW a) (by omega), q3 (i / aW a) (by omega), iv_sub]
      rw [if_neg (by rw [iv_lt (by omega) (by omega)]; omega), iv_s1]
      refine ⟨1, _, rfl, rfl, fun c hc => ?_, fun x hx => ?_, fun x hx => ?_, q4.trans ((Kp.uI (fun z => by unfold mflow at z; omega)).trans ((Kp.uI (fun z => by unfold mflow at z; omega)).trans (Kp.uI (fun z => by unfold mflow at z; omega))))⟩
      · rw [uI_row (by omega), uI_row (by omega)]
        by_cases u : c = i
        · subst u; rw [uI_same]
        · rw [uI_other (Or.inr u)]; exact q1 c (by omega)
      · rw [uI_row (by omega), nx x hx]
        by_cases u : x = i % aW a
        · rw [if_pos u, u, uI_same]
        · rw [if_neg u, uI_other (Or.inr u), uI_row (by omega), Int.sub_zero]; exact q2 x hx
      · rw [ny x hx]
        by_cases u : x = i / aW a
        · rw [if_pos u, u, uI_same]
        · rw [if_neg u, uI_other (Or.inr u), uI_row (by omega), uI_row (by omega), Int.sub_zero]; exact q3 x hx
    · rintro v w3 k ⟨rfl, q1, q2, q3, q4⟩
      have hg3 : MW (aW a) (aH a) w3 := hm.1.kept (q4 99 (by unfold mflow; omega)).1
      have hb4 := bnd4 lo4
      have cgl : ∀ x, x < aW a → lS (aH a) (eK (aW a)) (stg lo (fun _ => 0) (aN a)) x = lS (aH a) (eK (aW a)) lo x := fun x hx => sm_congr (fun j hj => if_pos (hE.2.2.1 x j hx hj))
      have cgh : ∀ y, y < aH a → hS (aW a) (eK (aW a)) (stg lo (fun _ => 0) (aN a)) y = hS (aW a) (eK (aW a)) lo y := fun y hy => sm_congr (fun i hi' => if_pos (hE.2.2.1 i y hi' hy))
      have e1 : ∀ x, lcF (aW a) (aH a) (aC a) (stg lo (fun _ => 0) (aN a)) x = lcF (aW a) (aH a) (aC a) lo x := fun x => by
        unfold lcF
        by_cases y : x < aW a
        · rw [if_pos y, if_pos y, cgl x y]
        · rw [if_neg y, if_neg y]
      have e2 : ∀ x, lrF (aW a) (aH a) (aR a) (stg lo (fun _ => 0) (aN a)) x = lrF (aW a) (aH a) (aR a) lo x := fun x => by
        unfold lrF
        by_cases y : x < aH a
        · rw [if_pos y, if_pos y, cgh x y]
        · rw [if_neg y, if_neg y]
      unfold bX9_canSum_65
      rw [mcells_s hg3, bnd_s, if_pos iv_Nle']
      refine L3 w3 ⟨fun c hc => ⟨?_, ?_, q1 c hc⟩, fun x hx => ⟨by rw [q2 x hx, e1], (hb4.1 x hx).1, by have := hb4.1 x hx; omega⟩, fun y hy => ⟨by rw [q3 y hy, e2], (hb4.2 y hy).1, by have := hb4.2 y hy; omega⟩⟩ q4
      · rw [(q4 109 (by unfold mflow; omega)).1]; exact (he c hc).1
      · rw [(q4 110 (by unfold mflow; omega)).1]; exact (he c hc).2
  have z0 : ∀ x, lS (aH a) (eK (aW a)) (fun _ => 0) x = 0 := fun x => sm_zero _
  have z1 : ∀ x, hS (aW a) (eK (aW a)) (fun _ => 0) x = 0 := fun x => sm_zero _
  have c0 : ∀ x, lcF (aW a) (aH a) (aC a) (fun _ => 0) x = if x < aW a then aC a x else 0 := fun x => by
    unfold lcF; rw [z0, Int.sub_zero]
  have r0 : ∀ x, lrF (aW a) (aH a) (aR a) (fun _ => 0) x = if x < aH a then aR a x else 0 := fun x => by
    unfold lrF; rw [z1, Int.sub_zero]
  unfold fX9_canSum
  refine lpA (m := 5) QQ (fun i w3 => (∀ x, x < i → w3.1 112 x = iv (lcF (aW a) (aH a) (aC a) (fun _ => 0) x)) ∧ (∀ y, y < i → w3.1 113 y = iv (lrF (aW a) (aH a) (aR a) (fun _ => 0) y)) ∧ Kp mflow w w3) ?_ ?_ (hGn (by omega)) ⟨fun x h => by omega, fun y h => by omega, Kp.rf⟩
  · rintro i w3 k hi' ⟨q1, q2, q4⟩
    left
    have hg3 : MW (aW a) (aH a) w3 := hm.1.kept (q4 99 (by unfold mflow; omega)).1
    have h103 : ∀ x, x < aW a → w3.1 104 x = iv (aC a x) := fun x hx => by
      rw [(q4 104 (by unfold mflow; omega)).1]; exact hm.2.2.2.2.2.1 x hx
    have h104 : ∀ x, x < aH a → w3.1 105 x = iv (aR a x) := fun x hx => by
      rw [(q4 105 (by unfold mflow; omega)).1]; exact hm.2.2.2.2.2.2.1 x hx
    have two : ∀ x y : Int, x = lcF (aW a) (aH a) (aC a) (fun _ => 0) i → y = lrF (aW a) (aH a) (aR a) (fun _ => 0) i → ∃ w', k (iv ((i + 1 : Nat) : Int)) (uI (uI w3 112 i (iv x)) 113 i (iv y)) = k (iv ((i + 1 : Nat) : Int)) w' ∧ (∀ x, x < i + 1 → w'.1 112 x = iv (lcF (aW a) (aH a) (aC a) (fun _ => 0) x)) ∧ (∀ y, y < i + 1 → w'.1 113 y = iv (lrF (aW a) (aH a) (aR a) (fun _ => 0) y)) ∧ Kp mflow w w' := fun x y hx hy => by
      refine ⟨_, rfl, fun j hj => ?_, fun j hj => ?_, q4.trans ((Kp.uI (fun z => by unfold mflow at z; omega)).trans (Kp.uI (fun z => by unfold mflow at z; omega)))⟩
      · rw [uI_row (by omega)]
        by_cases u : j = i
        · subst u; rw [uI_same, hx]
        · rw [uI_other (Or.inr u)]; exact q1 j (by omega)
      · by_cases u : j = i
        · subst u; rw [uI_same, hy]
        · rw [uI_other (Or.inr u), uI_row (by omega)]; exact q2 j (by omega)
    have second : ∀ x : Int, x = lcF (aW a) (aH a) (aC a) (fun _ => 0) i → ∃ w', jX9_canSum_30 k (iv i) (iv x) (iv i) w3 = k (iv ((i + 1 : Nat) : Int)) w' ∧ (∀ x, x < i + 1 → w'.1 112 x = iv (lcF (aW a) (aH a) (aC a) (fun _ => 0) x)) ∧ (∀ y, y < i + 1 → w'.1 113 y = iv (lrF (aW a) (aH a) (aR a) (fun _ => 0) y)) ∧ Kp mflow w w' := fun x hx => by
      unfold jX9_canSum_30 jX9_canSum_54
      rw [sI_iv (by rw [LI_112]; omega) (by rw [LI_112]; omega), bind_s, uI_row (show 99 ≠ 112 by omega), hg3.2.2.2.2.2]
      by_cases y : aH a ≤ i
      · rw [if_pos (by rw [iv_le (by omega) (by omega)]; omega), iv_0, sI_iv (by rw [LI_113]; omega) (by rw [LI_113]; omega), bind_s, iv_s1]
        exact two x 0 hx (by rw [r0, if_neg (by omega)])
      · rw [if_neg (by rw [iv_le (by omega) (by omega)]; omega), gI_iv (by rw [LI_105]; omega) (by rw [LI_105]; omega), bind_s, uI_row (by omega), h104 i (by omega), sI_iv (by rw [LI_113]; omega) (by rw [LI_113]; omega), bind_s, iv_s1]
        exact two x (aR a i) hx (by rw [r0, if_pos (by omega)])
    unfold bX9_canSum_2
    rw [if_neg (by rw [iv_5, iv_le (by omega) (by omega)]; omega), hg3.2.2.2.2.1]
    by_cases y : aW a ≤ i
    · rw [if_pos (by rw [iv_le (by omega) (by omega)]; omega), iv_0]
      exact second 0 (by rw [c0, if_neg (by omega)])
    · rw [if_neg (by rw [iv_le (by omega) (by omega)]; omega), gI_iv (by rw [LI_104]; omega) (by rw [LI_104]; omega), bind_s, h103 i (by omega)]
      exact second (aC a i) (by rw [c0, if_pos (by omega)])
  · rintro w3 k ⟨q1, q2, q4⟩
    unfold bX9_canSum_2
    rw [if_pos (by decide)]
    exact L2 w3 q1 q2 q4
end MSUM2
