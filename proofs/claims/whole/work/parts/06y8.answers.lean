/-! ===== sums: the model's answers, and the three steps ===== -/
def mends (k : Nat) : Prop := k < 109 ∨ 114 < k
section MSUM3
variable {a : Ab} {w : Wd} {lo hi : Nat → Int}
theorem MS.me {w1 : Wd} (hm : MS a w) (hk : Kp mends w w1) : MS a w1 := hm.kept (hk.weak fun k z => by unfold stM at z; unfold mends; omega)
theorem layEnds_s (ha : AbOK a) (hm : MS a w) : ∃ w1, fX9_layEnds w = some ((), w1) ∧ ME a (lo0 (aT a)) (hi0 (aT a)) w1 ∧ Kp mends w w1 := by
  have hN := aN_le ha
  unfold fX9_layEnds
  refine lpA (m := aN a) (fun r => ∃ w1, r = some ((), w1) ∧ ME a (lo0 (aT a)) (hi0 (aT a)) w1 ∧ Kp mends w w1) (fun i w' => (∀ c, c < i → w'.1 109 c = iv (lo0 (aT a) c) ∧ w'.1 110 c = iv (hi0 (aT a) c)) ∧ Kp mends w w') ?_ ?_ (hGn (by omega)) ⟨fun c h => by omega, Kp.rf⟩
  · rintro i w' k hi' ⟨h1, h2⟩
    left
    have hm' := hm.me h2
    have hT := ha.2.2.2.2.1 i hi'
    have h102 : w'.1 103 i = iv (aT a i) := hm'.2.2.2.2.1 i hi'
    unfold bX9_layEnds_2 jX9_layEnds_30 jX9_layEnds_50
    rw [mcells_a hm', bnd_s, if_neg (iv_Nle (by omega) hi'), gI_iv (by rw [LI_103]; omega) (by rw [LI_103]; omega), bind_s, h102]
    have go : ∀ x y : Int, lo0 (aT a) i = x → hi0 (aT a) i = y → ∃ w'', ((sI (uI w' 109 i (iv x)) 110 (iv i) (iv y)).bind fun w6 => k (iv i + (1 : Int32)) w6) = k (iv ((i + 1 : Nat) : Int)) w'' ∧ (∀ c, c < i + 1 → w''.1 109 c = iv (lo0 (aT a) c) ∧ w''.1 110 c = iv (hi0 (aT a) c)) ∧ Kp mends w w'' := by
      intro x y hx hy
      refine ⟨uI (uI w' 109 i (iv x)) 110 i (iv y), ?_, fun c hc => ?_, h2.trans ((Kp.uI (fun z => by unfold mends at z; omega)).trans (Kp.uI (fun z => by unfold mends at z; omega)))⟩
      · rw [sI_iv (by rw [LI_110]; omega) (by rw [LI_110]; omega), bind_s, iv_s1]
      · by_cases z : c = i
        · subst z
          exact ⟨by rw [uI_row (by omega), uI_same, hx], by rw [uI_same, hy]⟩
        · have := h1 c (by omega)
          exact ⟨by rw [uI_row (by omega), uI_other (Or.inr z)]; exact this.1, by rw [uI_other (Or.inr z), uI_row (by omega)]; exact this.2⟩
    unfold lo0 hi0 at go
    rcases hT with hT | hT | hT
    · rw [if_neg (by rw [hT]; decide), iv_0, sI_iv (by rw [LI_109]; omega) (by rw [LI_109]; omega), bind_s, gI_iv (by rw [LI_103]; omega) (by rw [LI_103]; omega), bind_s, uI_row (by omega), h102, if_neg (by rw [hT]; decide), iv_4]
      exact go 0 4 (if_neg (by omega)) (if_neg (by omega))
    · rw [if_neg (by rw [hT]; decide), iv_0, sI_iv (by rw [LI_109]; omega) (by rw [LI_109]; omega), bind_s, gI_iv (by rw [LI_103]; omega) (by rw [LI_103]; omega), bind_s, uI_row (by omega), h102, if_pos (by rw [hT])]
      exact go 0 0 (if_neg (by omega)) (if_pos hT)
    · rw [if_pos (by rw [hT]; decide), iv_1, sI_iv (by rw [LI_109]; omega) (by rw [LI_109]; omega), bind_s, gI_iv (by rw [LI_103]; omega) (by rw [LI_103]; omega), bind_s, uI_row (by omega), h102, if_neg (by rw [hT]; decide), iv_4, ← iv_1]
      rw [iv_1]
      exact go 1 4 (if_pos hT) (if_neg (by omega))
  · rintro w' k ⟨h1, h2⟩
    unfold bX9_layEnds_2
    rw [mcells_a (hm.me h2), bnd_s, if_pos iv_Nle']
    exact ⟨w', rfl, h1, h2⟩
theorem Fs_fix {W H : Nat} {C R lo hi g : Nat → Int} {c : Nat} {v : Int} (hc : c < W * H) (h1 : lo c ≤ v) (h2 : v ≤ hi c) : Fs W H C R (pu lo c v) (pu hi c v) g ↔ (Fs W H C R lo hi g ∧ g c = v) := by
  constructor
  · intro h
    have hv : g c = v := by
      have := h.1 c hc
      rw [pu_at, pu_at] at this; omega
    refine ⟨⟨fun k hk => ?_, h.2⟩, hv⟩
    by_cases z : k = c
    · subst z; omega
    · have := h.1 k hk
      rw [pu_ne z, pu_ne z] at this; exact this
  · rintro ⟨h, rfl⟩
    exact h.fix c
/-- the end of a cell's span -/
theorem endOf_s (ha : AbOK a) (hm : MS a w) (he : ME a lo hi w) (hb : BH (aN a) lo hi lo) {c : Nat} (hc : c < aN a) (T : Int32) : ∃ x w1, fX9_endOf (iv c) T w = some (x, w1) ∧ Kp mends w w1 ∧ ME a lo hi w1 ∧ ((x = -9 ∧ ¬ ∃ g, Fs (aW a) (aH a) (aC a) (aR a) lo hi g) ∨ (∃ f, x = iv (f c) ∧ Fs (aW a) (aH a) (aC a) (aR a) lo hi f ∧ EX (aW a) (aH a) (aC a) (aR a) lo hi (if T = 0 then -1 else 1) c f)) := by
  have hN := aN_le ha
  have hbc := hb c hc
  have hec := he c hc
  unfold fX9_endOf
  rw [gI_iv (by rw [LI_109]; omega) (by rw [LI_109]; omega), bind_s, gI_iv (by rw [LI_110]; omega) (by rw [LI_110]; omega), bind_s, hec.1, hec.2]
  have ex : ∀ (x : Int32) (w2 : Wd), Kp mends w w2 → (∀ k, k < aN a → k ≠ c → w2.1 109 k = iv (lo k) ∧ w2.1 110 k = iv (hi k)) → ((x = -9 ∧ ¬ ∃ g, Fs (aW a) (aH a) (aC a) (aR a) lo hi g) ∨ (∃ f, x = iv (f c) ∧ Fs (aW a) (aH a) (aC a) (aR a) lo hi f ∧ EX (aW a) (aH a) (aC a) (aR a) lo hi (if T = 0 then -1 else 1) c f)) → ∃ x' w1, jX9_endOf_92 (iv c) T (iv (lo c)) (iv (hi c)) x w2 = some (x', w1) ∧ Kp mends w w1 ∧ ME a lo hi w1 ∧ ((x' = -9 ∧ ¬ ∃ g, Fs (aW a) (aH a) (aC a) (aR a) lo hi g) ∨ (∃ f, x' = iv (f c) ∧ Fs (aW a) (aH a) (aC a) (aR a) lo hi f ∧ EX (aW a) (aH a) (aC a) (aR a) lo hi (if T = 0 then -1 else 1) c f)) := by
    intro x w2 k1 k2 k3
    refine ⟨x, uI (uI w2 109 c (iv (lo c))) 110 c (iv (hi c)), ?_, k1.trans ((Kp.uI (fun z => by unfold mends at z; omega)).trans (Kp.uI (fun z => by unfold mends at z; omega))), fun k hk => ?_, k3⟩
    · unfold jX9_endOf_92
      rw [sI_iv (by rw [LI_109]; omega) (by rw [LI_109]; omega), bind_s, sI_iv (by rw [LI_110]; omega) (by rw [LI_110]; omega), bind_s]
    · by_cases z : k = c
      · subst z
        exact ⟨by rw [uI_row (by omega), uI_same], uI_same⟩
      · have := k2 k hk z
        exact ⟨by rw [uI_row (by omega), uI_other (Or.inr z)]; exact this.1, by rw [uI_other (Or.inr z), uI_row (by omega)]; exact this.2⟩
  refine lpG (fun (F : Int32 → Int32 → Int32 → Int32 → Wd → Option (Int32 × Wd)) (s : Int32 × Int32 × Wd) => F (iv (lo c)) (iv (hi c)) s.1 s.2.1 s.2.2) (fun r => ∃ x' w1, r = some (x', w1) ∧ Kp mends w w1 ∧ ME a lo hi w1 ∧ ((x' = -9 ∧ ¬ ∃ g, Fs (aW a) (aH a) (aC a) (aR a) lo hi g) ∨ (∃ f, x' = iv (f c) ∧ Fs (aW a) (aH a) (aC a) (aR a) lo hi f ∧ EX (aW a) (aH a) (aC a) (aR a) lo hi (if T = 0 then -1 else 1) c f))) (fun mm s => ∃ k : Int, lo c ≤ k ∧ k ≤ hi c + 1 ∧ s.2.1 = iv k ∧ mm = (hi c + 1 - k).toNat ∧ Kp mends w s.2.2 ∧ (∀ k, k < aN a → k ≠ c → s.2.2.1 109 k = iv (lo k) ∧ s.2.2.1 110 k = iv (hi k)) ∧ ((s.1 = -9 ∧ ∀ g, Fs (aW a) (aH a) (aC a) (aR a) lo hi g → (T = 0 → k ≤ g c) ∧ (¬ T = 0 → g c ≤ hi c + lo c - k)) ∨ (∃ f, s.1 = iv (f c) ∧ Fs (aW a) (aH a) (aC a) (aR a) lo hi f ∧ EX (aW a) (aH a) (aC a) (aR a) lo hi (if T = 0 then -1 else 1) c f))) ?_ G (hi c + 1 - lo c).toNat ((-9 : Int32), iv (lo c), w) (hGn (by omega)) ⟨lo c, by omega, by omega, rfl, rfl, Kp.rf, fun k hk _ => he k hk, Or.inl ⟨rfl, fun g hg => by have := hg.1 c hc; exact ⟨fun _ => this.1, fun _ => by omega⟩⟩⟩
  rintro mm ⟨v5, v6, w2⟩ k ⟨q, h1, h2, rfl, rfl, h3, h4, h5⟩
  show (∃ (s' : Int32 × Int32 × Wd) (m' : Nat), m' < (hi c + 1 - q).toNat ∧ bX9_endOf_22 (iv c) T k (iv (lo c)) (iv (hi c)) v5 (iv q) w2 = k (iv (lo c)) (iv (hi c)) s'.1 s'.2.1 s'.2.2 ∧ _) ∨ (∃ x' w1, bX9_endOf_22 (iv c) T k (iv (lo c)) (iv (hi c)) v5 (iv q) w2 = some (x', w1) ∧ _)
  unfold bX9_endOf_22
  rcases h5 with ⟨z, h5⟩ | ⟨f, z, h5, h6⟩
  · have z' : v5 = -9 := z
    by_cases y : hi c < q
    · right
      rw [if_pos (by rw [iv_lt (by omega) (by omega)]; exact y), z']
      refine ex _ w2 h3 h4 (Or.inl ⟨rfl, fun hg => ?_⟩)
      obtain ⟨g, hg⟩ := hg
      have e1 := h5 g hg
      have e2 := hg.1 c hc
      by_cases t : T = 0
      · have := e1.1 t; omega
      · have := e1.2 t; omega
    · left
      rw [if_neg (by rw [iv_lt (by omega) (by omega)]; exact y), if_pos z']
      -- one height is tried
      have go : ∀ v : Int, lo c ≤ v → v ≤ hi c → (T = 0 → v = q) → (¬ T = 0 → v = hi c + lo c - q) → ∃ (s' : Int32 × Int32 × Wd) (m' : Nat), m' < (hi c + 1 - q).toNat ∧ jX9_endOf_52 (iv c) T k (iv (lo c)) (iv (hi c)) (iv q) (iv v) w2 = k (iv (lo c)) (iv (hi c)) s'.1 s'.2.1 s'.2.2 ∧ ∃ k : Int, lo c ≤ k ∧ k ≤ hi c + 1 ∧ s'.2.1 = iv k ∧ m' = (hi c + 1 - k).toNat ∧ Kp mends w s'.2.2 ∧ (∀ k, k < aN a → k ≠ c → s'.2.2.1 109 k = iv (lo k) ∧ s'.2.2.1 110 k = iv (hi k)) ∧ ((s'.1 = -9 ∧ ∀ g, Fs (aW a) (aH a) (aC a) (aR a) lo hi g → (T = 0 → k ≤ g c) ∧ (¬ T = 0 → g c ≤ hi c + lo c - k)) ∨ (∃ f, s'.1 = iv (f c) ∧ Fs (aW a) (aH a) (aC a) (aR a) lo hi f ∧ EX (aW a) (aH a) (aC a) (aR a) lo hi (if T = 0 then -1 else 1) c f)) := by
        intro v v1 v2 v3 v4
        have k3 : Kp mends w (uI (uI w2 109 c (iv v)) 110 c (iv v)) := h3.trans ((Kp.uI (fun z => by unfold mends at z; omega)).trans (Kp.uI (fun z => by unfold mends at z; omega)))
        have hm3 := hm.me k3
        have he3 : ME a (pu lo c v) (pu hi c v) (uI (uI w2 109 c (iv v)) 110 c (iv v)) := fun k hk => by
          by_cases u : k = c
          · subst u
            rw [pu_at, pu_at]
            exact ⟨by rw [uI_row (by omega), uI_same], uI_same⟩
          · have := h4 k hk u
            rw [pu_ne u, pu_ne u]
            exact ⟨by rw [uI_row (by omega), uI_other (Or.inr u)]; exact this.1, by rw [uI_other (Or.inr u), uI_row (by omega)]; exact this.2⟩
        have hb3 : BH (aN a) (pu lo c v) (pu hi c v) (pu lo c v) := fun k hk => by
          have := hb k hk
          by_cases u : k = c
          · subst u; rw [pu_at, pu_at]; omega
          · rw [pu_ne u, pu_ne u]; exact this
        obtain ⟨x, w4, c1, c2, c3⟩ := canSum_s ha hm3 he3 hb3
        have k4 : Kp mends w w4 := k3.trans (c2.weak fun k z => by unfold mends at z; unfold mflow; omega)
        have e4 : ∀ k, k < aN a → k ≠ c → w4.1 109 k = iv (lo k) ∧ w4.1 110 k = iv (hi k) := fun k hk u => by
          rw [(c2 109 (by unfold mflow; omega)).1, (c2 110 (by unfold mflow; omega)).1]
          have := he3 k hk
          rw [pu_ne u, pu_ne u] at this; exact this
        unfold jX9_endOf_52 jX9_endOf_84
        rw [sI_iv (by rw [LI_109]; omega) (by rw [LI_109]; omega), bind_s, sI_iv (by rw [LI_110]; omega) (by rw [LI_110]; omega), bind_s, c1, bnd_s]
        rcases c3 with ⟨rfl, g, hg⟩ | ⟨rfl, hno⟩
        · obtain ⟨g1, g2⟩ := (Fs_fix hc v1 v2).mp hg
          rw [if_neg (by decide), iv_1, iv_add]
          refine ⟨(iv v, iv (q + 1), w4), (hi c + 1 - (q + 1)).toNat, by omega, rfl, q + 1, by omega, by omega, rfl, rfl, k4, e4, Or.inr ⟨g, by rw [g2], g1, fun g' hg' => ?_⟩⟩
          have := h5 g' hg'
          by_cases t : T = 0
          · rw [if_pos t]
            have := this.1 t
            have := v3 t
            exact ⟨fun z => by omega, fun _ => by omega⟩
          · rw [if_neg t]
            have := this.2 t
            have := v4 t
            exact ⟨fun _ => by omega, fun z => by omega⟩
        · rw [if_pos rfl, iv_1, iv_add]
          refine ⟨((-9 : Int32), iv (q + 1), w4), (hi c + 1 - (q + 1)).toNat, by omega, rfl, q + 1, by omega, by omega, rfl, rfl, k4, e4, Or.inl ⟨rfl, fun g' hg' => ?_⟩⟩
          have h6 := h5 g' hg'
          have hne : g' c ≠ v := fun u => hno ⟨g', (Fs_fix hc v1 v2).mpr ⟨hg', u⟩⟩
          refine ⟨fun t => ?_, fun t => ?_⟩
          · have := h6.1 t
            have := v3 t
            omega
          · have := h6.2 t
            have := v4 t
            omega
      by_cases t : T = 0
      · rw [if_pos t]
        exact go q h1 (by omega) (fun _ => rfl) (fun u => absurd t u)
      · rw [if_neg t, iv_add, iv_sub]
        exact go (hi c + lo c - q) (by omega) (by omega) (fun u => absurd u t) (fun _ => rfl)
  · right
    have z' : v5 = iv (f c) := z
    have hfc := h5.1 c hc
    have hne : ¬ v5 = -9 := by
      rw [z', iv_m9]
      intro u
      rw [iv_eq (by omega) (by omega)] at u; omega
    by_cases y : hi c < q
    · rw [if_pos (by rw [iv_lt (by omega) (by omega)]; exact y), z']
      exact ex _ w2 h3 h4 (Or.inr ⟨f, rfl, h5, h6⟩)
    · rw [if_neg (by rw [iv_lt (by omega) (by omega)]; exact y), if_neg hne, z']
      exact ex _ w2 h3 h4 (Or.inr ⟨f, rfl, h5, h6⟩)
theorem BH0 (T : Nat → Int) (N : Nat) : BH N (lo0 T) (hi0 T) (lo0 T) := fun c _ => by have := lohi0 (T := T) c; omega
theorem mbySums_s (ha : AbOK a) (hm : MS a w) : ∃ x w1, fX9_bySums w = some (x, w1) ∧ Kp mends w w1 ∧ Ans a x := by
  have hN := aN_le ha
  obtain ⟨wa, a1, a2, a3⟩ := layEnds_s ha hm
  have hma := hm.me a3
  obtain ⟨x, wb, b1, b2, b3⟩ := canSum_s ha hma a2 (BH0 _ _)
  have kb : Kp mends w wb := a3.trans (b2.weak fun k z => by unfold mends at z; unfold mflow; omega)
  have eb : ME a (lo0 (aT a)) (hi0 (aT a)) wb := fun c hc => by
    rw [(b2 109 (by unfold mflow; omega)).1, (b2 110 (by unfold mflow; omega)).1]; exact a2 c hc
  unfold fX9_bySums
  rw [a1, bnd_s, b1, bnd_s]
  rcases b3 with ⟨rfl, f0, hf0⟩ | ⟨rfl, hno⟩
  · rw [if_neg (by decide)]
    refine lpB (m := aN a) (fun r => ∃ x w1, r = some (x, w1) ∧ Kp mends w w1 ∧ Ans a x) (fun i v w' => Kp mends w w' ∧ ME a (lo0 (aT a)) (hi0 (aT a)) w' ∧ ((v = 1 ∧ ∀ c, c < i → ∀ g, Fs (aW a) (aH a) (aC a) (aR a) (lo0 (aT a)) (hi0 (aT a)) g → g c = f0 c) ∨ (v = 0 ∧ ∃ f g c, Fs (aW a) (aH a) (aC a) (aR a) (lo0 (aT a)) (hi0 (aT a)) f ∧ Fs (aW a) (aH a) (aC a) (aR a) (lo0 (aT a)) (hi0 (aT a)) g ∧ c < aN a ∧ f c ≠ g c))) ?_ ?_ (hGn (by omega)) ⟨kb, eb, Or.inl ⟨rfl, fun c h => by omega⟩⟩
    · rintro i v w' k hi' ⟨c1, c2, c3⟩
      have hm' := hm.me c1
      unfold bX9_bySums_17 jX9_bySums_56 jX9_bySums_49
      rw [mcells_a hm', bnd_s, if_neg (iv_Nle (by omega) hi')]
      rcases c3 with ⟨rfl, c4⟩ | ⟨rfl, c4⟩
      · left
        obtain ⟨x1, w1, d1, d2, d3, d4⟩ := endOf_s ha hm' c2 (BH0 _ _) hi' 0
        have hm1 := hm'.me d2
        obtain ⟨x2, w2, e1, e2, e3, e4⟩ := endOf_s ha hm1 d3 (BH0 _ _) hi' 1
        rw [if_neg (show ¬ (1 : Int32) = 0 by decide), d1, bnd_s, e1, bnd_s, iv_s1]
        rcases d4 with ⟨_, d5⟩ | ⟨f1, rfl, d5, d6⟩
        · exact absurd ⟨f0, hf0⟩ d5
        rcases e4 with ⟨_, e5⟩ | ⟨f2, rfl, e5, e6⟩
        · exact absurd ⟨f0, hf0⟩ e5
        rw [if_pos rfl] at d6
        rw [if_neg (by decide)] at e6
        have p1 := d5.BH (BL0 _ _) i hi'
        have p2 := e5.BH (BL0 _ _) i hi'
        by_cases z : f1 i = f2 i
        · rw [if_pos (by rw [z])]
          refine ⟨1, w2, rfl, c1.trans (d2.trans e2), e3, Or.inl ⟨rfl, fun c hc g hg => ?_⟩⟩
          by_cases u : c = i
          · subst u
            have := (d6 g hg).2 rfl
            have := (e6 g hg).1 rfl
            have := (d6 f0 hf0).2 rfl
            have := (e6 f0 hf0).1 rfl
            omega
          · exact c4 c (by omega) g hg
        · rw [if_neg (by rw [iv_eq (by omega) (by omega)]; exact z)]
          exact ⟨0, w2, rfl, c1.trans (d2.trans e2), e3, Or.inr ⟨rfl, f1, f2, i, d5, e5, hi', z⟩⟩
      · right
        rw [if_pos rfl, if_pos rfl]
        exact ⟨2, w', rfl, c1, Or.inr (Or.inr ⟨rfl, c4⟩)⟩
    · rintro v w' k ⟨c1, c2, c3⟩
      have hm' := hm.me c1
      unfold bX9_bySums_17 jX9_bySums_56
      rw [mcells_a hm', bnd_s, if_pos iv_Nle']
      rcases c3 with ⟨rfl, c4⟩ | ⟨rfl, c4⟩
      · rw [if_neg (by decide)]
        exact ⟨1, w', rfl, c1, Or.inr (Or.inl ⟨rfl, f0, hf0, fun g hg c hc => c4 c hc g hg⟩)⟩
      · rw [if_pos rfl]
        exact ⟨2, w', rfl, c1, Or.inr (Or.inr ⟨rfl, c4⟩)⟩
  · rw [if_pos rfl]
    exact ⟨0, wb, rfl, kb, Or.inl ⟨rfl, hno⟩⟩
theorem mlaySums_s (ha : AbOK a) (hm : MS a w) {s : Nat} (hs : s < 4) : ∃ w1, Kp cR w w1 ∧ ((fX9_laySums (iv s) w = some (-3, w1) ∧ MS a w1 ∧ ¬ ∃ g, Fs (aW a) (aH a) (aC a) (aR a) (lo0 (aT a)) (hi0 (aT a)) g) ∨ (∃ L, fX9_laySums (iv s) w = some (iv (sm L (aN a)), w1) ∧ (∃ g, Fs (aW a) (aH a) (aC a) (aR a) (lo0 (aT a)) (hi0 (aT a)) g) ∧ LXF (aW a) (aH a) (aC a) (aR a) (lo0 (aT a)) (hi0 (aT a)) L (aN a) ∧ (∀ c, c < aN a → Hgt (L c)) ∧ MS (aSlot a s L) w1)) := by
  have hN := aN_le ha
  obtain ⟨wa, a1, a2, a3⟩ := layEnds_s ha hm
  have hma := hm.me a3
  obtain ⟨x, wb, b1, b2, b3⟩ := canSum_s ha hma a2 (BH0 _ _)
  have kb : Kp mends w wb := a3.trans (b2.weak fun k z => by unfold mends at z; unfold mflow; omega)
  have eb : ME a (lo0 (aT a)) (hi0 (aT a)) wb := fun c hc => by
    rw [(b2 109 (by unfold mflow; omega)).1, (b2 110 (by unfold mflow; omega)).1]; exact a2 c hc
  unfold fX9_laySums
  rw [isSlot_g hs, bnd_s, if_neg (by decide), a1, bnd_s, b1, bnd_s]
  rcases b3 with ⟨rfl, f0, hf0⟩ | ⟨rfl, hno⟩
  · rw [if_neg (by decide)]
    have st0 : ∀ lo, stg (fun _ => 0) lo 0 = lo := fun lo => funext fun c => if_neg (by omega)
    have bhs : ∀ L i, (∀ c, c < i → 0 ≤ L c ∧ L c ≤ 4) → BH (aN a) (stg L (lo0 (aT a)) i) (stg L (hi0 (aT a)) i) (stg L (lo0 (aT a)) i) := fun L i h c _ => by
      unfold stg
      by_cases z : c < i
      · have := h c z
        rw [if_pos z, if_pos z]; omega
      · have := lohi0 (T := aT a) c
        rw [if_neg z, if_neg z]; omega
    have bls : ∀ L i, (∀ c, c < i → 0 ≤ L c ∧ L c ≤ 4) → BL (aN a) (stg L (lo0 (aT a)) i) (stg L (hi0 (aT a)) i) := fun L i h c hc => by
      have := bhs L i h c hc
      exact ⟨this.1, this.2.2.2⟩
    refine lpA (m := aN a) (fun r => ∃ w1, Kp cR w w1 ∧ ((r = some (-3, w1) ∧ MS a w1 ∧ ¬ ∃ g, Fs (aW a) (aH a) (aC a) (aR a) (lo0 (aT a)) (hi0 (aT a)) g) ∨ (∃ L, r = some (iv (sm L (aN a)), w1) ∧ (∃ g, Fs (aW a) (aH a) (aC a) (aR a) (lo0 (aT a)) (hi0 (aT a)) g) ∧ LXF (aW a) (aH a) (aC a) (aR a) (lo0 (aT a)) (hi0 (aT a)) L (aN a) ∧ (∀ c, c < aN a → Hgt (L c)) ∧ MS (aSlot a s L) w1))) (fun i w' => ∃ L, LXF (aW a) (aH a) (aC a) (aR a) (lo0 (aT a)) (hi0 (aT a)) L i ∧ (∀ c, c < i → 0 ≤ L c ∧ L c ≤ 4) ∧ ME a (stg L (lo0 (aT a)) i) (stg L (hi0 (aT a)) i) w' ∧ (∃ f, Fs (aW a) (aH a) (aC a) (aR a) (stg L (lo0 (aT a)) i) (stg L (hi0 (aT a)) i) f) ∧ (∀ c, c < i → w'.1 100 (25 * s + c) = iv (L c)) ∧ (∀ s', s' < 4 → s' ≠ s → ∀ c, c < aN a → w'.1 100 (25 * s' + c) = w.1 100 (25 * s' + c)) ∧ (∀ c, i ≤ c → c < aN a → w'.1 100 (25 * s + c) = w.1 100 (25 * s + c)) ∧ Kp (fun k => mends k ∧ k ≠ 100) w w') ?_ ?_ (hGn (by omega)) ⟨fun _ => 0, fun c h => by omega, fun c h => by omega, by rw [st0, st0]; exact eb, by rw [st0, st0]; exact ⟨f0, hf0⟩, fun c h => by omega, fun s' _ _ c _ => by rw [(kb 100 (by unfold mends; omega)).1], fun c _ _ => by rw [(kb 100 (by unfold mends; omega)).1], kb.weak fun k z => z.1⟩
    · rintro i w' k hi' ⟨L, c1, c2, c3, ⟨fx, c4⟩, c5, c6, c7, c8⟩
      left
      have hm' : MS (aSlot a s (fun c => if c < i then L c else aP a s c)) w' := hm.slotset (c8.weak fun k z => ⟨by unfold mends; unfold stM at z; omega, z.2⟩) (fun c hc => by
        show w'.1 100 (25 * s + c) = iv (if c < i then L c else aP a s c)
        by_cases z : c < i
        · rw [if_pos z]; exact c5 c z
        · rw [if_neg z, c7 c (by omega) hc]; exact hm.2.1 s hs c hc) c6
      have hai : AbOK (aSlot a s (fun c => if c < i then L c else aP a s c)) := ha.slot (fun c hc => by
        by_cases z : c < i
        · rw [if_pos z]; exact c2 c z
        · rw [if_neg z]; exact ha.2.1 s hs c hc)
      obtain ⟨x, w2, d1, d2, d3, d4⟩ := endOf_s hai hm' c3 (bhs L i c2) hi' 0
      rw [if_pos rfl] at d4
      rcases d4 with ⟨_, d5⟩ | ⟨f, rfl, d5, d6⟩
      · exact absurd ⟨fx, c4⟩ d5
      have p1 := Fs.BH d5 (bls L i c2) i hi'
      unfold bX9_laySums_25
      rw [mcells_a hm', bnd_s, show aN (aSlot a s (fun c => if c < i then L c else aP a s c)) = aN a from rfl, if_neg (iv_Nle (by omega) hi'), d1, bnd_s, sI_iv (by rw [LI_109]; omega) (by rw [LI_109]; omega), bind_s, sI_iv (by rw [LI_110]; omega) (by rw [LI_110]; omega), bind_s, iv_25sc, sI_iv (by rw [LI_100]; omega) (by rw [LI_100]; omega), bind_s, iv_s1]
      have k99 : w2.1 100 = w'.1 100 := (d2 100 (by unfold mends; omega)).1
      refine ⟨_, rfl, pu L i (f i), c1.next d5 (fun g hg => (d6 g hg).2 rfl), fun c hc => ?_, fun c hc => ?_, ⟨f, by rw [stg_next, stg_next]; exact Fs.fix d5 i⟩, fun c hc => ?_, fun s' h1 h2 c hc => ?_, fun c h1 h2 => ?_, c8.trans ((d2.weak fun k z => z.1).trans ((Kp.uI (fun z => by unfold mends at z; omega)).trans ((Kp.uI (fun z => by unfold mends at z; omega)).trans (Kp.uI (fun z => z.2 rfl)))))⟩
      · by_cases z : c = i
        · subst z; rw [pu_at]; omega
        · rw [pu_ne z]; exact c2 c (by omega)
      · rw [stg_next, stg_next]
        have := d3 c hc
        by_cases z : c = i
        · subst z
          rw [pu_at, pu_at]
          exact ⟨by rw [uI_row (by omega), uI_row (by omega), uI_same], by rw [uI_row (by omega), uI_same]⟩
        · rw [pu_ne z, pu_ne z]
          exact ⟨by rw [uI_row (by omega), uI_row (by omega), uI_other (Or.inr z)]; exact this.1, by rw [uI_row (by omega), uI_other (Or.inr z), uI_row (by omega)]; exact this.2⟩
      · by_cases z : c = i
        · subst z; rw [uI_same, pu_at]
        · rw [uI_other (Or.inr (by omega)), uI_row (by omega), uI_row (by omega), k99, pu_ne z]; exact c5 c (by omega)
      · have hcN : c < aN a := hc
        rw [uI_other (Or.inr (by omega)), uI_row (by omega), uI_row (by omega), k99]; exact c6 s' h1 h2 c hc
      · rw [uI_other (Or.inr (by omega)), uI_row (by omega), uI_row (by omega), k99]; exact c7 c (by omega) h2
    · rintro w' k ⟨L, c1, c2, c3, c4, c5, c6, c7, c8⟩
      have hm' : MS (aSlot a s L) w' := hm.slotset (c8.weak fun k z => ⟨by unfold mends; unfold stM at z; omega, z.2⟩) c5 c6
      refine ⟨w', c8.weak fun k z => ⟨by unfold mends; unfold cR at z; omega, by unfold cR at z; omega⟩, Or.inr ⟨L, ?_, ⟨f0, hf0⟩, c1, c2, hm'⟩⟩
      unfold bX9_laySums_25
      rw [mcells_a hm', bnd_s, show aN (aSlot a s L) = aN a from rfl, if_pos iv_Nle', cubesOf_s (f := L) hm'.1 hs (fun c hc => ⟨c5 c hc, c2 c hc⟩), bnd_s]
      rfl
  · rw [if_pos rfl]
    exact ⟨wb, kb.weak fun k z => by unfold mends; unfold cR at z; omega, Or.inl ⟨rfl, hm.me kb, hno⟩⟩
end MSUM3
section STEPS
variable {FT : Tl → Wd → Prop} {t : Nat} {w : Wd}
theorem g25 (hF : FTk FT) (hg : Good FT t w) (p q d : Int32) : ∃ w', st25 p q d w = some w' ∧ Good FT (t + 1) w' := by
  obtain ⟨a, ha, hc, hm, hv⟩ := hg
  unfold st25
  obtain ⟨x, w1, a1, a2, a3⟩ := noneOneMore_s ha hc
  refine comb hF (v := x) (a1 := a) ha hm ⟨w1, ?_, hc.rs a2, hv.kept hF (a2.weak fun k z => by unfold rsum; omega) rfl, a2.weak fun k z => by unfold mR at z; unfold rsum; omega⟩ (fun w2 hm2 => ?_)
  · unfold fX8_bySums
    rw [a1, bnd_s]
  · obtain ⟨y, w3, b1, b2, b3⟩ := mbySums_s ha hm2
    refine ⟨w3, ?_, hm2.me b2, b2.weak fun k z => by unfold mends; unfold cR at z; omega⟩
    rw [b1, b3.one a3]
theorem g26 (hF : FTk FT) (hg : Good FT t w) (p q d : Int32) : ∃ w', st26 p q d w = some w' ∧ Good FT (t + 1) w' := by
  obtain ⟨a, ha, hc, hm, hv⟩ := hg
  unfold st26
  rcases rng 4 p with ⟨s, hs, rfl⟩ | hb
  · obtain ⟨w1, a1, a2⟩ := fillFirst_s ha hc hs
    rcases a2 with ⟨b1, b2, b3⟩ | ⟨L, b1, b2, b3, b4, b5⟩
    · have k1 := b2
      refine comb hF (v := -3) (a1 := a) ha hm ⟨w1, ?_, hc.rs k1, hv.kept hF (k1.weak fun k z => by unfold rsum; omega) rfl, k1.weak fun k z => by unfold mR at z; unfold rsum; omega⟩ (fun w2 hm2 => ?_)
      · unfold fX8_laySums
        rw [noSlot_g hs, bnd_s, if_pos rfl, ixA_iv hs (by omega), bind_s, b1, bnd_s, if_pos rfl]
      · obtain ⟨w3, c1, c2⟩ := mlaySums_s ha hm2 hs
        rcases c2 with ⟨d1, d2, d3⟩ | ⟨L', d1, d2, _⟩
        · exact ⟨w3, d1, d2, c1⟩
        · exact absurd d2 b3
    · have ha1 : AbOK (aSlot a s L) := ha.slot b4
      have hc1 : CS (aSlot a s L) w1 := hc.slotset hs (a1.weak fun k z => ⟨by unfold rsum; have := z.1; unfold stC at this; omega, z.2⟩) b5
      refine comb hF (v := iv (sm L (aN a))) (a1 := aSlot a s L) ha1 hm ⟨w1, ?_, hc1, hv.kept hF (a1.weak fun k z => ⟨by unfold rsum; omega, by omega⟩) rfl, a1.weak fun k z => ⟨by unfold mR at z; unfold rsum; omega, by unfold mR at z; omega⟩⟩ (fun w2 hm2 => ?_)
      · unfold fX8_laySums
        rw [noSlot_g hs, bnd_s, if_pos rfl, ixA_iv hs (by omega), bind_s, b1, bnd_s, if_neg (by decide), bind_s, total_a ha1 hc1 hs, bnd_s, aSlot_at]
        rfl
      · obtain ⟨w3, c1, c2⟩ := mlaySums_s ha hm2 hs
        rcases c2 with ⟨d1, d2, d3⟩ | ⟨L', d1, d2, d3, d4, d5⟩
        · exact absurd b2 d3
        · have e1 : ∀ c, c < aN a → L' c = L c := fun c hc => d3.one b3 (c + 1) c (by omega) hc
          exact ⟨w3, by rw [d1, sm_congr e1], d5.slotcongr hs e1, c1⟩
  · refine comb0 hF (v := -1) ha hc hm hv ?_ ?_
    · unfold fX8_laySums
      rw [noSlot_b hb, bnd_s, if_neg (by decide)]
    · unfold fX9_laySums
      rw [isSlot_b hb, bnd_s, if_pos rfl]
theorem g27 (hF : FTk FT) (hg : Good FT t w) (p q d : Int32) : ∃ w', st27 p q d w = some w' ∧ Good FT (t + 1) w' := by
  obtain ⟨a, ha, hc, hm, hv⟩ := hg
  unfold st27
  generalize bz q = T
  rcases rng (aN a) p with ⟨c, hcc, rfl⟩ | hb
  · obtain ⟨x, w1, a1, a2, a3⟩ := extremeS_s ha hc hcc T
    refine comb hF (v := x) (a1 := a) ha hm ⟨w1, ?_, hc.rs a2, hv.kept hF (a2.weak fun k z => by unfold rsum; omega) rfl, a2.weak fun k z => by unfold mR at z; unfold rsum; omega⟩ (fun w2 hm2 => ?_)
    · unfold fX8_spanSums
      rw [noCell_g hc.1.1 hcc, bnd_s, if_pos rfl, a1, bnd_s]
    · obtain ⟨w3, b1, b2, b3⟩ := layEnds_s ha hm2
      obtain ⟨y, w4, c1, c2, c3, c4⟩ := endOf_s ha (hm2.me b3) b2 (BH0 _ _) hcc T
      have k4 : Kp mends w2 w4 := b3.trans c2
      refine ⟨w4, ?_, hm2.me k4, k4.weak fun k z => by unfold mends; unfold cR at z; omega⟩
      unfold fX9_spanSums
      rw [isCell_g hm2.1 hcc, bnd_s, if_neg (by decide), b1, bnd_s, c1, bnd_s]
      have : y = x := by
        rcases a3 with ⟨rfl, e1⟩ | ⟨f, rfl, e1, e2⟩
        · rcases c4 with ⟨rfl, e3⟩ | ⟨g, rfl, e3, e4⟩
          · rfl
          · exact absurd ⟨g, e3⟩ e1
        · rcases c4 with ⟨rfl, e3⟩ | ⟨g, rfl, e3, e4⟩
          · exact absurd ⟨f, e1⟩ e3
          · have h1 := e2 g e3
            have h2 := e4 f e1
            by_cases z : T = 0
            · rw [if_pos z] at h1 h2
              rw [show g c = f c by have := h1.2 rfl; have := h2.2 rfl; omega]
            · rw [if_neg z] at h1 h2
              rw [show g c = f c by have := h1.1 rfl; have := h2.1 rfl; omega]
      rw [this]
  · refine comb0 hF (v := -1) ha hc hm hv ?_ ?_
    · unfold fX8_spanSums
      rw [noCell_b hc.1.1 hb, bnd_s, if_neg (by decide)]
    · unfold fX9_spanSums
      rw [isCell_b hm.1 hb, bnd_s, if_pos rfl]
end STEPS
