/-! ===== water ===== -/
theorem fill_s {k : Nat} (h0 : 0 < LI k) (h2 : LI k ≤ 2000) (x : Int32) (w : Wd) : ∃ w1, fJ7_fill_53178 k x w = some ((), w1) ∧ (∀ c, c < LI k → w1.1 k c = x) ∧ Kp (fun q => q ≠ k) w w1 := by
  have key : ∀ n i w', i ≤ LI k → LI k - i < n → (∀ c, c < i → w'.1 k c = x) → Kp (fun q => q ≠ k) w w' → ∃ w1, lp (fun _ _ _ => none) (bJ7_fill_53178_5 k x) n (iv i) (iv (LI k : Nat)) w' = some ((), w1) ∧ (∀ c, c < LI k → w1.1 k c = x) ∧ Kp (fun q => q ≠ k) w w1 := by
    intro n
    induction n with
    | zero => intro i w' h1 h2; omega
    | succ n ih =>
      intro i w' h1 h3 h4 h5
      rw [lp_s]
      unfold bJ7_fill_53178_5
      by_cases e : i = LI k
      · rw [e, if_pos iv_Nle']; rw [e] at h4
        exact ⟨w', rfl, h4, h5⟩
      · rw [if_neg (iv_Nle (by omega) (by omega)), sI_iv (by omega) h2, bind_s, iv_s1]
        refine ih (i + 1) _ (by omega) (by omega) (fun c hc => ?_) (h5.trans (Kp.uI (fun z => z rfl)))
        by_cases e2 : c = i
        · subst e2; exact uI_same
        · rw [uI_other (Or.inr e2)]; exact h4 c (by omega)
  unfold fJ7_fill_53178
  rw [if_pos h0, iv_nat, iv_0]
  exact key G 0 w (by omega) (by have := hG; omega) (fun c hc => by omega) Kp.rf
theorem fillL_s {k : Nat} (h0 : 0 < LL k) (h2 : LL k ≤ 2000) (x : Int64) (w : Wd) : ∃ w1, fJ7_fill_d0a16 k x w = some ((), w1) ∧ (∀ c, c < LL k → w1.2 k c = x) ∧ Kp (fun q => q ≠ k) w w1 ∧ w1.1 = w.1 := by
  have key : ∀ n i w', i ≤ LL k → LL k - i < n → (∀ c, c < i → w'.2 k c = x) → Kp (fun q => q ≠ k) w w' → w'.1 = w.1 → ∃ w1, lp (fun _ _ _ => none) (bJ7_fill_d0a16_6 k x) n (iv i) (iv (LL k : Nat)) w' = some ((), w1) ∧ (∀ c, c < LL k → w1.2 k c = x) ∧ Kp (fun q => q ≠ k) w w1 ∧ w1.1 = w.1 := by
    intro n
    induction n with
    | zero => intro i w' h1 h2; omega
    | succ n ih =>
      intro i w' h1 h3 h4 h5 h6
      rw [lp_s]
      unfold bJ7_fill_d0a16_6
      by_cases e : i = LL k
      · rw [e, if_pos iv_Nle']; rw [e] at h4
        exact ⟨w', rfl, h4, h5, h6⟩
      · rw [if_neg (iv_Nle (by omega) (by omega)), sL_iv (by omega) h2, bind_s, iv_s1]
        refine ih (i + 1) _ (by omega) (by omega) (fun c hc => ?_) (h5.trans (Kp.uL (fun z => z rfl))) (by rw [uL_int]; exact h6)
        by_cases e2 : c = i
        · subst e2; exact uL_same
        · rw [uL_other (Or.inr e2)]; exact h4 c (by omega)
  unfold fJ7_fill_d0a16
  rw [if_pos h0, iv_nat, iv_0]
  exact key G 0 w (by omega) (by have := hG; omega) (fun c hc => by omega) Kp.rf rfl
/-- no cell is higher than what is kept beside it -/
def PF (W H : Nat) (h L : Nat → Int) : Prop := ∀ c, c < W * H → ∀ d, d < 4 → L c ≤ max (h c) (nbv L W H c d)
/-- the levels -/
def IsZ (W H : Nat) (h Z : Nat → Int) : Prop := (∀ c, c < W * H → h c ≤ Z c ∧ Z c ≤ 4) ∧ PF W H h Z ∧ ∀ P, PF W H h P → (∀ c, c < W * H → P c ≤ 4) → ∀ c, c < W * H → P c ≤ Z c
theorem IsZ.uniq {W H : Nat} {h Z Z' : Nat → Int} (h1 : IsZ W H h Z) (h2 : IsZ W H h Z') : ∀ c, c < W * H → Z c = Z' c := fun c hc => by
  have e1 := h1.2.2 Z' h2.2.1 (fun c hc => (h2.1 c hc).2) c hc
  have e2 := h2.2.2 Z h1.2.1 (fun c hc => (h1.1 c hc).2) c hc
  omega
theorem nbv_mono {W H : Nat} (h1 : 1 ≤ W) (h2 : W ≤ 5) (h3 : 1 ≤ H) (h4 : H ≤ 5) {P L : Nat → Int} (h : ∀ c, c < W * H → P c ≤ L c) {c : Nat} (hc : c < W * H) (d : Nat) : nbv P W H c d ≤ nbv L W H c d := by
  have hr := nbr_rng h1 h2 h3 h4 hc d
  unfold nbv
  by_cases e : nbr W H c d = -1
  · rw [if_pos e, if_pos e]; exact Int.le_refl _
  · rw [if_neg e, if_neg e]; exact h _ (by omega)
theorem sm_le {f g : Nat → Int} : ∀ {n : Nat}, (∀ i, i < n → f i ≤ g i) → sm f n ≤ sm g n
  | 0, _ => Int.le_refl _
  | n + 1, h => by
    rw [sm_s, sm_s]
    have := sm_le (n := n) (fun i hi => h i (by omega))
    have := h n (by omega)
    omega
theorem sm_lt {f g : Nat → Int} : ∀ {n : Nat}, (∀ i, i < n → f i ≤ g i) → (∃ i, i < n ∧ f i < g i) → sm f n < sm g n
  | 0, _, h => by obtain ⟨i, hi, _⟩ := h; omega
  | n + 1, h, h2 => by
    rw [sm_s, sm_s]
    have e1 := h n (by omega)
    obtain ⟨i, hi, h3⟩ := h2
    by_cases e : i = n
    · subst e
      have := sm_le (n := i) (fun j hj => h j (by omega))
      omega
    · have := sm_lt (n := n) (fun j hj => h j (by omega)) ⟨i, by omega, h3⟩
      omega
theorem dm4 {c d : Nat} (hd : d < 4) : (4 * c + d) / 4 = c ∧ (4 * c + d) % 4 = d := by omega
theorem mlayWater_s {W H : Nat} {w : Wd} (hg : MW W H w) {s : Nat} (hs : s < 4) {h : Nat → Int} (hf : ∀ c, c < W * H → w.1 100 (25 * s + c) = iv (h c) ∧ Hgt (h c)) : ∃ w1 Z, fX9_layWater (iv s) w = some ((), w1) ∧ (∀ c, c < W * H → w1.1 106 c = iv (Z c)) ∧ IsZ W H h Z ∧ Kp (fun q => q ≠ 106) w w1 := by
  have hN := WH_le hg.2.1 hg.2.2.2.1
  let Q : Option (Unit × Wd) → Prop := fun r => ∃ w1 Z, r = some ((), w1) ∧ (∀ c, c < W * H → w1.1 106 c = iv (Z c)) ∧ IsZ W H h Z ∧ Kp (fun q => q ≠ 106) w w1
  -- what holds all the time
  let St : (Nat → Int) → Wd → Prop := fun L w' => (∀ c, c < W * H → w'.1 106 c = iv (L c)) ∧ (∀ c, c < W * H → h c ≤ L c ∧ L c ≤ 4) ∧ (∀ P, PF W H h P → (∀ c, c < W * H → P c ≤ 4) → ∀ c, c < W * H → P c ≤ L c) ∧ Kp (fun q => q ≠ 106) w w'
  have round : ∀ (n : Nat) (x : Int32) (L : Nat → Int) (w' : Wd), St L w' → (x = 0 → PF W H h L) → (x = 1 ∨ x = 0) → (sm L (W * H)).toNat + 1 < n → Q (lp (fun _ _ => none) (bX9_layWater_25 (iv s)) n x w') := by
    intro n
    induction n with
    | zero => intro x L w' _ _ _ h4; omega
    | succ n ih =>
      intro x L0 w0 hSt hx hx1 hn
      rw [lp_s]
      unfold bX9_layWater_25
      by_cases e : x = 0
      · rw [if_pos e]
        exact ⟨w0, L0, rfl, hSt.1, ⟨hSt.2.1, hx e, hSt.2.2.1⟩, hSt.2.2.2⟩
      · rw [if_neg e]
        refine lpB (m := 4 * (W * H)) Q (fun i y w' => ∃ L, St L w' ∧ ((y = 0 ∧ (∀ c, c < W * H → L c = L0 c) ∧ ∀ c d, c < W * H → d < 4 → 4 * c + d < i → L0 c ≤ max (h c) (nbv L0 W H c ((d + 2) % 4))) ∨ (y = 1 ∧ (∀ c, c < W * H → L c ≤ L0 c) ∧ sm L (W * H) < sm L0 (W * H)))) ?_ ?_ (hGn (by omega)) ⟨L0, hSt, Or.inl ⟨rfl, fun _ _ => rfl, fun c d _ _ z => by omega⟩⟩
        · rintro i y w' kk hi ⟨L, ⟨s1, s2, s3, s4⟩, hy⟩
          have hg' : MW W H w' := hg.kept (s4 99 (by omega)).1
          obtain ⟨c, d, hd, hcd⟩ : ∃ c d, d < 4 ∧ i = 4 * c + d := ⟨i / 4, i % 4, by omega, by omega⟩
          have hc : c < W * H := by omega
          have ed := dm4 (c := c) hd
          have hr := nbr_rng hg.1 hg.2.1 hg.2.2.1 hg.2.2.2.1 hc ((d + 2) % 4)
          have hLc := s2 c hc
          have hfc := (hf c hc).2
          unfold Hgt at hfc
          have hL4 : ∀ c, c < W * H → Hgt (L c) := fun c hc => by
            have := s2 c hc
            have := (hf c hc).2
            unfold Hgt at *; omega
          have hnb := nbv_H hg.1 hg.2.1 hg.2.2.1 hg.2.2.2.1 hL4 hc ((d + 2) % 4)
          unfold Hgt at hnb
          have hlower : ∀ P, PF W H h P → (∀ c, c < W * H → P c ≤ 4) → P c ≤ max (h c) (nbv L W H c ((d + 2) % 4)) := fun P hP hP4 => by
            have e1 := hP c hc ((d + 2) % 4) (by omega)
            have e2 := nbv_mono hg.1 hg.2.1 hg.2.2.1 hg.2.2.2.1 (s3 P hP hP4) hc ((d + 2) % 4)
            omega
          have e88 : ∀ x12 : Int32, x12 = iv (nbv L W H c ((d + 2) % 4)) → (∃ x' w'', jX9_layWater_88 (iv s) (lp (fun _ _ => none) (bX9_layWater_25 (iv s)) n) kk y (iv i) (iv (h c)) x12 w' = kk x' (iv ((i + 1 : Nat) : Int)) w'' ∧ ∃ L, St L w'' ∧ ((x' = 0 ∧ (∀ c, c < W * H → L c = L0 c) ∧ ∀ c d, c < W * H → d < 4 → 4 * c + d < i + 1 → L0 c ≤ max (h c) (nbv L0 W H c ((d + 2) % 4))) ∨ (x' = 1 ∧ (∀ c, c < W * H → L c ≤ L0 c) ∧ sm L (W * H) < sm L0 (W * H)))) := by
            intro x12 hx12
            have e104 : ∀ z : Int, z = max (h c) (nbv L W H c ((d + 2) % 4)) → (∃ x' w'', jX9_layWater_104 (iv s) (lp (fun _ _ => none) (bX9_layWater_25 (iv s)) n) kk y (iv i) (iv z) w' = kk x' (iv ((i + 1 : Nat) : Int)) w'' ∧ ∃ L, St L w'' ∧ ((x' = 0 ∧ (∀ c, c < W * H → L c = L0 c) ∧ ∀ c d, c < W * H → d < 4 → 4 * c + d < i + 1 → L0 c ≤ max (h c) (nbv L0 W H c ((d + 2) % 4))) ∨ (x' = 1 ∧ (∀ c, c < W * H → L c ≤ L0 c) ∧ sm L (W * H) < sm L0 (W * H)))) := by
              intro z hz
              unfold jX9_layWater_104 jX9_layWater_131
              rw [iv_4, show iv 4 = iv ((4 : Nat) : Int) from rfl, dv_iv (by omega) (by omega) (by omega), bind_s, hcd, ed.1, gI_iv (by rw [LI_106]; omega) (by rw [LI_106]; omega), bind_s, bind_s, sI_iv (by rw [LI_106]; omega) (by rw [LI_106]; omega), bind_s, iv_s1, s1 c hc]
              by_cases q : L c ≤ z
              · rw [if_pos (by rw [iv_le (by omega) (by omega)]; exact q)]
                refine ⟨y, w', rfl, L, ⟨s1, s2, s3, s4⟩, ?_⟩
                rcases hy with ⟨y0, y1, y2⟩ | hy
                · refine Or.inl ⟨y0, y1, fun c2 d2 h1 h2 h3 => ?_⟩
                  by_cases e5 : 4 * c2 + d2 < i
                  · exact y2 c2 d2 h1 h2 e5
                  · have : c2 = c ∧ d2 = d := by omega
                    rw [this.1, this.2, ← y1 c hc]
                    have e6 : nbv L0 W H c ((d + 2) % 4) = nbv L W H c ((d + 2) % 4) := by
                      unfold nbv
                      by_cases e7 : nbr W H c ((d + 2) % 4) = -1
                      · rw [if_pos e7, if_pos e7]
                      · rw [if_neg e7, if_neg e7, y1 _ (by omega)]
                    rw [e6]; omega
                · exact Or.inr hy
              · rw [if_neg (by rw [iv_le (by omega) (by omega)]; exact q)]
                refine ⟨1, _, rfl, fun c' => if c' = c then z else L c', ⟨fun c' hc' => ?_, fun c' hc' => ?_, fun P hP hP4 c' hc' => ?_, s4.trans (Kp.uI (fun z => z rfl))⟩, Or.inr ⟨rfl, ?_, ?_⟩⟩
                · show _ = iv (if c' = c then z else L c')
                  by_cases e5 : c' = c
                  · subst e5; rw [if_pos rfl, uI_same]
                  · rw [if_neg e5, uI_other (Or.inr e5)]; exact s1 c' hc'
                · show h c' ≤ (if c' = c then z else L c') ∧ (if c' = c then z else L c') ≤ 4
                  by_cases e5 : c' = c
                  · subst e5; rw [if_pos rfl]; omega
                  · rw [if_neg e5]; exact s2 c' hc'
                · show P c' ≤ (if c' = c then z else L c')
                  by_cases e5 : c' = c
                  · subst e5; rw [if_pos rfl, hz]; exact hlower P hP hP4
                  · rw [if_neg e5]; exact s3 P hP hP4 c' hc'
                · intro c' hc'
                  have hL0 : L c' ≤ L0 c' := by
                    rcases hy with ⟨_, y1, _⟩ | ⟨_, y1, _⟩
                    · rw [y1 c' hc']; exact Int.le_refl _
                    · exact y1 c' hc'
                  show (if c' = c then z else L c') ≤ L0 c'
                  by_cases e5 : c' = c
                  · subst e5; rw [if_pos rfl]; omega
                  · rw [if_neg e5]; exact hL0
                · have hlt : sm (fun c' => if c' = c then z else L c') (W * H) < sm L (W * H) := sm_lt (fun c' hc' => by
                    show (if c' = c then z else L c') ≤ L c'
                    by_cases e5 : c' = c
                    · subst e5; rw [if_pos rfl]; omega
                    · rw [if_neg e5]; exact Int.le_refl _) ⟨c, hc, by show (if c = c then z else L c) < L c; rw [if_pos rfl]; omega⟩
                  have hle : sm L (W * H) ≤ sm L0 (W * H) := by
                    rcases hy with ⟨_, y1, _⟩ | ⟨_, _, y2⟩
                    · exact sm_le (fun c' hc' => by rw [y1 c' hc']; exact Int.le_refl _)
                    · omega
                  omega
            unfold jX9_layWater_88
            rw [hx12]
            by_cases q : nbv L W H c ((d + 2) % 4) ≤ h c
            · rw [if_pos (by rw [iv_le (by omega) (by omega)]; exact q)]
              exact e104 _ (by omega)
            · rw [if_neg (by rw [iv_le (by omega) (by omega)]; exact q)]
              exact e104 _ (by omega)
          refine Or.inl ?_
          unfold bX9_layWater_33
          rw [mcells_s hg', bnd_s, iv_4, show iv 4 * iv ((W * H : Nat) : Int) = iv ((4 * (W * H) : Nat) : Int) by rw [iv_mul, Int.natCast_mul]; rfl, if_neg (iv_Nle (by omega) hi), show iv 4 = iv ((4 : Nat) : Int) from rfl, dv_iv (by omega) (by omega) (by omega), bind_s, hcd, ed.1, iv_25sc, gI_iv (by rw [LI_100]; omega) (by rw [LI_100]; omega), bind_s, bind_s, rm_iv (by omega) (by omega) (by omega), bind_s, ed.2, mbeside_s hg' hc hd, bnd_s, (s4 100 (by omega)).1, (hf c hc).1, ← hcd]
          by_cases q : nbr W H c ((d + 2) % 4) = -1
          · rw [if_pos (by rw [q]; decide)]
            exact e88 0 (by unfold nbv; rw [if_pos q]; rfl)
          · have e : mb (nbr W H c ((d + 2) % 4)) = nbr W H c ((d + 2) % 4) := if_neg q
            obtain ⟨m, hm⟩ : ∃ m : Nat, nbr W H c ((d + 2) % 4) = (m : Int) := ⟨(nbr W H c ((d + 2) % 4)).toNat, by omega⟩
            rw [e, if_neg (by rw [iv_m9, iv_eq (by omega) (by omega)]; omega), hm, gI_iv (by rw [LI_106]; omega) (by rw [LI_106]; omega), bind_s]
            exact e88 _ (by unfold nbv; rw [if_neg q, hm, s1 m (by omega)]; rfl)
        · rintro y w' kk ⟨L, hS, hy⟩
          have hg' : MW W H w' := hg.kept (hS.2.2.2 99 (by omega)).1
          unfold bX9_layWater_33
          rw [mcells_s hg', bnd_s, iv_4, show iv 4 * iv ((W * H : Nat) : Int) = iv ((4 * (W * H) : Nat) : Int) by rw [iv_mul, Int.natCast_mul]; rfl, if_pos iv_Nle']
          have hpos : ∀ (L : Nat → Int), St L w' → 0 ≤ sm L (W * H) := fun L hL => sm_nonneg (fun c hc => by
            have := (hL.2.1 c hc).1
            have := (hf c hc).2
            unfold Hgt at this; omega)
          rcases hy with ⟨y0, y1, y2⟩ | ⟨y0, y1, y2⟩
          · subst y0
            have hPF : PF W H h L := fun c hc d hd => by
              have := y2 c ((d + 2) % 4) hc (by omega) (by omega)
              rw [show ((d + 2) % 4 + 2) % 4 = d by omega] at this
              have e6 : nbv L0 W H c d = nbv L W H c d := by
                have hr := nbr_rng hg.1 hg.2.1 hg.2.2.1 hg.2.2.2.1 hc d
                unfold nbv
                by_cases e7 : nbr W H c d = -1
                · rw [if_pos e7, if_pos e7]
                · rw [if_neg e7, if_neg e7, y1 _ (by omega)]
              rw [← e6, y1 c hc]; exact this
            -- the last round: nothing has changed
            obtain ⟨m, rfl⟩ : ∃ m, n = m + 1 := ⟨n - 1, by omega⟩
            rw [lp_s]
            rw [if_pos rfl]
            exact ⟨w', L, rfl, hS.1, ⟨hS.2.1, hPF, hS.2.2.1⟩, hS.2.2.2⟩
          · subst y0
            have := hpos L hS
            exact ih 1 L w' hS (fun z => absurd z (by decide)) (Or.inl rfl) (by omega)
  show Q (fX9_layWater (iv s) w)
  unfold fX9_layWater
  refine lpA (m := W * H) Q (fun i w' => (∀ c, c < i → w'.1 106 c = iv 4) ∧ Kp (fun q => q ≠ 106) w w') ?_ ?_ (hGn (by omega)) ⟨fun c hc => by omega, Kp.rf⟩
  · rintro i w' kk hi ⟨h1, h2⟩
    have hg' : MW W H w' := hg.kept (h2 99 (by omega)).1
    refine Or.inl ⟨uI w' 106 i (iv 4), ?_, fun c hc => ?_, h2.trans (Kp.uI (fun z => z rfl))⟩
    · unfold bX9_layWater_2
      rw [mcells_s hg', bnd_s, if_neg (iv_Nle (by omega) hi), sI_iv (by rw [LI_106]; omega) (by rw [LI_106]; omega), bind_s, iv_s1]; rfl
    · by_cases e : c = i
      · subst e; exact uI_same
      · rw [uI_other (Or.inr e)]; exact h1 c (by omega)
  · rintro w' kk ⟨h1, h2⟩
    have hg' : MW W H w' := hg.kept (h2 99 (by omega)).1
    unfold bX9_layWater_2
    rw [mcells_s hg', bnd_s, if_pos iv_Nle']
    have hb := sm_bound (f := fun _ => (4 : Int)) (lo := 0) (hi := 4) (n := W * H) (fun _ _ => by omega)
    exact round G 1 (fun _ => 4) w' ⟨h1, fun c hc => ⟨by have := (hf c hc).2; unfold Hgt at this; show h c ≤ 4; omega, Int.le_refl _⟩, fun P _ hP4 => hP4, h2⟩ (fun z => absurd z (by decide)) (Or.inl rfl) (by have := hG; omega)
