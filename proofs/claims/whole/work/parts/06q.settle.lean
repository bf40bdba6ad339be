/-! ===== water, as the class settles it ===== -/
def mn4 (f : Nat → Int) : Nat → Int
  | 0 => 4
  | n + 1 => min (mn4 f n) (f n)
theorem mn4_s (f : Nat → Int) (n : Nat) : mn4 f (n + 1) = min (mn4 f n) (f n) := rfl
theorem mn4_le (f : Nat → Int) : ∀ n d, d < n → mn4 f n ≤ f d
  | 0, d, h => by omega
  | n + 1, d, h => by
    rw [mn4_s]
    by_cases e : d = n
    · subst e; omega
    · have := mn4_le f n d (by omega); omega
theorem mn4_ge {f : Nat → Int} {z : Int} (h4 : z ≤ 4) : ∀ n, (∀ d, d < n → z ≤ f d) → z ≤ mn4 f n
  | 0, _ => h4
  | n + 1, h => by
    rw [mn4_s]
    have := mn4_ge h4 n (fun d hd => h d (by omega))
    have := h n (by omega)
    omega
theorem mn4_bd {f : Nat → Int} {n : Nat} (h : ∀ d, d < n → 0 ≤ f d) : 0 ≤ mn4 f n ∧ mn4 f n ≤ 4 := by
  refine ⟨mn4_ge (by omega) n h, ?_⟩
  induction n with
  | zero => exact Int.le_refl _
  | succ n ih => rw [mn4_s]; have := ih (fun d hd => h d (by omega)); omega
theorem lowest_s {W H : Nat} {w : Wd} (hg : Gnd W H w) {L : Nat → Int} (hL : ∀ c, c < W * H → w.1 11 c = iv (L c) ∧ Hgt (L c)) {c : Nat} (hc : c < W * H) : fX7_lowestBeside (iv c) w = some (iv (mn4 (nbv L W H c) 4), w) := by
  have hN := WH_le hg.1.2.1 hg.1.2.2.2.1
  unfold fX7_lowestBeside
  have hb : ∀ d, Hgt (nbv L W H c d) := fun d => nbv_H hg.1.1 hg.1.2.1 hg.1.2.2.1 hg.1.2.2.2.1 (fun c hc => (hL c hc).2) hc d
  refine lpB (m := 4) (fun r => r = some (iv (mn4 (nbv L W H c) 4), w)) (fun i x w' => x = iv (mn4 (nbv L W H c) i) ∧ w' = w) ?_ ?_ (hGn (by omega)) ⟨rfl, rfl⟩
  · rintro i x w' kk hi ⟨rfl, rfl⟩
    have hm := mn4_bd (f := nbv L W H c) (n := i) (fun d _ => (hb d).1)
    have hbi := hb i
    unfold Hgt at hbi
    refine Or.inl ⟨iv (mn4 (nbv L W H c) (i + 1)), w', ?_, rfl, rfl⟩
    unfold bX7_lowestBeside_4
    rw [if_neg (by rw [iv_4, iv_le (by omega) (by omega)]; omega), valueBeside_s hg (by rw [LI_11]; exact hN) (by rw [LI_11]; omega) (fun c hc => (hL c hc).1) hc hi, bnd_s, iv_s1, mn4_s, iv_min (by omega) (by omega)]
  · rintro x w' kk ⟨rfl, rfl⟩
    unfold bX7_lowestBeside_4
    rw [if_pos (by rw [iv_4]; exact Int32.le_refl _)]
/-- among the cells that are not settled one has a settled neighbour that is no higher -/
theorem next_settled {W H : Nat} (h1 : 1 ≤ W) (h2 : W ≤ 5) (h3 : 1 ≤ H) (h4 : H ≤ 5) {h Z L : Nat → Int} (hh : ∀ c, c < W * H → Hgt (h c)) (hZ : IsZ W H h Z) (hL : ∀ c, c < W * H → Z c ≤ L c ∧ L c ≤ 4) (hn : ∃ c, c < W * H ∧ L c ≠ Z c) : ∃ c, c < W * H ∧ L c ≠ Z c ∧ ∃ d, d < 4 ∧ nbv L W H c d ≤ Z c := by
  -- one of least level
  have least : ∀ v : Nat, (∃ c, c < W * H ∧ L c ≠ Z c ∧ Z c ≤ v) → ∃ c, c < W * H ∧ L c ≠ Z c ∧ ∀ c', c' < W * H → L c' ≠ Z c' → Z c ≤ Z c' := by
    intro v
    induction v with
    | zero =>
      rintro ⟨c, hc, a1, a2⟩
      refine ⟨c, hc, a1, fun c' hc' _ => ?_⟩
      have b1 := (hZ.1 c' hc').1
      have b2 := hh c' hc'
      unfold Hgt at b2; omega
    | succ v ih =>
      rintro ⟨c, hc, a1, a2⟩
      by_cases e : ∃ c, c < W * H ∧ L c ≠ Z c ∧ Z c ≤ v
      · exact ih e
      · refine ⟨c, hc, a1, fun c' hc' a3 => ?_⟩
        by_cases e2 : Z c' ≤ v
        · exact absurd ⟨c', hc', a3, e2⟩ e
        · omega
  obtain ⟨c1, hc1, hd1⟩ := hn
  obtain ⟨c0, hc0, hd0, hmin⟩ := least 4 ⟨c1, hc1, hd1, (hZ.1 c1 hc1).2⟩
  have hall : ∀ c, c < W * H → L c ≠ Z c → Z c = Z c0 → (∃ d, d < 4 ∧ nbv L W H c d ≤ Z c) ∨ ∀ d, d < 4 → Z c < nbv L W H c d := fun c hc a1 a2 => by
    by_cases e : ∃ d, d < 4 ∧ nbv L W H c d ≤ Z c
    · exact Or.inl e
    · right
      intro d hd
      by_cases e2 : nbv L W H c d ≤ Z c
      · exact absurd ⟨d, hd, e2⟩ e
      · omega
  by_cases hw : ∃ c, c < W * H ∧ L c ≠ Z c ∧ Z c = Z c0 ∧ ∃ d, d < 4 ∧ nbv L W H c d ≤ Z c
  · obtain ⟨c, a1, a2, _, a4⟩ := hw
    exact ⟨c, a1, a2, a4⟩
  · exfalso
    let P : Nat → Int := fun c => if c < W * H ∧ L c ≠ Z c ∧ Z c = Z c0 then Z c0 + 1 else Z c
    have hPZ : ∀ c, Z c ≤ P c := fun c => by
      show Z c ≤ (if c < W * H ∧ L c ≠ Z c ∧ Z c = Z c0 then Z c0 + 1 else Z c)
      split
      · omega
      · exact Int.le_refl _
    have hP4 : ∀ c, c < W * H → P c ≤ 4 := fun c hc => by
      show (if c < W * H ∧ L c ≠ Z c ∧ Z c = Z c0 then Z c0 + 1 else Z c) ≤ 4
      split
      · have := hL c0 hc0; omega
      · exact (hZ.1 c hc).2
    have hPF : PF W H h P := fun c hc d hd => by
      by_cases e : c < W * H ∧ L c ≠ Z c ∧ Z c = Z c0
      · rw [show P c = Z c0 + 1 from if_pos e]
        have hr := nbr_rng h1 h2 h3 h4 hc d
        have hz0 : 0 ≤ Z c := by
          have := (hZ.1 c hc).1
          have := (hh c hc).1
          omega
        have hnw : ¬ nbv L W H c d ≤ Z c := fun z => hw ⟨c, e.1, e.2.1, e.2.2, d, hd, z⟩
        unfold nbv at hnw ⊢
        by_cases e3 : nbr W H c d = -1
        · rw [if_pos e3] at hnw; omega
        · rw [if_neg e3] at hnw ⊢
          have hm : (nbr W H c d).toNat < W * H := by omega
          generalize (nbr W H c d).toNat = m at *
          by_cases e4 : L m = Z m
          · have := hPZ m; omega
          · have := hmin m hm e4
            by_cases e5 : Z m = Z c0
            · rw [show P m = Z c0 + 1 from if_pos ⟨hm, e4, e5⟩]; omega
            · have := hPZ m; omega
      · rw [show P c = Z c from if_neg e]
        have e1 := hZ.2.1 c hc d hd
        have e2 := nbv_mono h1 h2 h3 h4 (P := Z) (L := P) (fun c _ => hPZ c) hc d
        omega
    have := hZ.2.2 P hPF hP4 c0 hc0
    rw [show P c0 = Z c0 + 1 from if_pos ⟨hc0, hd0, rfl⟩] at this
    omega
theorem settle_s {W H : Nat} {w : Wd} (hg : Gnd W H w) {k : Nat} (hk11 : k ≠ 11) (hk : W * H ≤ LI k) (hk2 : LI k ≤ 2000) {h Z : Nat → Int} (hf : ∀ c, c < W * H → w.1 k c = iv (h c) ∧ Hgt (h c)) (hZ : IsZ W H h Z) : ∃ w1, fX7_settle k w = some ((), w1) ∧ (∀ c, c < W * H → w1.1 11 c = iv (Z c)) ∧ Kp (fun q => q ≠ 11) w w1 := by
  have hN := WH_le hg.1.2.1 hg.1.2.2.2.1
  have hh := fun c hc => (hf c hc).2
  obtain ⟨w0, a1, a2, a3⟩ := fill_s (k := 11) (by rw [LI_11]; omega) (by rw [LI_11]; omega) 4 w
  unfold fX7_settle
  rw [a1, bnd_s]
  let St : (Nat → Int) → Wd → Prop := fun L w' => (∀ c, c < W * H → w'.1 11 c = iv (L c)) ∧ (∀ c, c < W * H → Z c ≤ L c ∧ L c ≤ 4) ∧ Kp (fun q => q ≠ 11) w w'
  let nf : (Nat → Int) → Int := fun L => sm (fun c => if L c = Z c then 0 else 1) (W * H)
  have done : ∀ L w', St L w' → (∀ c, c < W * H → L c = Z c) → (∀ c, c < W * H → w'.1 11 c = iv (Z c)) := fun L w' hS hE c hc => by rw [hS.1 c hc, hE c hc]
  refine lpB (m := 25) (fun r => ∃ w1, r = some ((), w1) ∧ (∀ c, c < W * H → w1.1 11 c = iv (Z c)) ∧ Kp (fun q => q ≠ 11) w w1) (fun i x w' => ∃ L, St L w' ∧ (x = 0 → ∀ c, c < W * H → L c = Z c) ∧ nf L ≤ 25 - i) ?_ ?_ (hGn (by omega)) ⟨fun _ => 4, ⟨fun c hc => a2 c (by rw [LI_11]; omega), fun c hc => ⟨(hZ.1 c hc).2, Int.le_refl _⟩, a3⟩, fun z => absurd z (show ¬ (1 : Int32) = 0 by decide), ?_⟩
  · rintro r x w0 kk hr ⟨L0, hS0, hx, hnf⟩
    unfold bX7_settle_12
    rw [if_neg (by rw [iv_25, iv_le (by omega) (by omega)]; omega)]
    by_cases ex : x = 0
    · rw [if_pos ex]
      exact Or.inr ⟨w0, rfl, done L0 w0 hS0 (hx ex), hS0.2.2⟩
    · rw [if_neg ex]
      refine Or.inl ?_
      -- a round
      have rnd := lpC (z := fun _ _ _ _ => none) (b := bX7_settle_27 k kk) (m := W * H) (n := G) (x := 0) (y := iv r) (w := w0) (fun rr => ∃ x' w', rr = kk x' (iv ((r + 1 : Nat) : Int)) w' ∧ ∃ L, St L w' ∧ (x' = 0 → ∀ c, c < W * H → L c = Z c) ∧ nf L ≤ 25 - ((r + 1 : Nat) : Int))
        (fun i y v w' => ∃ L, St L w' ∧ v = iv r ∧ (∀ c, c < W * H → L c ≤ L0 c) ∧ ((y = 0 ∧ (∀ c, c < W * H → L c = L0 c) ∧ ∀ c, c < i → L0 c ≤ max (h c) (mn4 (nbv L0 W H c) 4)) ∨ (y = 1)) ∧ (∀ c, c < i → c < W * H → (∃ d, d < 4 ∧ nbv L0 W H c d ≤ Z c) → L c = Z c)) ?_ ?_ (hGn (by omega)) ⟨L0, hS0, rfl, fun _ _ => Int.le_refl _, Or.inl ⟨rfl, fun _ _ => rfl, fun c hc => by omega⟩, fun c hc => by omega⟩
      · exact rnd
      · rintro i y v w' k2 hi ⟨L, ⟨s1, s2, s3⟩, rfl, s4, s5, s6⟩
        refine Or.inl ?_
        have hg' : Gnd W H w' := hg.kept (s3.weak fun k z => by omega)
        have hLH : ∀ c, c < W * H → w'.1 11 c = iv (L c) ∧ Hgt (L c) := fun c hc => ⟨s1 c hc, by
          have := s2 c hc
          have := (hZ.1 c hc).1
          have := hh c hc
          unfold Hgt at *; omega⟩
        have hLi := (hLH i hi).2
        have hhi := hh i hi
        have hmn := mn4_bd (f := nbv L W H i) (n := 4) (fun d _ => (nbv_H hg.1.1 hg.1.2.1 hg.1.2.2.1 hg.1.2.2.2.1 (fun c hc => (hLH c hc).2) hi d).1)
        have hZi := s2 i hi
        have hnm := fun d => nbv_mono hg.1.1 hg.1.2.1 hg.1.2.2.1 hg.1.2.2.2.1 s4 hi d
        have hZm : Z i ≤ max (h i) (mn4 (nbv L W H i) 4) := by
          by_cases e : Z i ≤ h i
          · omega
          · have := mn4_ge (f := nbv L W H i) (z := Z i) (by omega) 4 (fun d hd => by
              have e1 := hZ.2.1 i hi d hd
              have e2 := nbv_mono hg.1.1 hg.1.2.1 hg.1.2.2.1 hg.1.2.2.2.1 (P := Z) (L := L) (fun c hc => (s2 c hc).1) hi d
              omega)
            omega
        have hset : (∃ d, d < 4 ∧ nbv L0 W H i d ≤ Z i) → max (h i) (mn4 (nbv L W H i) 4) ≤ Z i := by
          rintro ⟨d, hd, q⟩
          have e1 := mn4_le (nbv L W H i) 4 d hd
          have e2 := hnm d
          have e3 := (hZ.1 i hi).1
          omega
        unfold Hgt at hLi hhi
        unfold bX7_settle_27 jX7_settle_77
        rw [cells_s hg'.1, bnd_s, if_neg (iv_Nle (by omega) hi), gI_iv (by omega) hk2, bind_s, lowest_s hg' hLH hi, bnd_s, gI_iv (by rw [LI_11]; omega) (by rw [LI_11]; omega), bind_s, (s3 k hk11).1, (hf i hi).1, iv_max (by omega) (by omega), s1 i hi, iv_s1]
        generalize hM : max (h i) (mn4 (nbv L W H i) 4) = M at *
        by_cases q : L i ≤ M
        · rw [if_pos (by rw [iv_le (by omega) (by omega)]; exact q)]
          refine ⟨y, iv r, w', rfl, L, ⟨s1, s2, s3⟩, rfl, s4, ?_, fun c hc hcN hd => ?_⟩
          · rcases s5 with ⟨y0, y1, y2⟩ | y0
            · refine Or.inl ⟨y0, y1, fun c hc => ?_⟩
              by_cases e : c = i
              · subst e
                have e6 : nbv L0 W H c = nbv L W H c := by
                  funext d
                  have hr := nbr_rng hg.1.1 hg.1.2.1 hg.1.2.2.1 hg.1.2.2.2.1 hi d
                  unfold nbv
                  by_cases e7 : nbr W H c d = -1
                  · rw [if_pos e7, if_pos e7]
                  · rw [if_neg e7, if_neg e7, y1 _ (by omega)]
                rw [e6, hM, ← y1 c hi]; exact q
              · exact y2 c (by omega)
            · exact Or.inr y0
          · by_cases e : c = i
            · subst e
              have := hset hd
              omega
            · exact s6 c (by omega) hcN hd
        · rw [if_neg (by rw [iv_le (by omega) (by omega)]; exact q), sI_iv (by rw [LI_11]; omega) (by rw [LI_11]; omega), bind_s]
          refine ⟨1, iv r, _, rfl, fun c => if c = i then M else L c, ⟨fun c hc => ?_, fun c hc => ?_, s3.trans (Kp.uI (fun z => z rfl))⟩, rfl, fun c hc => ?_, Or.inr rfl, fun c hc hcN hd => ?_⟩
          · show _ = iv (if c = i then M else L c)
            by_cases e : c = i
            · subst e; rw [if_pos rfl, uI_same]
            · rw [if_neg e, uI_other (Or.inr e)]; exact s1 c hc
          · show Z c ≤ (if c = i then M else L c) ∧ (if c = i then M else L c) ≤ 4
            by_cases e : c = i
            · subst e; rw [if_pos rfl]; omega
            · rw [if_neg e]; exact s2 c hc
          · show (if c = i then M else L c) ≤ L0 c
            have := s4 c hc
            by_cases e : c = i
            · subst e; rw [if_pos rfl]; omega
            · rw [if_neg e]; exact this
          · show (if c = i then M else L c) = Z c
            by_cases e : c = i
            · subst e
              have := hset hd
              rw [if_pos rfl]; omega
            · rw [if_neg e]; exact s6 c (by omega) hcN hd
      · rintro y v w' k2 ⟨L, hS, rfl, s4, s5, s6⟩
        have hg' : Gnd W H w' := hg.kept (hS.2.2.weak fun k z => by omega)
        unfold bX7_settle_27
        rw [cells_s hg'.1, bnd_s, if_pos iv_Nle', iv_s1]
        refine ⟨y, w', rfl, L, hS, fun y0 => ?_, ?_⟩
        · rcases s5 with ⟨_, y1, y2⟩ | y1
          · have hPF : PF W H h L := fun c hc d hd => by
              have e1 := y2 c hc
              have e6 : nbv L0 W H c = nbv L W H c := by
                funext d
                have hr := nbr_rng hg.1.1 hg.1.2.1 hg.1.2.2.1 hg.1.2.2.2.1 hc d
                unfold nbv
                by_cases e7 : nbr W H c d = -1
                · rw [if_pos e7, if_pos e7]
                · rw [if_neg e7, if_neg e7, y1 _ (by omega)]
              rw [e6] at e1
              have e2 := mn4_le (nbv L W H c) 4 d hd
              rw [y1 c hc]
              omega
            intro c hc
            have e1 := hZ.2.2 L hPF (fun c hc => (hS.2.1 c hc).2) c hc
            have e2 := hS.2.1 c hc
            omega
          · rw [y0] at y1; exact absurd y1 (by decide)
        · -- one more cell is settled
          have hle : ∀ c, c < W * H → (if L c = Z c then (0 : Int) else 1) ≤ (if L0 c = Z c then 0 else 1) := fun c hc => by
            have e1 := s4 c hc
            have e2 := hS.2.1 c hc
            by_cases e : L0 c = Z c
            · rw [if_pos e, if_pos (by omega)]; exact Int.le_refl _
            · rw [if_neg e]; split <;> omega
          by_cases hall : ∃ c, c < W * H ∧ L0 c ≠ Z c
          · obtain ⟨c, b1, b2, b3⟩ := next_settled hg.1.1 hg.1.2.1 hg.1.2.2.1 hg.1.2.2.2.1 hh hZ hS0.2.1 hall
            have b4 := s6 c b1 b1 b3
            have : nf L < nf L0 := sm_lt hle ⟨c, b1, by rw [if_pos b4, if_neg b2]; omega⟩
            omega
          · have : nf L ≤ 0 := by
              have e0 : nf L ≤ sm (fun _ => (0 : Int)) (W * H) := sm_le (fun c hc => by
                have e1 := s4 c hc
                have e2 := hS.2.1 c hc
                have e3 : L0 c = Z c := by
                  by_cases e4 : L0 c = Z c
                  · exact e4
                  · exact absurd ⟨c, hc, e4⟩ hall
                rw [if_pos (by omega)]; exact Int.le_refl _)
              rw [sm_zero] at e0; exact e0
            omega
  · rintro x w' kk ⟨L, hS, _, hnf⟩
    have hall : ∀ c, c < W * H → L c = Z c := fun c hc => by
      by_cases e : L c = Z c
      · exact e
      · exfalso
        have : sm (fun _ => (0 : Int)) (W * H) < nf L := sm_lt (fun c _ => by split <;> omega) ⟨c, hc, by rw [if_neg e]; omega⟩
        rw [sm_zero] at this; omega
    refine ⟨w', ?_, done L w' hS hall, hS.2.2⟩
    unfold bX7_settle_12
    rw [if_pos (by rw [iv_25]; exact Int32.le_refl _)]
  · have := sm_bound (f := fun c => if (4 : Int) = Z c then (0 : Int) else 1) (lo := 0) (hi := 1) (n := W * H) (fun c _ => by split <;> omega)
    show sm (fun c => if (4 : Int) = Z c then (0 : Int) else 1) (W * H) ≤ 25 - ((0 : Nat) : Int)
    omega
section STEPS
variable {FT : Tl → Wd → Prop} {t : Nat} {w : Wd}
theorem g11 (hF : FTk FT) (hg : Good FT t w) (p q d : Int32) : ∃ w', st11 p q d w = some w' ∧ Good FT (t + 1) w' := by
  obtain ⟨a, ha, hc, hm, hv⟩ := hg
  have hN := aN_le ha
  unfold st11
  rcases rng 4 p with ⟨s, hs, rfl⟩ | hb
  · obtain ⟨_, Z, _, _, hZ, _⟩ := mlayWater_s hm.1 hs (hm.slot ha hs)
    obtain ⟨w1, e1, e2, e3⟩ := settle_s (k := 6 + s) hc.1 (by omega) (by rw [LI_slot hs]; exact hN) (by rw [LI_slot hs]; omega) (hc.slot ha hs) hZ
    have hc1 : CS a w1 := hc.kept (e3.weak fun k z => by unfold stC at z; omega)
    have hZH : ∀ c, c < aN a → Hgt (Z c) := fun c hcc => by
      have h1 := hZ.1 c hcc
      have h2 := ha.2.1 s hs c hcc
      unfold Hgt at *; omega
    refine comb hF (v := iv (sm Z (aN a) - sm (aP a s) (aN a))) (a1 := a) ha hm ⟨w1, ?_, hc1, hv.kept hF (e3.weak fun k z => by omega) rfl, e3.weak fun k z => by unfold mR at z; omega⟩ (fun w2 hm2 => ?_)
    · unfold fX8_water fX7_waterKept
      rw [noSlot_g hs, bnd_s, if_pos rfl, ixA_iv hs (by omega), bind_s, e1, bnd_s, total_s hc1.1.1 (by rw [LI_11]; exact hN) (by rw [LI_11]; omega), bnd_s, total_a ha hc1 hs, bnd_s, bnd_s, iv_sub, sm_congr (g := Z) (fun c hcc => by rw [e2 c hcc, (hZH c hcc).ti])]
    · obtain ⟨w3, Z', m1, m2, m3, m4⟩ := mlayWater_s hm2.1 hs (hm2.slot ha hs)
      have hm3 : MS a w3 := hm2.kept (m4.weak fun k z => by unfold stM at z; omega)
      refine ⟨w3, ?_, hm3, m4.weak fun k z => by unfold cR at z; omega⟩
      unfold fX9_water
      rw [isSlot_g hs, bnd_s, if_neg (by decide), m1, bnd_s]
      have hu := hZ.uniq m3
      refine lpB (m := aN a) (fun r => r = some (iv (sm Z (aN a) - sm (aP a s) (aN a)), w3)) (fun i x w' => x = iv (sm Z i - sm (aP a s) i) ∧ w' = w3) ?_ ?_ (hGn (by omega)) ⟨rfl, rfl⟩
      · rintro i x w' kk hi ⟨rfl, rfl⟩
        refine Or.inl ⟨iv (sm Z (i + 1) - sm (aP a s) (i + 1)), w', ?_, rfl, rfl⟩
        unfold bX9_water_18
        rw [mcells_a hm3, bnd_s, if_neg (iv_Nle (by omega) hi), gI_iv (by rw [LI_106]; omega) (by rw [LI_106]; omega), bind_s, iv_25sc, gI_iv (by rw [LI_100]; omega) (by rw [LI_100]; omega), bind_s, m2 i hi, (hm3.slot ha hs i hi).1, iv_sub, iv_add, iv_s1, ← hu i hi, sm_s, sm_s]
        congr 2
        omega
      · rintro x w' kk ⟨rfl, rfl⟩
        unfold bX9_water_18
        rw [mcells_a hm3, bnd_s, if_pos iv_Nle']
  · refine comb0 hF (v := -1) ha hc hm hv ?_ ?_
    · unfold fX8_water
      rw [noSlot_b hb, bnd_s, if_neg (by decide)]
    · unfold fX9_water
      rw [isSlot_b hb, bnd_s, if_pos rfl]
theorem g12 (hF : FTk FT) (hg : Good FT t w) (p q d : Int32) : ∃ w', st12 p q d w = some w' ∧ Good FT (t + 1) w' := by
  obtain ⟨a, ha, hc, hm, hv⟩ := hg
  have hN := aN_le ha
  unfold st12
  rcases rng 4 p with ⟨s, hs, rfl⟩ | hb
  · rcases rng (aN a) q with ⟨c, hcc, rfl⟩ | hb2
    · obtain ⟨_, Z, _, _, hZ, _⟩ := mlayWater_s hm.1 hs (hm.slot ha hs)
      obtain ⟨w1, e1, e2, e3⟩ := settle_s (k := 6 + s) hc.1 (by omega) (by rw [LI_slot hs]; exact hN) (by rw [LI_slot hs]; omega) (hc.slot ha hs) hZ
      have hc1 : CS a w1 := hc.kept (e3.weak fun k z => by unfold stC at z; omega)
      refine comb hF (v := iv (Z c)) (a1 := a) ha hm ⟨w1, ?_, hc1, hv.kept hF (e3.weak fun k z => by omega) rfl, e3.weak fun k z => by unfold mR at z; omega⟩ (fun w2 hm2 => ?_)
      · unfold fX8_level fX7_waterLevel
        rw [noSlot_g hs, bnd_s, if_pos rfl, noCell_g hc.1.1 hcc, bnd_s, if_pos rfl, ixA_iv hs (by omega), bind_s, e1, bnd_s, gI_iv (by rw [LI_11]; omega) (by rw [LI_11]; omega), bind_s, bnd_s, e2 c hcc]
      · obtain ⟨w3, Z', m1, m2, m3, m4⟩ := mlayWater_s hm2.1 hs (hm2.slot ha hs)
        have hm3 : MS a w3 := hm2.kept (m4.weak fun k z => by unfold stM at z; omega)
        refine ⟨w3, ?_, hm3, m4.weak fun k z => by unfold cR at z; omega⟩
        unfold fX9_level
        rw [isSlot_g hs, bnd_s, if_neg (by decide), isCell_g hm2.1 hcc, bnd_s, if_neg (by decide), m1, bnd_s, gI_iv (by rw [LI_106]; omega) (by rw [LI_106]; omega), bind_s, m2 c hcc, hZ.uniq m3 c hcc]
    · refine comb0 hF (v := -1) ha hc hm hv ?_ ?_
      · unfold fX8_level
        rw [noSlot_g hs, bnd_s, if_pos rfl, noCell_b hc.1.1 hb2, bnd_s, if_neg (by decide)]
      · unfold fX9_level
        rw [isSlot_g hs, bnd_s, if_neg (by decide), isCell_b hm.1 hb2, bnd_s, if_pos rfl]
  · refine comb0 hF (v := -1) ha hc hm hv ?_ ?_
    · unfold fX8_level
      rw [noSlot_b hb, bnd_s, if_neg (by decide)]
    · unfold fX9_level
      rw [isSlot_b hb, bnd_s, if_pos rfl]
end STEPS
