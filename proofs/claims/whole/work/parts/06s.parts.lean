/-! ===== layers and their parts, as the class counts them ===== -/
theorem layerCells_s {W H : Nat} {w : Wd} (hg : GW W H w) {j : Nat} (hj : W * H ≤ LI j) (hj2 : LI j ≤ 2000) {h : Nat → Int} (hf : ∀ c, c < W * H → w.1 j c = iv (h c) ∧ Hgt (h c)) {k : Int} (hk : 0 ≤ k ∧ k ≤ 4) : fX7_layerCells j (iv k) w = some (iv (sm (fun c => if h c < k then 0 else 1) (W * H)), w) := by
  have hN := WH_le hg.2.1 hg.2.2.2.1
  unfold fX7_layerCells
  refine lpB (m := W * H) (fun r => r = some (iv (sm (fun c => if h c < k then 0 else 1) (W * H)), w)) (fun i x w' => x = iv (sm (fun c => if h c < k then 0 else 1) i) ∧ w' = w) ?_ ?_ (hGn (by omega)) ⟨rfl, rfl⟩
  · rintro i x w' kk hi ⟨rfl, rfl⟩
    have hh := (hf i hi).2
    unfold Hgt at hh
    refine Or.inl ⟨iv (sm (fun c => if h c < k then 0 else 1) (i + 1)), w', ?_, rfl, rfl⟩
    unfold bX7_layerCells_5 jX7_layerCells_28
    rw [cells_s hg, bnd_s, if_neg (iv_Nle (by omega) hi), gI_iv (by omega) hj2, bind_s, (hf i hi).1, iv_s1, sm_s]
    by_cases e : h i < k
    · rw [if_pos (by rw [iv_lt (by omega) (by omega)]; exact e), if_pos e, Int.add_zero]
    · rw [if_neg (by rw [iv_lt (by omega) (by omega)]; exact e), if_neg e, iv_1, iv_add]
  · rintro x w' kk ⟨rfl, rfl⟩
    unfold bX7_layerCells_5
    rw [cells_s hg, bnd_s, if_pos iv_Nle']
def mkd (w : Wd) (c : Nat) : Int := if w.1 12 c = 0 then 0 else 1
theorem mkd_bd (w : Wd) (c : Nat) : 0 ≤ mkd w c ∧ mkd w c ≤ 1 := by unfold mkd; split <;> omega
theorem sm_one {f g : Nat → Int} {m : Nat} : ∀ {n : Nat}, m < n → (∀ i, i < n → i ≠ m → f i = g i) → f m = g m + 1 → sm f n = sm g n + 1
  | 0, h, _, _ => by omega
  | n + 1, h, h1, h2 => by
    rw [sm_s, sm_s]
    by_cases e : m = n
    · subst e
      rw [sm_congr (f := f) (g := g) (fun i hi => h1 i (by omega) (by omega)), h2]; omega
    · rw [sm_one (n := n) (by omega) (fun i hi hne => h1 i (by omega) hne) h2, h1 n (by omega) (by omega)]; omega
theorem markPart_s {W H : Nat} {w : Wd} (hg : Gnd W H w) {j : Nat} (hj12 : j ≠ 12) (hj13 : j ≠ 13) (hj : W * H ≤ LI j) (hj2 : LI j ≤ 2000) {h : Nat → Int} (hf : ∀ c, c < W * H → w.1 j c = iv (h c) ∧ Hgt (h c)) {k : Int} (hk : 0 ≤ k ∧ k ≤ 4) {st : Nat} (hst : st < W * H) (hon : k ≤ h st) {p : Int} (hp : 1 ≤ p ∧ p ≤ 100) (hst0 : w.1 12 st = 0) (hcl : ∀ x y, Aj W H h k x y → w.1 12 x ≠ 0 → w.1 12 y ≠ 0) : ∃ w1, fX7_markPart j (iv k) (iv st) (iv p) w = some ((), w1) ∧ (∀ c, c < W * H → (w1.1 12 c ≠ 0 ↔ (w.1 12 c ≠ 0 ∨ Rc (Aj W H h k) st c))) ∧ Kp (fun q => q ≠ 12 ∧ q ≠ 13) w w1 := by
  have hN := WH_le hg.1.2.1 hg.1.2.2.2.1
  have hp0 : iv p ≠ 0 := by rw [iv_0]; exact fun z => absurd ((iv_eq (by omega) (by omega)).mp z) (by omega)
  let B : Nat → (Nat → Nat) → Wd → Prop := fun f q w' => (1 ≤ f ∧ f ≤ W * H) ∧ (∀ i, i < f → w'.1 13 i = iv (q i) ∧ q i < W * H ∧ k ≤ h (q i) ∧ Rc (Aj W H h k) st (q i) ∧ w'.1 12 (q i) ≠ 0) ∧ w'.1 12 st ≠ 0 ∧ (∀ c, c < W * H → w.1 12 c ≠ 0 → w'.1 12 c ≠ 0) ∧ (∀ c, c < W * H → w'.1 12 c ≠ 0 → w.1 12 c ≠ 0 ∨ ∃ i, i < f ∧ q i = c) ∧ sm (mkd w') (W * H) = sm (mkd w) (W * H) + f ∧ Kp (fun q => q ≠ 12 ∧ q ≠ 13) w w'
  let Pd : Nat → (Nat → Nat) → Nat → Wd → Prop := fun i q d w' => ∀ i', i' < i → ∀ d' m, d' < d → nbr W H (q i') d' = (m : Nat) → k ≤ h m → w'.1 12 m ≠ 0
  have fin : ∀ f q i w', B f q w' → f ≤ i → (∀ i', i' < i → i' < f → ∀ d' m, d' < 4 → nbr W H (q i') d' = (m : Nat) → k ≤ h m → w'.1 12 m ≠ 0) → ∃ w1, some ((), w') = some ((), w1) ∧ (∀ c, c < W * H → (w1.1 12 c ≠ 0 ↔ (w.1 12 c ≠ 0 ∨ Rc (Aj W H h k) st c))) ∧ Kp (fun q => q ≠ 12 ∧ q ≠ 13) w w1 := by
    rintro f q i w' ⟨b1, b2, b3, b4, b5, b6, b7⟩ hfi hpd
    refine ⟨w', rfl, fun c hc => ⟨fun hm => ?_, fun hm => ?_⟩, b7⟩
    · rcases b5 c hc hm with z | ⟨i', hi', rfl⟩
      · exact Or.inl z
      · exact Or.inr (b2 i' hi').2.2.2.1
    · rcases hm with z | z
      · exact b4 c hc z
      · refine (z (fun z => z < W * H ∧ w'.1 12 z ≠ 0) ⟨hst, b3⟩ (fun u v a b => ⟨b.2.1, ?_⟩)).2
        rcases b5 u a.1 a.2 with y | ⟨i', hi', e⟩
        · exact b4 v b.2.1 (hcl u v b y)
        · obtain ⟨_, _, _, a4, d, hd, hn⟩ := b
          exact hpd i' (by omega) hi' d v hd (by rw [e]; exact hn) a4
  unfold fX7_markPart
  rw [show (0 : Int32) = iv ((0 : Nat) : Int) by decide, sI_iv (by rw [LI_13]; omega) (by rw [LI_13]; omega), bind_s, sI_iv (by rw [LI_12]; omega) (by rw [LI_12]; omega), bind_s, show iv ((0 : Nat) : Int) = (0 : Int32) by decide]
  refine lpB (m := 25) (fun r => ∃ w1, r = some ((), w1) ∧ (∀ c, c < W * H → (w1.1 12 c ≠ 0 ↔ (w.1 12 c ≠ 0 ∨ Rc (Aj W H h k) st c))) ∧ Kp (fun q => q ≠ 12 ∧ q ≠ 13) w w1) (fun i x w' => ∃ f q, x = iv (f : Nat) ∧ B f q w' ∧ (∀ i', i' < i → i' < f → ∀ d' m, d' < 4 → nbr W H (q i') d' = (m : Nat) → k ≤ h m → w'.1 12 m ≠ 0)) ?_ ?_ (hGn (by omega)) ⟨1, fun _ => st, rfl, ⟨⟨by omega, by omega⟩, fun i hi => ?_, ?_, fun c hc hm => ?_, fun c hc hm => ?_, ?_, ?_⟩, fun i' hi' => by omega⟩
  · rintro i x w' kk hi ⟨f, q, rfl, hB, hpd⟩
    have hf1 := hB.1
    unfold bX7_markPart_21
    by_cases e : f ≤ i
    · rw [if_pos (by rw [iv_le (by omega) (by omega)]; omega)]
      exact Or.inr (fin f q i w' hB e hpd)
    · rw [if_neg (by rw [iv_le (by omega) (by omega)]; omega), if_neg (by rw [iv_25, iv_le (by omega) (by omega)]; omega)]
      refine Or.inl ?_
      refine lpC (z := fun _ _ _ _ => none) (b := bX7_markPart_38 j (iv k) (iv st) (iv p) kk) (m := 4) (n := G) (x := iv f) (y := iv i) (w := w') (fun rr => ∃ x' w'', rr = kk x' (iv ((i + 1 : Nat) : Int)) w'' ∧ ∃ f q, x' = iv (f : Nat) ∧ B f q w'' ∧ (∀ i', i' < i + 1 → i' < f → ∀ d' m, d' < 4 → nbr W H (q i') d' = (m : Nat) → k ≤ h m → w''.1 12 m ≠ 0))
        (fun d x y w'' => y = iv i ∧ ∃ f q, x = iv (f : Nat) ∧ i < f ∧ B f q w'' ∧ (∀ i', i' < i → ∀ d' m, d' < 4 → nbr W H (q i') d' = (m : Nat) → k ≤ h m → w''.1 12 m ≠ 0) ∧ (∀ d' m, d' < d → nbr W H (q i) d' = (m : Nat) → k ≤ h m → w''.1 12 m ≠ 0)) ?_ ?_ (hGn (by omega)) ⟨rfl, f, q, rfl, by omega, hB, fun i' hi' => hpd i' hi' (by omega), fun d' m hd' => by omega⟩
      · rintro d x y w2 k2 hd ⟨rfl, f, q, rfl, hif, ⟨b1, b2, b3, b4, b5, b6, b7⟩, p1, p2⟩
        refine Or.inl ?_
        have hg' : Gnd W H w2 := hg.kept (b7.weak fun k z => by omega)
        have hqi := b2 i hif
        have hr := nbr_rng hg.1.1 hg.1.2.1 hg.1.2.2.1 hg.1.2.2.2.1 hqi.2.1 d
        unfold bX7_markPart_38 jX7_markPart_117
        rw [if_neg (by rw [iv_4, iv_le (by omega) (by omega)]; omega), gI_iv (by rw [LI_13]; omega) (by rw [LI_13]; omega), bind_s, hqi.1, beside_s hg' hqi.2.1 hd, bnd_s, iv_s1]
        have stay : (∀ m : Nat, nbr W H (q i) d = m → k ≤ h m → w2.1 12 m ≠ 0) → ∃ x' y' w'', k2 (iv f) (iv i) (iv ((d + 1 : Nat) : Int)) w2 = k2 x' y' (iv ((d + 1 : Nat) : Int)) w'' ∧ y' = iv i ∧ ∃ f q, x' = iv (f : Nat) ∧ i < f ∧ B f q w'' ∧ (∀ i', i' < i → ∀ d' m, d' < 4 → nbr W H (q i') d' = (m : Nat) → k ≤ h m → w''.1 12 m ≠ 0) ∧ (∀ d' m, d' < d + 1 → nbr W H (q i) d' = (m : Nat) → k ≤ h m → w''.1 12 m ≠ 0) := fun hs => ⟨iv f, iv i, w2, rfl, rfl, f, q, rfl, hif, ⟨b1, b2, b3, b4, b5, b6, b7⟩, p1, fun d' m hd' hn ho => by
          by_cases e : d' = d
          · subst e; exact hs m hn ho
          · exact p2 d' m (by omega) hn ho⟩
        by_cases e1 : nbr W H (q i) d = -1
        · rw [if_pos (by rw [e1]; decide)]
          exact stay (fun m hm => by omega)
        · obtain ⟨m, hm⟩ : ∃ m : Nat, nbr W H (q i) d = (m : Int) := ⟨(nbr W H (q i) d).toNat, by omega⟩
          have hmN : m < W * H := by omega
          have hhm := (hf m hmN).2
          unfold Hgt at hhm
          have room : w2.1 12 m = 0 → f < W * H := fun e3 => by
            have hlt : sm (mkd w2) (W * H) < sm (fun _ => (1 : Int)) (W * H) := sm_lt (fun c _ => (mkd_bd w2 c).2) ⟨m, hmN, by unfold mkd; rw [if_pos e3]; omega⟩
            have hle : sm (fun _ => (1 : Int)) (W * H) ≤ 1 * ((W * H : Nat) : Int) := (sm_bound (f := fun _ => (1 : Int)) (lo := 0) (hi := 1) (n := W * H) (fun _ _ => by omega)).2
            have hnn : 0 ≤ sm (mkd w) (W * H) := sm_nonneg (fun c _ => (mkd_bd w c).1)
            omega
          rw [hm, if_neg (by rw [iv_m1, iv_eq (by omega) (by omega)]; omega)]
          by_cases hv : 25 ≤ f
          · rw [if_neg (by rw [iv_25, iv_lt (by omega) (by omega)]; omega)]
            exact stay (fun m' hm' _ h0 => by
              have : m' = m := by omega
              subst this
              have := room h0
              omega)
          rw [if_pos (by rw [iv_25, iv_lt (by omega) (by omega)]; omega), gI_iv (by omega) hj2, bind_s, (b7 j ⟨hj12, hj13⟩).1, (hf m hmN).1]
          by_cases e2 : h m < k
          · rw [if_pos (by rw [iv_lt (by omega) (by omega)]; exact e2)]
            exact stay (fun m' hm' ho => by
              have : m' = m := by omega
              subst this; omega)
          · rw [if_neg (by rw [iv_lt (by omega) (by omega)]; exact e2), gI_iv (by rw [LI_12]; omega) (by rw [LI_12]; omega), bind_s]
            by_cases e3 : w2.1 12 m = 0
            · -- a new cell: there is room
              have hfN : f < W * H := room e3
              rw [if_pos e3, sI_iv (by rw [LI_12]; omega) (by rw [LI_12]; omega), bind_s, sI_iv (by rw [LI_13]; omega) (by rw [LI_13]; omega), bind_s, iv_s1]
              have hA : Aj W H h k (q i) m := ⟨hqi.2.1, hmN, hqi.2.2.1, by omega, d, hd, hm⟩
              have r12 : ∀ c, (uI (uI w2 12 m (iv p)) 13 f (iv m)).1 12 c = if c = m then iv p else w2.1 12 c := fun c => by
                rw [uI_row (by omega)]
                by_cases z : c = m
                · subst z; rw [if_pos rfl, uI_same]
                · rw [if_neg z, uI_other (Or.inr z)]
              have keep : ∀ c, w2.1 12 c ≠ 0 → (uI (uI w2 12 m (iv p)) 13 f (iv m)).1 12 c ≠ 0 := fun c hc => by
                rw [r12 c]; split
                · exact hp0
                · exact hc
              refine ⟨iv ((f + 1 : Nat) : Int), iv i, _, rfl, rfl, f + 1, fun i' => if i' = f then m else q i', rfl, by omega, ⟨⟨by omega, by omega⟩, fun i' hi' => ?_, keep st b3, fun c hc hm => keep c (b4 c hc hm), fun c hc hmk => ?_, ?_, b7.trans ((Kp.uI (fun z => z.1 rfl)).trans (Kp.uI (fun z => z.2 rfl)))⟩, fun i' hi' d' m' hd' hn ho => ?_, fun d' m' hd' hn ho => ?_⟩
              · show (uI (uI w2 12 m (iv p)) 13 f (iv m)).1 13 i' = iv ((if i' = f then m else q i' : Nat) : Int) ∧ (if i' = f then m else q i') < W * H ∧ k ≤ h (if i' = f then m else q i') ∧ Rc (Aj W H h k) st (if i' = f then m else q i') ∧ (uI (uI w2 12 m (iv p)) 13 f (iv m)).1 12 (if i' = f then m else q i') ≠ 0
                by_cases z : i' = f
                · subst z
                  rw [if_pos rfl]
                  refine ⟨uI_same, hmN, by omega, hqi.2.2.2.1.tr (Rc.st hA), ?_⟩
                  rw [r12 m, if_pos rfl]; exact hp0
                · have hb := b2 i' (by omega)
                  rw [if_neg z]
                  refine ⟨?_, hb.2.1, hb.2.2.1, hb.2.2.2.1, keep _ hb.2.2.2.2⟩
                  rw [uI_other (Or.inr z), uI_row (by omega)]; exact hb.1
              · rw [r12 c] at hmk
                by_cases z : c = m
                · exact Or.inr ⟨f, by omega, by show (if f = f then m else q f) = c; rw [if_pos rfl, z]⟩
                · rw [if_neg z] at hmk
                  rcases b5 c hc hmk with y | ⟨i', hi', y⟩
                  · exact Or.inl y
                  · exact Or.inr ⟨i', by omega, by show (if i' = f then m else q i') = c; rw [if_neg (by omega), y]⟩
              · rw [sm_one (m := m) (f := mkd (uI (uI w2 12 m (iv p)) 13 f (iv m))) (g := mkd w2) hmN (fun c hc hne => by unfold mkd; rw [r12 c, if_neg hne]) (by unfold mkd; rw [r12 m, if_pos rfl, if_neg hp0, if_pos e3]; rfl), b6]
                omega
              · have hne : (if i' = f then m else q i') = q i' := if_neg (by omega)
                have hn' : nbr W H (if i' = f then m else q i') d' = (m' : Nat) := hn
                rw [hne] at hn'
                exact keep m' (p1 i' hi' d' m' hd' hn' ho)
              · have hne : (if i = f then m else q i) = q i := if_neg (by omega)
                have hn' : nbr W H (if i = f then m else q i) d' = (m' : Nat) := hn
                rw [hne] at hn'
                by_cases z : d' = d
                · subst z
                  have : m' = m := by omega
                  subst this
                  rw [r12 m', if_pos rfl]; exact hp0
                · exact keep m' (p2 d' m' (by omega) hn' ho)
            · rw [if_neg e3]
              exact stay (fun m' hm' _ => by
                have : m' = m := by omega
                subst this; exact e3)
      · rintro x y w2 k2 ⟨rfl, f, q, rfl, hif, hB, p1, p2⟩
        unfold bX7_markPart_38
        rw [if_pos (by rw [iv_4]; exact Int32.le_refl _), iv_s1]
        refine ⟨iv f, w2, rfl, f, q, rfl, hB, fun i' hi' _ d' m hd' hn ho => ?_⟩
        by_cases z : i' = i
        · subst z; exact p2 d' m hd' hn ho
        · exact p1 i' (by omega) d' m hd' hn ho
  · rintro x w' kk ⟨f, q, rfl, hB, hpd⟩
    have hf1 := hB.1
    unfold bX7_markPart_21
    rw [if_pos (by rw [iv_le (by omega) (by omega)]; omega)]
    exact fin f q 25 w' hB (by omega) hpd
  · have : i = 0 := by omega
    subst this
    refine ⟨?_, hst, hon, Rc.rf, ?_⟩
    · rw [uI_row (by omega), uI_same]
    · rw [uI_same]; exact hp0
  · rw [uI_same]; exact hp0
  · by_cases z : c = st
    · subst z; exact absurd hst0 hm
    · rw [uI_other (Or.inr z), uI_row (by omega)]; exact hm
  · by_cases z : c = st
    · exact Or.inr ⟨0, by omega, z.symm⟩
    · rw [uI_other (Or.inr z), uI_row (by omega)] at hm; exact Or.inl hm
  · rw [sm_one (m := st) (f := mkd (uI (uI w 13 0 (iv st)) 12 st (iv p))) (g := mkd w) hst (fun c hc hne => by unfold mkd; rw [uI_other (Or.inr hne), uI_row (by omega)]) (by unfold mkd; rw [uI_same, if_neg hp0, if_pos hst0]; rfl)]
    rfl
  · exact (Kp.uI (fun z => z.2 rfl)).trans (Kp.uI (fun z => z.1 rfl))
theorem layerParts_s {W H : Nat} {w : Wd} (hg : Gnd W H w) {j : Nat} (hj12 : j ≠ 12) (hj13 : j ≠ 13) (hj : W * H ≤ LI j) (hj2 : LI j ≤ 2000) {h : Nat → Int} (hf : ∀ c, c < W * H → w.1 j c = iv (h c) ∧ Hgt (h c)) {k : Int} (hk : 0 ≤ k ∧ k ≤ 4) : ∃ w1, fX7_layerParts j (iv k) w = some (iv (sm (ld (Aj W H h k) (fun c => k ≤ h c)) (W * H)), w1) ∧ Kp (fun q => q ≠ 12 ∧ q ≠ 13) w w1 := by
  have hN := WH_le hg.1.2.1 hg.1.2.2.2.1
  have sy : ∀ u v, Aj W H h k u v → Aj W H h k v u := fun u v z => z.sym hg.1.2.1 hg.1.2.2.2.1
  obtain ⟨w0, a1, a2, a3⟩ := fill_s (k := 12) (by rw [LI_12]; omega) (by rw [LI_12]; omega) 0 w
  unfold fX7_layerParts
  rw [a1, bnd_s]
  refine lpB (m := W * H) (fun r => ∃ w1, r = some (iv (sm (ld (Aj W H h k) (fun c => k ≤ h c)) (W * H)), w1) ∧ Kp (fun q => q ≠ 12 ∧ q ≠ 13) w w1) (fun i x w' => x = iv (sm (ld (Aj W H h k) (fun c => k ≤ h c)) i) ∧ (∀ c, c < W * H → (w'.1 12 c ≠ 0 ↔ ∃ c', c' < i ∧ k ≤ h c' ∧ Rc (Aj W H h k) c' c)) ∧ Kp (fun q => q ≠ 12 ∧ q ≠ 13) w w') ?_ ?_ (hGn (by omega)) ⟨rfl, fun c hc => ⟨fun z => absurd (a2 c (by rw [LI_12]; omega)) z, fun z => by obtain ⟨c', z1, _⟩ := z; omega⟩, a3.weak fun k z => z.1⟩
  · rintro i x w' kk hi ⟨rfl, h1, h2⟩
    have hg' : Gnd W H w' := hg.kept (h2.weak fun k z => by omega)
    have hh := (hf i hi).2
    have hlb := lds_bd (Aj W H h k) (fun c => k ≤ h c) i
    unfold Hgt at hh
    refine Or.inl ?_
    unfold bX7_layerParts_13 jX7_layerParts_55
    rw [cells_s hg'.1, bnd_s, if_neg (iv_Nle (by omega) hi), gI_iv (by omega) hj2, bind_s, (h2 j ⟨hj12, hj13⟩).1, (hf i hi).1, iv_s1]
    by_cases e : h i < k
    · rw [if_pos (by rw [iv_lt (by omega) (by omega)]; exact e)]
      refine ⟨_, w', rfl, ?_, fun c hc => ?_, h2⟩
      · rw [sm_s, ld_n (fun z => by have : k ≤ h i := z.1; omega), Int.add_zero]
      · rw [h1 c hc]
        exact ⟨fun ⟨c', z1, z2⟩ => ⟨c', by omega, z2⟩, fun ⟨c', z1, z2⟩ => ⟨c', by
          by_cases y : c' = i
          · subst y; omega
          · omega, z2⟩⟩
    · rw [if_neg (by rw [iv_lt (by omega) (by omega)]; exact e), gI_iv (by rw [LI_12]; omega) (by rw [LI_12]; omega), bind_s]
      by_cases e2 : w'.1 12 i = 0
      · have hno : ¬ ∃ c', c' < i ∧ k ≤ h c' ∧ Rc (Aj W H h k) c' i := fun z => (h1 i hi).mpr z e2
        have hl : Ld (Aj W H h k) (fun c => k ≤ h c) i := ⟨by show k ≤ h i; omega, fun c' hc' on' hr => hno ⟨c', hc', on', hr⟩⟩
        obtain ⟨w1, b1, b2, b3⟩ := markPart_s hg' hj12 hj13 hj hj2 (h := h) (fun c hc => by rw [(h2 j ⟨hj12, hj13⟩).1]; exact hf c hc) hk hi (by omega) (p := sm (ld (Aj W H h k) (fun c => k ≤ h c)) i + 1) (by omega) e2 (fun x y hA hx => by
          obtain ⟨c', z1, z2, z3⟩ := (h1 x hA.1).mp hx
          exact (h1 y hA.2.1).mpr ⟨c', z1, z2, z3.tr (Rc.st hA)⟩)
        rw [if_pos e2, show iv (sm (ld (Aj W H h k) (fun c => k ≤ h c)) i) + (1 : Int32) = iv (sm (ld (Aj W H h k) (fun c => k ≤ h c)) i + 1) by rw [iv_1, iv_add], b1, bnd_s]
        refine ⟨_, w1, rfl, by rw [sm_s, ld_y hl], fun c hc => ?_, h2.trans b3⟩
        rw [b2 c hc, h1 c hc]
        constructor
        · rintro (⟨c', z1, z2⟩ | z)
          · exact ⟨c', by omega, z2⟩
          · exact ⟨i, by omega, by omega, z⟩
        · rintro ⟨c', z1, z2, z3⟩
          by_cases y : c' = i
          · subst y; exact Or.inr z3
          · exact Or.inl ⟨c', by omega, z2, z3⟩
      · rw [if_neg e2]
        obtain ⟨c', z1, z2, z3⟩ := (h1 i hi).mp e2
        refine ⟨_, w', rfl, ?_, fun c hc => ?_, h2⟩
        · rw [sm_s, ld_n (fun z => z.2 c' z1 z2 z3), Int.add_zero]
        · rw [h1 c hc]
          constructor
          · rintro ⟨c2, y1, y2⟩
            exact ⟨c2, by omega, y2⟩
          · rintro ⟨c2, y1, y2, y3⟩
            by_cases y : c2 = i
            · subst y; exact ⟨c', z1, z2, z3.tr y3⟩
            · exact ⟨c2, by omega, y2, y3⟩
  · rintro x w' kk ⟨rfl, h1, h2⟩
    have hg' : Gnd W H w' := hg.kept (h2.weak fun k z => by omega)
    refine ⟨w', ?_, h2⟩
    unfold bX7_layerParts_13
    rw [cells_s hg'.1, bnd_s, if_pos iv_Nle']
section STEPS
variable {FT : Tl → Wd → Prop} {t : Nat} {w : Wd}
theorem g10 (hF : FTk FT) (hg : Good FT t w) (p q d : Int32) : ∃ w', st10 p q d w = some w' ∧ Good FT (t + 1) w' := by
  obtain ⟨a, ha, hc, hm, hv⟩ := hg
  have hN := aN_le ha
  unfold st10
  generalize bz d = T
  rcases rng 4 p with ⟨s, hs, rfl⟩ | hb
  · by_cases hq : 1 ≤ q.toInt ∧ q.toInt ≤ 4
    · obtain ⟨k, rfl, hk1⟩ : ∃ k : Int, q = iv k ∧ 1 ≤ k ∧ k ≤ 4 := ⟨q.toInt, (iv_toInt q).symm, hq⟩
      have hk : 0 ≤ k ∧ k ≤ 4 := ⟨by omega, by omega⟩
      -- the model's side
      have mod : ∀ w2, MS a w2 → ∃ w3, fX9_layer (iv s) (iv k) T w2 = some (iv (if T = 0 then sm (fun c => if aP a s c < k then 0 else 1) (aN a) else sm (ld (Aj (aW a) (aH a) (aP a s) k) (fun c => k ≤ aP a s c)) (aN a)), w3) ∧ MS a w3 ∧ Kp cR w2 w3 := by
        intro w2 hm2
        obtain ⟨w3, M, m1, m2, m3, m4⟩ := mlayParts_s hm2.1 hs (hm2.slot ha hs) hk
        have hm3 : MS a w3 := hm2.kept (m4.weak fun k z => by unfold stM at z; omega)
        have hMr : ∀ c, c < aN a → -9 ≤ M c ∧ M c ≤ 25 := fun c hcc => by
          by_cases e : aP a s c < k
          · have := m3.1 c hcc e; omega
          · have := m3.2.1 c hcc (by omega); omega
        refine ⟨w3, ?_, hm3, m4.weak fun k z => by unfold cR at z; omega⟩
        unfold fX9_layer
        rw [isSlot_g hs, bnd_s, if_neg (by decide), in_g w2 (by rw [L1, toInt_iv (by omega) (by omega)]; omega) (by rw [L4, toInt_iv (by omega) (by omega)]; omega), bnd_s, if_neg (by decide), m1, bnd_s]
        refine lpB (m := aN a) (fun r => r = some (iv (if T = 0 then sm (fun c => if aP a s c < k then 0 else 1) (aN a) else sm (ld (Aj (aW a) (aH a) (aP a s) k) (fun c => k ≤ aP a s c)) (aN a)), w3)) (fun i x w' => x = iv (if T = 0 then sm (fun c => if aP a s c < k then 0 else 1) i else sm (ld (Aj (aW a) (aH a) (aP a s) k) (fun c => k ≤ aP a s c)) i) ∧ w' = w3) ?_ ?_ (hGn (by omega)) ⟨by by_cases hT : T = 0 <;> simp only [hT, if_true, if_false] <;> rfl, rfl⟩
        · rintro i x w' kk hi ⟨rfl, rfl⟩
          have hr := hMr i hi
          refine Or.inl ⟨_, w', ?_, rfl, rfl⟩
          unfold bX9_layer_36 jX9_layer_88
          rw [mcells_a hm3, bnd_s, if_neg (iv_Nle (by omega) hi), gI_iv (by rw [LI_106]; omega) (by rw [LI_106]; omega), bind_s, bind_s, m2 i hi, iv_s1]
          by_cases hT : T = 0
          · rw [if_pos hT, if_pos hT, if_pos hT, sm_s]
            have hcnt := m3.cnt (c := i) hi
            rw [← hcnt]
            by_cases e : M i = -9
            · rw [if_pos (by rw [e]; decide), if_pos e, show (0 : Int32) = iv 0 by decide, iv_add]
            · rw [if_neg (by rw [iv_m9, iv_eq (by omega) (by omega)]; exact e), if_neg e, iv_1, iv_add]
          · rw [if_neg hT, if_neg hT, if_neg hT, sm_s]
            have hcnt := m3.lead ha.1.2.1 ha.1.2.2.2 (c := i) hi
            rw [← hcnt]
            by_cases e : M i = i
            · rw [if_pos (by rw [e]), if_pos e, iv_1, iv_add]
            · rw [if_neg (by rw [iv_eq (by omega) (by omega)]; exact e), if_neg e, show (0 : Int32) = iv 0 by decide, iv_add]
        · rintro x w' kk ⟨rfl, rfl⟩
          unfold bX9_layer_36
          rw [mcells_a hm3, bnd_s, if_pos iv_Nle']
      have g1' : ∀ {X Y Z : Option (Int32 × Wd)}, (if iv k < (1 : Int32) then X else if iv k ≤ (4 : Int32) then Y else Z) = Y := by
        intro X Y Z
        rw [if_neg (by rw [iv_1, iv_lt (by omega) (by omega)]; omega), if_pos (by rw [iv_4, iv_le (by omega) (by omega)]; omega)]
      by_cases hT : T = 0
      · refine comb hF (v := iv (if T = 0 then sm (fun c => if aP a s c < k then 0 else 1) (aN a) else sm (ld (Aj (aW a) (aH a) (aP a s) k) (fun c => k ≤ aP a s c)) (aN a))) (a1 := a) ha hm ⟨w, ?_, hc, hv.kept hF Kp.rf rfl, Kp.rf⟩ mod
        unfold fX8_layer
        rw [noSlot_g hs, bnd_s, if_pos rfl, g1', if_pos hT, if_pos hT, ixA_iv hs (by omega), bind_s, layerCells_s hc.1.1 (by rw [LI_slot hs]; exact hN) (by rw [LI_slot hs]; omega) (hc.slot ha hs) hk, bnd_s]
      · obtain ⟨w1, e1, e2⟩ := layerParts_s (j := 6 + s) hc.1 (by omega) (by omega) (by rw [LI_slot hs]; exact hN) (by rw [LI_slot hs]; omega) (hc.slot ha hs) hk
        refine comb hF (v := iv (if T = 0 then sm (fun c => if aP a s c < k then 0 else 1) (aN a) else sm (ld (Aj (aW a) (aH a) (aP a s) k) (fun c => k ≤ aP a s c)) (aN a))) (a1 := a) ha hm ⟨w1, ?_, hc.kept (e2.weak fun k z => by unfold stC at z; omega), hv.kept hF (e2.weak fun k z => by omega) rfl, e2.weak fun k z => by unfold mR at z; omega⟩ mod
        unfold fX8_layer
        rw [noSlot_g hs, bnd_s, if_pos rfl, g1', if_neg hT, if_neg hT, ixA_iv hs (by omega), bind_s, e1, bnd_s]
    · refine comb0 hF (v := -2) ha hc hm hv ?_ ?_
      · unfold fX8_layer
        rw [noSlot_g hs, bnd_s, if_pos rfl]
        by_cases e : q < 1
        · rw [if_pos e]
        · rw [if_neg e, if_neg]
          rw [Int32.lt_iff_toInt_lt, ti1] at e
          rw [Int32.le_iff_toInt_le, ti4]; omega
      · unfold fX9_layer
        rw [isSlot_g hs, bnd_s, if_neg (by decide), in_b w (by rw [L1, L4]; omega), bnd_s, if_pos rfl]
  · refine comb0 hF (v := -1) ha hc hm hv ?_ ?_
    · unfold fX8_layer
      rw [noSlot_b hb, bnd_s, if_neg (by decide)]
    · unfold fX9_layer
      rw [isSlot_b hb, bnd_s, if_pos rfl]
end STEPS
