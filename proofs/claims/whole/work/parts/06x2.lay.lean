/-! ===== counting: lay ===== -/
def pick (f : Nat → Int) (l : Int) : Nat := if l < sm f 1 then 0 else if l < sm f 2 then 1 else if l < sm f 3 then 2 else if l < sm f 4 then 3 else 4
theorem pick_f {f : Nat → Int} {l : Int} (h0 : 0 ≤ l) (h1 : l < sm f 5) : pick f l < 5 ∧ sm f (pick f l) ≤ l ∧ l < sm f (pick f l + 1) := by
  unfold pick
  by_cases a : l < sm f 1
  · rw [if_pos a]; exact ⟨by omega, h0, a⟩
  · rw [if_neg a]
    by_cases b : l < sm f 2
    · rw [if_pos b]; exact ⟨by omega, by omega, b⟩
    · rw [if_neg b]
      by_cases c : l < sm f 3
      · rw [if_pos c]; exact ⟨by omega, by omega, c⟩
      · rw [if_neg c]
        by_cases d : l < sm f 4
        · rw [if_pos d]; exact ⟨by omega, by omega, d⟩
        · rw [if_neg d]; exact ⟨by omega, by omega, h1⟩
theorem sm_mono {f : Nat → Int} (hf : ∀ v, 0 ≤ f v) : ∀ {n m : Nat}, n ≤ m → sm f n ≤ sm f m
  | n, 0, h => by rw [show n = 0 by omega]; exact Int.le_refl _
  | n, m + 1, h => by
    by_cases e : n = m + 1
    · rw [e]; exact Int.le_refl _
    · have := sm_mono hf (n := n) (m := m) (by omega)
      have := hf m
      rw [sm_s]; omega
def gD (o : Option Nat) : Nat := match o with
  | none => 0
  | some u => u
/-- the heap at a place: the state before each cell, and what is left; the cell's height -/
def lyS (q : Tl) (pl : Int) : Nat → Nat × Int
  | 0 => (0, pl)
  | c + 1 => (gD (tr (qW q) c (lyS q pl c).1 (kdC q c (pick (wy (alC q) q c (lyS q pl c).1) (lyS q pl c).2))), (lyS q pl c).2 - sm (wy (alC q) q c (lyS q pl c).1) (pick (wy (alC q) q c (lyS q pl c).1) (lyS q pl c).2))
def lyV (q : Tl) (pl : Int) (c : Nat) : Nat := pick (wy (alC q) q c (lyS q pl c).1) (lyS q pl c).2
def lyOK (q : Tl) (pl : Int) (c : Nat) : Prop := (lyS q pl c).1 < 2 ^ (qW q + 1) ∧ Bf (alC q) q c (lyS q pl c).1 ≠ 0 ∧ 0 ≤ (lyS q pl c).2 ∧ (lyS q pl c).2 < Rc2 (alC q) q c (lyS q pl c).1
theorem wy_pos {A : Nat → Nat → Bool} {q : Tl} {c s v : Nat} (h : 0 < wy A q c s v) : A c v = true ∧ ∃ u, tr (qW q) c s (kdC q c v) = some u ∧ wy A q c s v = Rc2 A q (c + 1) u := by
  unfold wy at h ⊢
  by_cases a : A c v = true
  · rw [if_pos a] at h ⊢
    refine ⟨a, ?_⟩
    cases ht : tr (qW q) c s (kdC q c v) with
    | none => rw [ht] at h; exact absurd h (by show ¬ (0 : Int) < 0; omega)
    | some u => exact ⟨u, rfl, rfl⟩
  · rw [if_neg a] at h; omega
theorem ly_f {q : Tl} (hq : qOK q) {pl : Int} {c : Nat} (hc : c < qN q) (ho : lyOK q pl c) : lyV q pl c < 5 ∧ sm (wy (alC q) q c (lyS q pl c).1) (lyV q pl c) ≤ (lyS q pl c).2 ∧ (lyS q pl c).2 < sm (wy (alC q) q c (lyS q pl c).1) (lyV q pl c + 1) ∧ alC q c (lyV q pl c) = true ∧ ∃ u, tr (qW q) c (lyS q pl c).1 (kdC q c (lyV q pl c)) = some u ∧ (lyS q pl (c + 1)).1 = u ∧ lyOK q pl (c + 1) := by
  have hN := qN_le hq
  obtain ⟨o1, o2, o3, o4⟩ := ho
  rw [R_step _ q hc] at o4
  obtain ⟨p1, p2, p3⟩ := pick_f o3 o4
  refine ⟨p1, p2, p3, ?_⟩
  have hw : 0 < wy (alC q) q c (lyS q pl c).1 (lyV q pl c) := by
    have := sm_s (wy (alC q) q c (lyS q pl c).1) (lyV q pl c)
    unfold lyV at this ⊢
    omega
  obtain ⟨a, u, e1, e2⟩ := wy_pos hw
  refine ⟨a, u, e1, ?_⟩
  have e3 : (lyS q pl (c + 1)).1 = u := by
    show gD (tr (qW q) c (lyS q pl c).1 (kdC q c (lyV q pl c))) = u
    rw [e1]; rfl
  have e4 : (lyS q pl (c + 1)).2 = (lyS q pl c).2 - sm (wy (alC q) q c (lyS q pl c).1) (lyV q pl c) := rfl
  refine ⟨e3, ?_⟩
  unfold lyOK
  rw [e3, e4]
  refine ⟨tr_lt hq.1.1 o1 e1, Bf_pos (alC q) o1 (knd_lt _ _ _ : kdC q c (lyV q pl c) < 4) e1 o2 (nk_pos (alC q) p1 a), ?_, ?_⟩
  · unfold lyV; omega
  · rw [← e2]
    have := sm_s (wy (alC q) q c (lyS q pl c).1) (lyV q pl c)
    unfold lyV at this ⊢
    omega
theorem ly_ok {q : Tl} (hq : qOK q) {pl : Int} (h0 : 0 ≤ pl) (h1 : pl < Rc2 (alC q) q 0 0) : ∀ c, c ≤ qN q → lyOK q pl c
  | 0, _ => ⟨Nat.two_pow_pos _, show ¬ ((if (0 : Nat) = 0 then (1 : Int) else 0) = 0) by decide, h0, h1⟩
  | c + 1, h => by
    obtain ⟨_, _, _, _, u, _, _, e⟩ := ly_f hq (by omega) (ly_ok hq h0 h1 c (by omega))
    exact e
section STEPS
variable {t : Nat} {w : Wd} {q : Tl}
theorem GT.kept2 {w1 : Wd} (h : GT q w) (hk : Kp (fun j => (1 ≤ j ∧ j ≤ 4) ∨ (20 ≤ j ∧ j ≤ 22)) w w1) : GT q w1 := by
  refine ⟨h.1, h.2.1.kept (hk.weak fun k z => Or.inl z), ?_⟩
  unfold TT
  rw [(hk 20 (by omega)).1, (hk 21 (by omega)).1, (hk 22 (by omega)).1]
  exact h.2.2
theorem FT0.kept {w1 : Wd} (hq : qOK q) (h : FT0 q w) (hk : Kp (fun j => 20 ≤ j ∧ j ≤ 76) w w1) : FT0 q w1 :=
  (FTkc q w w1 (fun k h1 h2 => hk k ⟨h1, h2⟩) ⟨qN_le hq, h⟩).2
theorem afterHeight_s (h : GT q w) {c s v : Nat} (hc : c < qN q) (hs : s < 2 ^ (qW q + 1)) (hv : v < 5) : fX1_afterHeight (iv c) (iv s) (iv v) w = some (stI (tr (qW q) c s (kdC q c v)), w) := by
  unfold fX1_afterHeight
  rw [kindOf_s h hc hv, bnd_s, linesMet_s (k := kdC q c v) h hc (knd_lt _ _ _ : kdC q c v < 4), bnd_s, endsRow_s h hc, bnd_s, afterOf_s h.1 hs, bnd_s]
theorem waysFrom_s (h : GT q w) (hf : FT0 q w) {c s v : Nat} (hc : c < qN q) (hs : s < 2 ^ (qW q + 1)) (hb : Bf (alC q) q c s ≠ 0) (hv : v < 5) : fX1_waysFrom (iv c) (iv s) (iv v) w = some (kv (wy (alC q) q c s v), w) := by
  have hN := qN_le h.1
  have ho := cfg_ok h.1 hc
  have hS := two64 h.1.1.2.1
  have hLL1 := (LL_tab (c + 1) (by omega)).2
  unfold fX1_waysFrom wy
  rw [gI_iv (by rw [LI_20]; omega) (by rw [LI_20]; omega), bind_s, (h.2.2 c hc).1, has_b (a_f ho.1 ho.2.1 ho.2.2 hv).1, bnd_s, b2i_if]
  by_cases a : alC q c v = true
  · rw [if_pos (show alw (cf q c) (cg q c) (qT q c) v = true from a), if_pos a, afterHeight_s h hc hs hv, bnd_s]
    cases ht : tr (qW q) c s (kdC q c v) with
    | none => rw [stI_none, if_pos rfl]; rfl
    | some u =>
      have hu := tr_lt h.1.1.1 hs ht
      rw [stI_some, if_neg (ivN_m1 (by omega)), iv_s1, ixA_iv (by omega) (by omega), bind_s, gL_iv (by omega) (by omega), bind_s, hf.2.2 (c + 1) (by omega) (by omega) u hu]
      show some (kv (bh q (c + 1) u), w) = some (kv (Rc2 (alC q) q (c + 1) u), w)
      unfold bh
      rw [if_neg (fun z => Bf_pos (alC q) hs (knd_lt _ _ _ : kdC q c v < 4) ht hb (nk_pos (alC q) hv a) z.2)]
  · rw [if_neg (show ¬ alw (cf q c) (cg q c) (qT q c) v = true from a), if_neg a]; rfl
theorem max0_iv {u : Nat} (h : u < 1000) : (if (0 : Int32) < iv u then iv u else (0 : Int32)) = iv u := by
  by_cases e : u = 0
  · rw [e]; decide
  · rw [if_pos (by rw [iv_0, iv_lt (by omega) (by omega)]; omega)]
theorem fill1_s (h : GT q w) (hf : FT0 q w) {s : Nat} (hs : s < 4) {pl : Int} (h0 : 0 ≤ pl) (h1 : pl < Rc2 (alC q) q 0 0) : ∃ w1, fX1_fill (6 + s) (kv pl) w = some ((), w1) ∧ (∀ c, c < qN q → w1.1 (6 + s) c = iv (lyV q pl c : Nat)) ∧ Kp (fun k => k ≠ 6 + s) w w1 := by
  have hN := qN_le h.1
  have hS := two64 h.1.1.2.1
  unfold fX1_fill
  refine lpT (α := Int32 → Int64 → Int32 → Wd → Option (Unit × Wd)) (τ := Int32 × Int64) (fun f x i w => f x.1 x.2 i w) (m := qN q) (fun r => ∃ w1, r = some ((), w1) ∧ (∀ c, c < qN q → w1.1 (6 + s) c = iv (lyV q pl c : Nat)) ∧ Kp (fun k => k ≠ 6 + s) w w1) (fun c x w' => x = (iv ((lyS q pl c).1 : Nat), kv (lyS q pl c).2) ∧ (∀ c', c' < c → w'.1 (6 + s) c' = iv (lyV q pl c' : Nat)) ∧ Kp (fun k => k ≠ 6 + s) w w') ?_ ?_ (hGn (by omega)) (x := (0, kv pl)) ⟨rfl, fun c hc => by omega, Kp.rf⟩
  · rintro c x w' k9 hc ⟨rfl, g1, g2⟩
    refine Or.inl ?_
    have h' : GT q w' := h.kept2 (g2.weak fun k z => by omega)
    have hf' : FT0 q w' := hf.kept h.1 (g2.weak fun k z => by omega)
    have ho := ly_ok h.1 h0 h1 c (by omega)
    obtain ⟨p1, p2, p3, p4, u, p5, p6, p7⟩ := ly_f h.1 hc ho
    obtain ⟨o1, o2, o3, o4⟩ := ho
    have nn := fun v => wy_nn (alC q) q hN c (lyS q pl c).1 v
    have hRb := R_bd (alC q) hN c (lyS q pl c).1
    have hub := tr_lt h.1.1.1 o1 p5
    show ∃ x' w'', bX1_fill_9 _ _ k9 _ _ _ w' = _ ∧ _
    unfold bX1_fill_9
    rw [cells_q h', bnd_s, if_neg (iv_Nle (by omega) hc), iv_0, show iv 0 = iv ((0 : Nat) : Int) from rfl, waysFrom_s h' hf' hc o1 o2 (by omega), bnd_s]
    have key := lpT (α := Int32 → Int64 → Int32 → Int32 → Int64 → Wd → Option (Unit × Wd)) (τ := Int64 × Int64) (z := fun _ _ _ _ _ _ => none) (b := bX1_fill_36 (6 + s) (kv pl) k9) (fun f x i w => f (iv ((lyS q pl c).1 : Nat)) x.1 (iv c) i x.2 w) (m := lyV q pl c) (fun r => r = k9 (iv u) (kv ((lyS q pl c).2 - sm (wy (alC q) q c (lyS q pl c).1) (lyV q pl c))) (iv ((c + 1 : Nat) : Int)) (uI w' (6 + s) c (iv (lyV q pl c : Nat)))) (fun v x w'' => x = (kv ((lyS q pl c).2 - sm (wy (alC q) q c (lyS q pl c).1) v), kv (wy (alC q) q c (lyS q pl c).1 v)) ∧ w'' = w') (n := G) ?_ ?_ (hGn (by omega)) (x := (kv (lyS q pl c).2, kv (wy (alC q) q c (lyS q pl c).1 0))) (w := w') ⟨by show (_, _) = (kv ((lyS q pl c).2 - 0), _); rw [Int.sub_zero], rfl⟩
    · refine ⟨(iv (u : Nat), kv ((lyS q pl c).2 - sm (wy (alC q) q c (lyS q pl c).1) (lyV q pl c))), uI w' (6 + s) c (iv (lyV q pl c : Nat)), key, ?_, fun c' hc' => ?_, g2.trans (Kp.uI (fun z => z rfl))⟩
      · rw [p6]; rfl
      · by_cases e : c' = c
        · subst e; exact uI_same
        · rw [uI_other (Or.inr e)]; exact g1 c' (by omega)
    · rintro v x w'' k36 hv ⟨rfl, rfl⟩
      refine Or.inl ?_
      have hm1 := sm_mono (fun v => (nn v).1) (n := v + 1) (m := lyV q pl c) (by omega)
      have hm0 := sm_mono (fun v => (nn v).1) (n := 0) (m := v) (by omega)
      have hm0 : 0 ≤ sm (wy (alC q) q c (lyS q pl c).1) v := hm0
      have hn := nn v
      rw [sm_s] at hm1
      show ∃ x' w1, bX1_fill_36 _ _ k9 k36 _ _ _ _ _ w'' = _ ∧ _
      unfold bX1_fill_36
      rw [if_neg (by rw [kv_lt (by omega) (by omega)]; omega), if_neg (by rw [iv_4, iv_le (by omega) (by omega)]; omega), iv_s1, waysFrom_s h' hf' hc o1 o2 (by omega), bnd_s, kv_sub]
      refine ⟨(kv ((lyS q pl c).2 - sm (wy (alC q) q c (lyS q pl c).1) v - wy (alC q) q c (lyS q pl c).1 v), kv (wy (alC q) q c (lyS q pl c).1 (v + 1))), w'', rfl, ?_, rfl⟩
      rw [sm_s, Int.sub_sub]
    · rintro x w'' k36 ⟨rfl, rfl⟩
      have hm0 := sm_mono (fun v => (nn v).1) (n := 0) (m := lyV q pl c) (by omega)
      have hm0 : 0 ≤ sm (wy (alC q) q c (lyS q pl c).1) (lyV q pl c) := hm0
      have hn := nn (lyV q pl c)
      rw [sm_s] at p3
      show bX1_fill_36 _ _ k9 k36 _ _ _ _ _ w'' = _
      unfold bX1_fill_36 jX1_fill_75
      rw [if_pos (by rw [kv_lt (by omega) (by omega)]; omega), sI_iv (by rw [LI_slot hs]; omega) (by rw [LI_slot hs]; omega), bind_s, afterHeight_s (h'.kept2 (Kp.uI (by omega))) hc o1 p1, bnd_s, p5, stI_some, max0_iv (by omega), iv_s1]
  · rintro x w' k9 ⟨rfl, g1, g2⟩
    have h' : GT q w' := h.kept2 (g2.weak fun k z => by omega)
    show ∃ w1, bX1_fill_9 _ _ k9 _ _ _ w' = _ ∧ _
    unfold bX1_fill_9
    rw [cells_q h', bnd_s, if_pos iv_Nle']
    exact ⟨w', rfl, g1, g2⟩
/-! the model -/
theorem mwy {A : Nat → Nat → Bool} (hq : qOK q) {c s : Nat} (hc : c < qN q) (ho : okc q c s) (v : Nat) : trv (mth A q c s v) (Mc A q (c + 1)) = wy A q c (nr (c % qW q) s) v := by
  unfold mth wy
  by_cases a : A c v = true
  · rw [if_pos a, if_pos a]
    rcases mt_tr (k := kdC q c v) hq hc (knd_lt _ _ _ : kdC q c v < 4) ho with ⟨u, e1, e2, e3⟩ | ⟨e1, e2 | ⟨u, e2, e3⟩⟩
    · rw [e1, e2]; exact M_R A hq _ (c + 1) u rfl (by omega) e3
    · rw [e1, e2]; rfl
    · rw [e1, e2]; exact (e3 A).symm
  · rw [if_neg a, if_neg a]; rfl
theorem mth_some {A : Nat → Nat → Bool} (hq : qOK q) {c s v : Nat} (hc : c < qN q) (ho : okc q c s) (hw : 0 < wy A q c (nr (c % qW q) s) v) : ∃ u, mth A q c s v = some u ∧ tr (qW q) c (nr (c % qW q) s) (kdC q c v) = some (nr ((c + 1) % qW q) u) ∧ okc q (c + 1) u := by
  obtain ⟨a, u0, e1, e2⟩ := wy_pos hw
  unfold mth
  rw [if_pos a]
  rcases mt_tr (k := kdC q c v) hq hc (knd_lt _ _ _ : kdC q c v < 4) ho with ⟨u, f1, f2, f3⟩ | ⟨f1, f2 | ⟨u, f2, f3⟩⟩
  · exact ⟨u, f1, f2, f3⟩
  · rw [f2] at e1; exact absurd e1 (by simp)
  · rw [f2] at e1
    have := Option.some.inj e1
    rw [e2, ← this, f3 A] at hw; omega
theorem mlay_s {a : Ab} (ha : AbOK a) (hm : MS a w) (hW : WT (alC (aTl a)) (aTl a) 0 w) {s : Nat} (hs : s < 4) {pl : Int} (h0 : 0 ≤ pl) (h1 : pl < Rc2 (alC (aTl a)) (aTl a) 0 0) : ∃ w1, lp (fun _ _ _ _ => none) (bX9_lay_42 (iv s) (kv pl)) G (kv pl) (0 : Int32) (0 : Int32) w = some (iv (sm (fun c => (lyV (aTl a) pl c : Int)) (aN a)), w1) ∧ MS (aSlot a s (fun c => (lyV (aTl a) pl c : Int))) w1 ∧ Kp cR w w1 := by
  have hN := aN_le ha
  have hq := ha.q
  generalize hqq : aTl a = q at hq hW h1 ⊢
  have eN : qN q = aN a := by rw [← hqq]
  refine lpT (α := Int64 → Int32 → Int32 → Wd → Option (Int32 × Wd)) (τ := Int64 × Int32) (fun f x i w => f x.1 x.2 i w) (m := aN a) (fun r => ∃ w1, r = some (iv (sm (fun c => (lyV q pl c : Int)) (aN a)), w1) ∧ MS (aSlot a s (fun c => (lyV q pl c : Int))) w1 ∧ Kp cR w w1) (fun c x w' => (∃ ms, x = (kv (lyS q pl c).2, iv (ms : Nat)) ∧ okc q c ms ∧ nr (c % qW q) ms = (lyS q pl c).1) ∧ (∀ c', c' < c → w'.1 100 (25 * s + c') = iv (lyV q pl c' : Nat)) ∧ (∀ s', s' < 4 → s' ≠ s → ∀ c, c < aN a → w'.1 100 (25 * s' + c) = w.1 100 (25 * s' + c)) ∧ Kp (fun k => k ≠ 100) w w') ?_ ?_ (hGn (by omega)) (x := (kv pl, 0)) ⟨⟨0, rfl, okc_0 hq, by rw [Nat.zero_mod]; rfl⟩, fun c hc => by omega, fun _ _ _ _ _ => rfl, Kp.rf⟩
  · rintro c x w' k42 hcc ⟨⟨ms, rfl, m1, m2⟩, g1, g2, g3⟩
    refine Or.inl ?_
    have hc : c < qN q := by rw [eN]; exact hcc
    have hML : ML q (-9) 0 w' := by
      have := hm.ml ha
      rw [hqq] at this
      unfold ML MW at this ⊢
      rw [(g3 99 (by omega)).1, (g3 101 (by omega)).1, (g3 102 (by omega)).1, (g3 103 (by omega)).1]
      exact this
    have ho := ly_ok hq h0 h1 c (by omega)
    obtain ⟨p1, p2, p3, p4, u0, p5, p6, p7⟩ := ly_f hq hc ho
    obtain ⟨o1, o2, o3, o4⟩ := ho
    have hNq : qN q ≤ 25 := by omega
    have nn := fun v => wy_nn (alC q) q hNq c (lyS q pl c).1 v
    have hRb := R_bd (alC q) hNq c (lyS q pl c).1
    have hms : ms < 64 := by
      have := two64 hq.1.2.1
      have := m1.1
      omega
    have th : ∀ v : Nat, v < 5 → fX9_then (iv c) (iv ms) (iv v) w' = some (s9 (mth (alC q) q c ms v), w') := fun v hv => by
      rw [then_s hML hc hms hv, alO_no]
    have wv : ∀ v, trv (mth (alC q) q c ms v) (Mc (alC q) q (c + 1)) = wy (alC q) q c (lyS q pl c).1 v := fun v => by
      rw [mwy hq hc m1 v, m2]
    have gw : ∀ v u, mth (alC q) q c ms v = some u → gL w' 107 (((64 : Int32) * iv c + (64 : Int32)) + iv (u : Nat)) = some (kv (wy (alC q) q c (lyS q pl c).1 v)) := fun v u hu => by
      have hu2 := mth_lt hq hms hu
      rw [iv_64c1s, gL_iv (by rw [LL_107]; omega) (by rw [LL_107]; omega), (g3 107 (by omega)).2, hW (c + 1) (by omega) (by omega) u hu2, ← wv v, hu]; rfl
    have hwp : 0 < wy (alC q) q c (lyS q pl c).1 (lyV q pl c) := by
      rw [sm_s] at p3; omega
    obtain ⟨u, f1, f2, f3⟩ := mth_some (A := alC q) hq hc m1 (v := lyV q pl c) (by rw [m2]; exact hwp)
    show ∃ x' w'', bX9_lay_42 _ _ k42 _ _ _ w' = _ ∧ _
    unfold bX9_lay_42
    rw [mcells_q hML, bnd_s, if_neg (iv_Nle (by omega) hc), iv_0, show iv 0 = iv ((0 : Nat) : Int) from rfl, th 0 (by omega), bnd_s]
    have key := lpT (α := Int64 → Int32 → Int32 → Int32 → Int32 → Wd → Option (Int32 × Wd)) (τ := Int64 × Int32) (z := fun _ _ _ _ _ _ => none) (b := bX9_lay_66 (iv s) (kv pl) k42) (fun f x i w => f x.1 (iv ms) (iv c) i x.2 w) (m := lyV q pl c) (fun r => r = k42 (kv ((lyS q pl c).2 - sm (wy (alC q) q c (lyS q pl c).1) (lyV q pl c))) (iv u) (iv ((c + 1 : Nat) : Int)) (uI w' 100 (25 * s + c) (iv (lyV q pl c : Nat)))) (fun v x w'' => x = (kv ((lyS q pl c).2 - sm (wy (alC q) q c (lyS q pl c).1) v), s9 (mth (alC q) q c ms v)) ∧ w'' = w') (n := G) ?_ ?_ (hGn (by omega)) (x := (kv (lyS q pl c).2, s9 (mth (alC q) q c ms 0))) (w := w') ⟨by show (_, _) = (kv ((lyS q pl c).2 - 0), _); rw [Int.sub_zero], rfl⟩
    · refine ⟨(kv ((lyS q pl c).2 - sm (wy (alC q) q c (lyS q pl c).1) (lyV q pl c)), iv (u : Nat)), uI w' 100 (25 * s + c) (iv (lyV q pl c : Nat)), key, ⟨u, rfl, f3, ?_⟩, fun c' hc' => ?_, fun s' hs' hne c' hc' => ?_, g3.trans (Kp.uI (fun z => z rfl))⟩
      · rw [p6]
        rw [m2, p5] at f2
        exact (Option.some.inj f2).symm
      · by_cases e : c' = c
        · subst e; exact uI_same
        · rw [uI_other (Or.inr (by omega))]; exact g1 c' (by omega)
      · rw [uI_other (Or.inr (by omega))]; exact g2 s' hs' hne c' hc'
    · rintro v x w'' k66 hv ⟨rfl, rfl⟩
      refine Or.inl ?_
      have hm1 := sm_mono (fun v => (nn v).1) (n := v + 1) (m := lyV q pl c) (by omega)
      have hm0 := sm_mono (fun v => (nn v).1) (n := 0) (m := v) (by omega)
      have hm0 : 0 ≤ sm (wy (alC q) q c (lyS q pl c).1) v := hm0
      have hn := nn v
      rw [sm_s] at hm1
      show ∃ x' w1, bX9_lay_66 (iv s) (kv pl) k42 k66 (kv ((lyS q pl c).2 - sm (wy (alC q) q c (lyS q pl c).1) v)) (iv ms) (iv c) (iv v) (s9 (mth (alC q) q c ms v)) w'' = _ ∧ _
      unfold bX9_lay_66 jX9_lay_95 jX9_lay_124
      cases hmt : mth (alC q) q c ms v with
      | none =>
        have e0 : wy (alC q) q c (lyS q pl c).1 v = 0 := by rw [← wv v, hmt]; rfl
        rw [show s9 none = (-9 : Int32) from rfl, if_pos rfl, if_pos rfl, iv_s1, th (v + 1) (by omega), bnd_s, kv_0, kv_sub]
        refine ⟨(kv ((lyS q pl c).2 - sm (wy (alC q) q c (lyS q pl c).1) v - 0), s9 (mth (alC q) q c ms (v + 1))), w'', rfl, ?_, rfl⟩
        rw [sm_s, e0, Int.sub_zero, Int.add_zero]
      | some u1 =>
        have hu2 := mth_lt hq hms hmt
        rw [show s9 (some u1) = iv (u1 : Nat) from rfl, if_neg (s9_m9 (by omega)), if_neg (s9_m9 (by omega)), gw v u1 hmt, bind_s, bind_s, if_neg (by rw [kv_lt (by omega) (by omega)]; omega), iv_s1, th (v + 1) (by omega), bnd_s, kv_sub]
        refine ⟨(kv ((lyS q pl c).2 - sm (wy (alC q) q c (lyS q pl c).1) v - wy (alC q) q c (lyS q pl c).1 v), s9 (mth (alC q) q c ms (v + 1))), w'', rfl, ?_, rfl⟩
        rw [sm_s, Int.sub_sub]
    · rintro x w'' k66 ⟨rfl, rfl⟩
      have hm0 := sm_mono (fun v => (nn v).1) (n := 0) (m := lyV q pl c) (by omega)
      have hm0 : 0 ≤ sm (wy (alC q) q c (lyS q pl c).1) (lyV q pl c) := hm0
      have hn := nn (lyV q pl c)
      have hu2 := mth_lt hq hms f1
      rw [sm_s] at p3
      show bX9_lay_66 _ _ k42 k66 _ _ _ _ _ w'' = _
      unfold bX9_lay_66
      rw [f1, show s9 (some u) = iv (u : Nat) from rfl, if_neg (s9_m9 (by omega)), gw _ u f1, bind_s, if_pos (by rw [kv_lt (by omega) (by omega)]; omega), iv_25sc, sI_iv (by rw [LI_100]; omega) (by rw [LI_100]; omega), bind_s, iv_s1]
  · rintro x w' k42 ⟨_, g1, g2, g3⟩
    have hok := ly_ok hq h0 h1
    have hH : ∀ c, c < aN a → Hgt ((lyV q pl c : Nat) : Int) := fun c hc => by
      have := (ly_f hq (by omega) (hok c (by omega))).1
      unfold Hgt; omega
    have hms : MS (aSlot a s (fun c => (lyV q pl c : Int))) w' := hm.slotset (g3.weak fun k z => z.2) g1 g2
    have hM' := hms.1
    show ∃ w1, bX9_lay_42 _ _ k42 _ _ _ w' = _ ∧ _
    unfold bX9_lay_42
    rw [mcells_a hms, bnd_s, show aN (aSlot a s (fun c => (lyV q pl c : Int))) = aN a from rfl, if_pos iv_Nle', cubesOf_s (f := fun c => (lyV q pl c : Int)) hms.1 hs (fun c hc => ⟨g1 c hc, hH c hc⟩), bnd_s]
    exact ⟨w', rfl, hms, g3.weak fun k z => by unfold cR at z; omega⟩
theorem g21a (ht : t < 512) (hg : Good FTc t w) (p : Int32) (P : Int64) : ∃ w', (bnd (fX8_lay p P w) fun x w1 => bnd (fX9_lay p P w1) fun y w2 => if x = y then some w2 else none) = some w' ∧ Good FTc (t + 1) w' := by
  obtain ⟨a, ha, hc, hm, hv⟩ := hg
  have hN := aN_le ha
  obtain ⟨pl, hpl, hp1⟩ : ∃ pl : Int, P = kv pl ∧ (-9223372036854775808 ≤ pl ∧ pl < 9223372036854775808) := ⟨P.toInt, (kv_toInt P).symm, P.le_toInt, P.toInt_lt⟩
  subst hpl
  have hRb := R_bd (alC (aTl a)) (q := aTl a) hN 0 0
  rcases rng 4 p with ⟨s, hs, rfl⟩ | hb
  · by_cases e0 : pl < 0
    · refine comb FTkc (v := -2) ha hm ⟨w, ?_, hc, hv.up, Kp.rf⟩ (fun w1 hm1 => ?_)
      · unfold fX8_lay
        rw [noSlot_g hs, bnd_s, if_pos rfl, kv_0, if_pos (by rw [kv_lt (by omega) (by omega)]; exact e0)]
      · obtain ⟨w2, e1, e2, e3, e4⟩ := mways_s ha hm1
        refine ⟨w2, ?_, e3, e4⟩
        unfold fX9_lay
        rw [isSlot_g hs, bnd_s, if_neg (by decide), e1, bnd_s, kv_0, if_pos (by rw [kv_lt (by omega) (by omega)]; exact e0)]
    · by_cases e9 : pl < Rc2 (alC (aTl a)) (aTl a) 0 0
      · have hok := ly_ok ha.q (by omega) e9
        have hH : ∀ c, c < aN a → Hgt ((lyV (aTl a) pl c : Nat) : Int) := fun c hc => by
          have := (ly_f ha.q hc (hok c (Nat.le_of_lt hc))).1
          unfold Hgt; omega
        have ha1 : AbOK (aSlot a s (fun c => (lyV (aTl a) pl c : Int))) := ha.slot hH
        refine comb FTkc (v := iv (sm (fun c => (lyV (aTl a) pl c : Int)) (aN a))) (a1 := aSlot a s (fun c => (lyV (aTl a) pl c : Int))) ha1 hm ?_ (fun w1 hm1 => ?_)
        · obtain ⟨w1, e1, e2, e3, e4, e5, e6⟩ := refresh_s ht ha hc hv
          obtain ⟨w2, f1, f2, f3⟩ := fill1_s e3 e2 hs (by omega) e9
          have hc2 : CS (aSlot a s (fun c => (lyV (aTl a) pl c : Int))) w2 := e4.slotset hs (f3.weak fun k z => z.2) f2
          refine ⟨w2, ?_, hc2, (e5.mv FTkc (f3.weak fun k z => by omega)).up, e6.trans (f3.weak fun k z => by unfold mR at z; omega)⟩
          unfold fX8_lay
          rw [noSlot_g hs, bnd_s, if_pos rfl, kv_0, if_neg (by rw [kv_lt (by omega) (by omega)]; exact e0), e1, bnd_s, if_pos rfl, all_s e2, bnd_s, if_pos (by rw [kv_lt (by omega) (by omega)]; exact e9), ixA_iv hs (by omega), bind_s, f1, bnd_s, bind_s, total_a ha1 hc2 hs, bnd_s, aSlot_at]
          rfl
        · obtain ⟨w2, e1, e2, e3, e4⟩ := mways_s ha hm1
          obtain ⟨w3, f1, f2, f3⟩ := mlay_s ha e3 e2 hs (by omega) e9
          refine ⟨w3, ?_, f2, e4.trans f3⟩
          unfold fX9_lay
          rw [isSlot_g hs, bnd_s, if_neg (by decide), e1, bnd_s, kv_0, if_neg (by rw [kv_lt (by omega) (by omega)]; exact e0), WT_0 ha.q e2, bind_s, if_pos (by rw [kv_lt (by omega) (by omega)]; exact e9), f1]
      · refine comb FTkc (v := -2) ha hm ?_ (fun w1 hm1 => ?_)
        · obtain ⟨w1, e1, e2, e3, e4, e5, e6⟩ := refresh_s ht ha hc hv
          refine ⟨w1, ?_, e4, e5.up, e6⟩
          unfold fX8_lay
          rw [noSlot_g hs, bnd_s, if_pos rfl, kv_0, if_neg (by rw [kv_lt (by omega) (by omega)]; exact e0), e1, bnd_s, if_pos rfl, all_s e2, bnd_s, if_neg (by rw [kv_lt (by omega) (by omega)]; exact e9)]
        · obtain ⟨w2, e1, e2, e3, e4⟩ := mways_s ha hm1
          refine ⟨w2, ?_, e3, e4⟩
          unfold fX9_lay
          rw [isSlot_g hs, bnd_s, if_neg (by decide), e1, bnd_s, kv_0, if_neg (by rw [kv_lt (by omega) (by omega)]; exact e0), WT_0 ha.q e2, bind_s, if_neg (by rw [kv_lt (by omega) (by omega)]; exact e9)]
  · refine comb0 FTkc (v := -1) ha hc hm hv ?_ ?_
    · unfold fX8_lay
      rw [noSlot_b hb, bnd_s, if_neg (by decide)]
    · unfold fX9_lay
      rw [isSlot_b hb, bnd_s, if_pos rfl]
theorem g21 (ht : t < 512) (hg : Good FTc t w) (p r d : Int32) : ∃ w', st21 p r d w = some w' ∧ Good FTc (t + 1) w' := by
  unfold st21
  exact g21a ht hg p _
end STEPS
