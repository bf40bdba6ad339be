/-! ===== counting: the class's tables ===== -/
theorem LL_tab : ∀ c, c < 26 → LL (24 + c) = 64 ∧ LL (51 + c) = 64 := by decide +kernel
theorem LI_20 : LI 20 = 25 := by decide +kernel
theorem LI_21 : LI 21 = 25 := by decide +kernel
theorem LI_22 : LI 22 = 25 := by decide +kernel
abbrev cf (q : Tl) (c : Nat) : Int := qF q (c % qW q)
abbrev cg (q : Tl) (c : Nat) : Int := qS q (c / qW q)
def TT (q : Tl) (w : Wd) : Prop := ∀ c, c < qN q → w.1 20 c = alI (cf q c) (cg q c) (qT q c) ∧ w.1 21 c = mtI (cf q c) ∧ w.1 22 c = mtI (cg q c)
def TBf (q : Tl) (n : Nat) (w : Wd) : Prop := ∀ c, c < n → ∀ s, s < 2 ^ (qW q + 1) → w.2 (24 + c) s = kv (Bf (alC q) q c s)
def bh (q : Tl) (c s : Nat) : Int := if c < qN q ∧ Bf (alC q) q c s = 0 then 0 else Rc2 (alC q) q c s
def TR (q : Tl) (n : Nat) (w : Wd) : Prop := ∀ c, n ≤ c → c ≤ qN q → ∀ s, s < 2 ^ (qW q + 1) → w.2 (51 + c) s = kv (bh q c s)
def FT0 (q : Tl) (w : Wd) : Prop := TT q w ∧ TBf q (qN q + 1) w ∧ TR q 0 w
theorem cfg_ok {q : Tl} (hq : qOK q) {c : Nat} (hc : c < qN q) : Tol (cf q c) ∧ Tol (cg q c) ∧ Top (qT q c) :=
  ⟨hq.2.1 _ (Nat.mod_lt _ hq.1.1), hq.2.2.1 _ (Nat.div_lt_of_lt_mul hc), hq.2.2.2 c hc⟩
theorem qN_le {q : Tl} (hq : qOK q) : qN q ≤ 25 := WH_le hq.1.2.1 hq.1.2.2.2
theorem FTk0 : FTk (fun q w => qN q ≤ 25 ∧ FT0 q w) := fun q w w1 hk h => by
  refine ⟨h.1, fun c hc => ?_, fun c hc s hs => ?_, fun c h0 hc s hs => ?_⟩
  · rw [(hk 20 (by omega) (by omega)).1, (hk 21 (by omega) (by omega)).1, (hk 22 (by omega) (by omega)).1]; exact h.2.1 c hc
  · rw [(hk (24 + c) (by omega) (by omega)).2]; exact h.2.2.1 c hc s hs
  · rw [(hk (51 + c) (by omega) (by omega)).2]; exact h.2.2.2 c h0 hc s hs
theorem meeting_s {f : Int} (hf : Tol f) (w : Wd) : fX1_meeting (iv f) w = some (mtI f, w) := by
  unfold fX1_meeting mtI
  by_cases e : f = -9
  · rw [if_pos e, if_pos (by rw [e]; decide)]
  · rw [if_neg e, if_neg (ne_m9 (by rw [hf.ti]; exact e))]
theorem upTo_s {f : Int} (hf : Tol f) (w : Wd) : fX1_upTo (iv f) w = some (upI f, w) := by
  unfold fX1_upTo upI
  by_cases e : f = -9
  · rw [if_pos e, if_pos (by rw [e]; decide)]
  · rw [if_neg e, if_neg (ne_m9 (by rw [hf.ti]; exact e))]
theorem underTop_s {f : Int} (hf : Top f) (w : Wd) : fX1_underTop (iv f) w = some (utI f, w) := by
  unfold fX1_underTop utI
  rcases hf with rfl | rfl | rfl
  · rw [if_pos (by decide), if_pos rfl]
  · rw [if_neg (by decide), if_pos (by decide), if_neg (by decide), if_pos rfl]
  · rw [if_neg (by decide), if_neg (by decide), if_neg (by decide), if_neg (by decide)]
section STEPS
variable {FT : Tl → Wd → Prop} {t : Nat} {w : Wd}
theorem AbOK.q {a : Ab} (ha : AbOK a) : qOK (aTl a) := ⟨ha.1, ha.2.2.1, ha.2.2.2.1, ha.2.2.2.2.1⟩
/-- the rows that counting writes -/
def cnt (k : Nat) : Prop := 20 ≤ k ∧ k ≤ 76
theorem cs_cnt {a : Ab} {w1 : Wd} (h : CS a w) (hk : Kp (fun k => k < 20 ∨ 76 < k) w w1) : CS a w1 := by
  obtain ⟨h1, h2, h3, h4, h5, h6, h7, h8⟩ := h
  have st : ∀ {k}, (k < 20 ∨ 76 < k) → w1.1 k = w.1 k := fun z => (hk _ z).1
  refine ⟨h1.kept (hk.weak fun k z => by omega), fun s hs c hc => ?_, fun x hx => ?_, fun y hy => ?_, fun c hc => ?_, fun x hx => ?_, fun y hy => ?_, ?_⟩
  · rw [st (by omega)]; exact h2 s hs c hc
  · rw [st (by omega)]; exact h3 x hx
  · rw [st (by omega)]; exact h4 y hy
  · rw [st (by omega)]; exact h5 c hc
  · rw [st (by omega)]; exact h6 x hx
  · rw [st (by omega)]; exact h7 y hy
  · rw [st (by omega)]; exact h8
theorem top_s {a : Ab} (ha : AbOK a) (hc : CS a w) {c : Nat} (hcc : c < aN a) : fX5_top (iv c) w = some (iv (aT a c), w) := by
  have hN := aN_le ha
  unfold fX5_top
  rw [gI_iv (by rw [LI_18]; omega) (by rw [LI_18]; omega), bind_s, hc.2.2.2.2.1 c hcc]
theorem readTold_s {a : Ab} (ha : AbOK a) (hc : CS a w) : ∃ w1, fX1_readTold w = some ((), w1) ∧ TT (aTl a) w1 ∧ Kp (fun k => k ≠ 20 ∧ k ≠ 21 ∧ k ≠ 22) w w1 := by
  have hN := aN_le ha
  unfold fX1_readTold
  refine lpA (m := aN a) (fun r => ∃ w1, r = some ((), w1) ∧ TT (aTl a) w1 ∧ Kp (fun k => k ≠ 20 ∧ k ≠ 21 ∧ k ≠ 22) w w1) (fun i w' => (∀ c, c < i → w'.1 20 c = alI (cf (aTl a) c) (cg (aTl a) c) (aT a c) ∧ w'.1 21 c = mtI (cf (aTl a) c) ∧ w'.1 22 c = mtI (cg (aTl a) c)) ∧ Kp (fun k => k ≠ 20 ∧ k ≠ 21 ∧ k ≠ 22) w w') ?_ ?_ (hGn (by omega)) ⟨fun c hc => by omega, Kp.rf⟩
  · rintro i w' k hi ⟨h1, h2⟩
    refine Or.inl ?_
    have hc' : CS a w' := cs_cnt hc (h2.weak fun k z => by omega)
    have hx : i % aW a < aW a := Nat.mod_lt _ ha.1.1
    have hy : i / aW a < aH a := Nat.div_lt_of_lt_mul hi
    have tf := ha.2.2.1 _ hx
    have tg := ha.2.2.2.1 _ hy
    have tt := ha.2.2.2.2.1 i hi
    unfold bX1_readTold_2
    rw [cells_a hc', bnd_s, if_neg (iv_Nle (by omega) hi), x_s hc'.1 hi, bnd_s, line_s ha hc' (col := 1) (by rw [nL_1]; exact hx), bnd_s, y_s hc'.1 hi, bnd_s, line_s ha hc' (col := 0) (by rw [nL_0]; exact hy), bnd_s, getL_1, getL_0, meeting_s tf, bnd_s, sI_iv (by rw [LI_21]; omega) (by rw [LI_21]; omega), bind_s, meeting_s tg, bnd_s, sI_iv (by rw [LI_22]; omega) (by rw [LI_22]; omega), bind_s, upTo_s tf, bnd_s, upTo_s tg, bnd_s]
    have hc2 : CS a (uI (uI w' 21 i (mtI (aF a (i % aW a)))) 22 i (mtI (aS a (i / aW a)))) := cs_cnt hc' ((Kp.uI (by omega)).trans (Kp.uI (by omega)))
    rw [top_s ha hc2 hi, bnd_s, underTop_s tt, bnd_s, sI_iv (by rw [LI_20]; omega) (by rw [LI_20]; omega), bind_s, iv_s1]
    refine ⟨_, rfl, fun c hcc => ?_, h2.trans ((Kp.uI (by omega)).trans ((Kp.uI (by omega)).trans (Kp.uI (by omega))))⟩
    by_cases e : c = i
    · subst e
      refine ⟨by rw [uI_same]; rfl, ?_, ?_⟩
      · rw [uI_row (by omega), uI_row (by omega), uI_same]
      · rw [uI_row (by omega), uI_same]
    · have := h1 c (by omega)
      rw [uI_other (Or.inr e), uI_other (Or.inr e), uI_other (Or.inr e), uI_other (Or.inr e), uI_other (Or.inr e), uI_other (Or.inr e), uI_other (Or.inr e), uI_other (Or.inr e), uI_other (Or.inr e)]
      exact this
  · rintro w' k ⟨h1, h2⟩
    have hc' : CS a w' := cs_cnt hc (h2.weak fun k z => by omega)
    unfold bX1_readTold_2
    rw [cells_a hc', bnd_s, if_pos iv_Nle']
    exact ⟨w', rfl, h1, h2⟩
end STEPS
