/-! ===== counting: fewest and most, by heaps ===== -/
def Pf (q : Tl) (h : Nat → Nat) : Nat → Nat → Prop
  | 0, u => u = 0
  | c + 1, u => ∃ s, Pf q h c s ∧ (h c < 5 ∧ alC q c (h c) = true) ∧ tr (qW q) c s (kdC q c (h c)) = some u
def Sf (q : Tl) (h : Nat → Nat) : Nat → Nat → Prop
  | 0, s => s = allM (qW q)
  | n + 1, s => (h (qN q - (n + 1)) < 5 ∧ alC q (qN q - (n + 1)) (h (qN q - (n + 1))) = true) ∧ ∃ u, tr (qW q) (qN q - (n + 1)) s (kdC q (qN q - (n + 1)) (h (qN q - (n + 1)))) = some u ∧ Sf q h n u
theorem Pf_Sf {q : Tl} {h : Nat → Nat} : ∀ n c u, qN q - c = n → c ≤ qN q → Pf q h c u → Sf q h n u → Pf q h (qN q) (allM (qW q))
  | 0, c, u, hn, hc, h1, h2 => by
    have e : c = qN q := by omega
    subst e
    have h2 : u = allM (qW q) := h2
    rw [← h2]; exact h1
  | n + 1, c, u, hn, hc, h1, h2 => by
    obtain ⟨g1, u', g2, g3⟩ := h2
    have e : qN q - (n + 1) = c := by omega
    rw [e] at g1 g2
    exact Pf_Sf n (c + 1) u' (by omega) (by omega) ⟨u, h1, g1, g2⟩ g3
theorem Sf_Pf {q : Tl} {h : Nat → Nat} : ∀ c u, c ≤ qN q → Pf q h c u → Sf q h (qN q - c) u → Sf q h (qN q) 0
  | 0, u, _, h1, h2 => by
    have h1 : u = 0 := h1
    rw [h1] at h2; exact h2
  | c + 1, u, hc, h1, h2 => by
    obtain ⟨s, g1, g2, g3⟩ := h1
    refine Sf_Pf c s (by omega) g1 ?_
    obtain ⟨n, hn⟩ : ∃ n, qN q - c = n + 1 := ⟨qN q - c - 1, by omega⟩
    rw [hn]
    have e : qN q - (n + 1) = c := by omega
    have e2 : qN q - (c + 1) = n := by omega
    rw [e2] at h2
    show (h (qN q - (n + 1)) < 5 ∧ alC q (qN q - (n + 1)) (h (qN q - (n + 1))) = true) ∧ ∃ u, tr (qW q) (qN q - (n + 1)) s (kdC q (qN q - (n + 1)) (h (qN q - (n + 1)))) = some u ∧ Sf q h n u
    rw [e]
    exact ⟨g2, u, g3, h2⟩
theorem Pf_iff {q : Tl} {h : Nat → Nat} : Pf q h (qN q) (allM (qW q)) ↔ Sf q h (qN q) 0 :=
  ⟨fun z => Sf_Pf (qN q) _ (Nat.le_refl _) z (by rw [Nat.sub_self]; rfl), fun z => Pf_Sf (qN q) 0 0 rfl (by omega) rfl z⟩
theorem Sf_congr {q : Tl} {h h' : Nat → Nat} : ∀ n s, n ≤ qN q → (∀ c, qN q - n ≤ c → c < qN q → h' c = h c) → Sf q h n s → Sf q h' n s
  | 0, _, _, _, z => z
  | n + 1, s, hn, hh, z => by
    obtain ⟨g1, u, g2, g3⟩ := z
    have e := hh (qN q - (n + 1)) (Nat.le_refl _) (by omega)
    refine ⟨by rw [e]; exact g1, u, by rw [e]; exact g2, Sf_congr n u (by omega) (fun c hc => hh c (by omega)) g3⟩
theorem Pf_congr {q : Tl} {h h' : Nat → Nat} : ∀ c u, (∀ c', c' < c → h' c' = h c') → Pf q h c u → Pf q h' c u
  | 0, _, _, z => z
  | c + 1, u, hh, z => by
    obtain ⟨s, g1, g2, g3⟩ := z
    have e := hh c (by omega)
    exact ⟨s, Pf_congr c s (fun c' hc' => hh c' (by omega)) g1, by rw [e]; exact g2, by rw [e]; exact g3⟩
/-- what a heap's cells cost from one on -/
def cs (q : Tl) (h : Nat → Nat) : Nat → Int
  | 0 => 0
  | n + 1 => (h (qN q - (n + 1)) : Int) + cs q h n
theorem cs_congr {q : Tl} {h h' : Nat → Nat} : ∀ n, n ≤ qN q → (∀ c, qN q - n ≤ c → c < qN q → h' c = h c) → cs q h' n = cs q h n
  | 0, _, _ => rfl
  | n + 1, hn, hh => by
    show (h' (qN q - (n + 1)) : Int) + cs q h' n = (h (qN q - (n + 1)) : Int) + cs q h n
    rw [hh _ (Nat.le_refl _) (by omega), cs_congr n (by omega) (fun c hc => hh c (by omega))]
theorem cs_sm {q : Tl} {h : Nat → Nat} : ∀ n, n ≤ qN q → sm (fun c => (h c : Int)) (qN q - n) + cs q h n = sm (fun c => (h c : Int)) (qN q)
  | 0, _ => by show _ + (0 : Int) = _; rw [Int.add_zero]; rfl
  | n + 1, hn => by
    have ih := cs_sm (q := q) (h := h) n (by omega)
    obtain ⟨m, hm⟩ : ∃ m, qN q - n = m + 1 := ⟨qN q - n - 1, by omega⟩
    have e : qN q - (n + 1) = m := by omega
    rw [hm, sm_s] at ih
    show sm (fun c => (h c : Int)) (qN q - (n + 1)) + ((h (qN q - (n + 1)) : Int) + cs q h n) = _
    rw [e, ← ih]; omega
theorem cs_all {q : Tl} (h : Nat → Nat) : cs q h (qN q) = sm (fun c => (h c : Int)) (qN q) := by
  have := cs_sm (q := q) (h := h) (qN q) (Nat.le_refl _)
  rw [Nat.sub_self] at this
  have e : sm (fun c => (h c : Int)) 0 = 0 := rfl
  omega
theorem sm_ex {f : Nat → Int} : ∀ {n : Nat}, 0 < sm f n → ∃ i, i < n ∧ 0 < f i
  | 0, h => absurd h (by show ¬ (0 : Int) < 0; omega)
  | n + 1, h => by
    rw [sm_s] at h
    by_cases e : 0 < f n
    · exact ⟨n, by omega, e⟩
    · obtain ⟨i, hi, z⟩ := sm_ex (f := f) (n := n) (by omega)
      exact ⟨i, by omega, z⟩
theorem R_Sf {q : Tl} : ∀ n s, n ≤ qN q → 0 < Rn (alC q) q n s → ∃ h, Sf q h n s
  | 0, s, _, hp => by
    refine ⟨fun _ => 0, ?_⟩
    show s = allM (qW q)
    have hp : 0 < (if s = allM (qW q) then (1 : Int) else 0) := hp
    by_cases e : s = allM (qW q)
    · exact e
    · rw [if_neg e] at hp; omega
  | n + 1, s, hn, hp => by
    have hp : 0 < sm (fun v => if alC q (qN q - (n + 1)) v then trv (tr (qW q) (qN q - (n + 1)) s (kdC q (qN q - (n + 1)) v)) (Rn (alC q) q n) else 0) 5 := hp
    obtain ⟨v, hv, z⟩ := sm_ex hp
    by_cases a : alC q (qN q - (n + 1)) v = true
    · have z : 0 < (if alC q (qN q - (n + 1)) v = true then trv (tr (qW q) (qN q - (n + 1)) s (kdC q (qN q - (n + 1)) v)) (Rn (alC q) q n) else 0) := z
      rw [if_pos a] at z
      cases ht : tr (qW q) (qN q - (n + 1)) s (kdC q (qN q - (n + 1)) v) with
      | none => rw [ht] at z; exact absurd z (by show ¬ (0 : Int) < 0; omega)
      | some u =>
        rw [ht] at z
        obtain ⟨h, hh⟩ := R_Sf n u (by omega) z
        refine ⟨fun c => if c = qN q - (n + 1) then v else h c, ?_⟩
        have e : (if qN q - (n + 1) = qN q - (n + 1) then v else h (qN q - (n + 1))) = v := if_pos rfl
        refine ⟨?_, u, ?_, Sf_congr n u (by omega) (fun c hc hc2 => if_neg (by omega)) hh⟩
        · show (if qN q - (n + 1) = qN q - (n + 1) then v else h (qN q - (n + 1))) < 5 ∧ alC q (qN q - (n + 1)) (if qN q - (n + 1) = qN q - (n + 1) then v else h (qN q - (n + 1))) = true
          rw [e]; exact ⟨hv, a⟩
        · show tr (qW q) (qN q - (n + 1)) s (kdC q (qN q - (n + 1)) (if qN q - (n + 1) = qN q - (n + 1) then v else h (qN q - (n + 1)))) = some u
          rw [e]; exact ht
    · have z : 0 < (if alC q (qN q - (n + 1)) v = true then trv (tr (qW q) (qN q - (n + 1)) s (kdC q (qN q - (n + 1)) v)) (Rn (alC q) q n) else 0) := z
      rw [if_neg a] at z; omega
theorem Sf_R {q : Tl} (hN : qN q ≤ 25) {h : Nat → Nat} : ∀ n s, Sf q h n s → 0 < Rn (alC q) q n s
  | 0, s, hs => by
    show 0 < (if s = allM (qW q) then (1 : Int) else 0)
    rw [if_pos (show s = allM (qW q) from hs)]; decide
  | n + 1, s, hs => by
    obtain ⟨g1, u, g2, g3⟩ := hs
    have ih := Sf_R hN n u g3
    show 0 < sm (fun v => if alC q (qN q - (n + 1)) v then trv (tr (qW q) (qN q - (n + 1)) s (kdC q (qN q - (n + 1)) v)) (Rn (alC q) q n) else 0) 5
    have := sm_mem (f := fun v => if alC q (qN q - (n + 1)) v then trv (tr (qW q) (qN q - (n + 1)) s (kdC q (qN q - (n + 1)) v)) (Rn (alC q) q n) else 0) (i := h (qN q - (n + 1))) (n := 5) (fun v _ => by
      show 0 ≤ (if alC q (qN q - (n + 1)) v = true then trv (tr (qW q) (qN q - (n + 1)) s (kdC q (qN q - (n + 1)) v)) (Rn (alC q) q n) else 0)
      split
      · cases tr (qW q) (qN q - (n + 1)) s (kdC q (qN q - (n + 1)) v) with
        | none => exact Int.le_refl _
        | some u => exact (Rn_bd (alC q) q n u).1
      · omega) g1.1
    have e : (if alC q (qN q - (n + 1)) (h (qN q - (n + 1))) = true then trv (tr (qW q) (qN q - (n + 1)) s (kdC q (qN q - (n + 1)) (h (qN q - (n + 1))))) (Rn (alC q) q n) else 0) = Rn (alC q) q n u := by
      rw [if_pos g1.2, g2]; rfl
    exact Int.lt_of_lt_of_le ih (Int.le_trans (Int.le_of_eq e.symm) this)
/-! the highest heap -/
def hif (f g t : Int) : Nat := if alw f g t 4 then 4 else if alw f g t 3 then 3 else if alw f g t 2 then 2 else if alw f g t 1 then 1 else 0
def n73 (v0 v1 : Int32) : Int32 := v1 - usr v0 1
def n61 (v0 v1 : Int32) : Int32 := if v0 < 4 then n73 v0 v1 else n73 (usr v0 2) (v1 + (-2))
def n48 (v0 v1 : Int32) : Int32 := if v0 < 16 then n61 v0 v1 else n61 (usr v0 4) (v1 + (-4))
def n33 (v0 v1 : Int32) : Int32 := if v0 < 256 then n48 v0 v1 else n48 (usr v0 8) (v1 + (-8))
def nlF (p0 : Int32) : Int32 := if 0 < p0 then (if p0 < 65536 then n33 p0 31 else n33 (usr p0 16) (31 + (-16))) else if p0 = 0 then 32 else 0
def t74 (v0 v1 : Int32) : Int32 := v1 + usr v0 1
def t62 (v0 v1 : Int32) : Int32 := if v0 ≤ 4 then t74 v0 v1 else t74 (usr v0 2) (v1 + 2)
def t49 (v0 v1 : Int32) : Int32 := if v0 ≤ 16 then t62 v0 v1 else t62 (usr v0 4) (v1 + 4)
def t34 (v0 v1 : Int32) : Int32 := if v0 ≤ 256 then t49 v0 v1 else t49 (usr v0 8) (v1 + 8)
def ntF (p0 : Int32) : Int32 := if 0 < ((p0 ^^^ (-1)) &&& (p0 - 1)) then (if ((p0 ^^^ (-1)) &&& (p0 - 1)) ≤ 65536 then t34 ((p0 ^^^ (-1)) &&& (p0 - 1)) 1 else t34 (usr ((p0 ^^^ (-1)) &&& (p0 - 1)) 16) (1 + 16)) else (((p0 ^^^ (-1)) &&& (p0 - 1)) &&& 32)
theorem ite_sw {c : Prop} {dc : Decidable c} {x y : Int32} {w : Wd} : (if c then some (x, w) else some (y, w)) = some ((if c then x else y), w) := by
  by_cases h : c
  · rw [if_pos h, if_pos h]
  · rw [if_neg h, if_neg h]
theorem nl_s (p0 : Int32) (w : Wd) : fJ6_numberOfLeadingZeros_0f7a4 p0 w = some (nlF p0, w) := by
  unfold fJ6_numberOfLeadingZeros_0f7a4 jJ6_numberOfLeadingZeros_0f7a4_33 jJ6_numberOfLeadingZeros_0f7a4_48 jJ6_numberOfLeadingZeros_0f7a4_61 jJ6_numberOfLeadingZeros_0f7a4_73
  simp only [ite_sw]
  rfl
theorem nt_s (p0 : Int32) (w : Wd) : fJ6_numberOfTrailingZeros_0f7a4 p0 w = some (ntF p0, w) := by
  unfold fJ6_numberOfTrailingZeros_0f7a4 jJ6_numberOfTrailingZeros_0f7a4_34 jJ6_numberOfTrailingZeros_0f7a4_49 jJ6_numberOfTrailingZeros_0f7a4_62 jJ6_numberOfTrailingZeros_0f7a4_74
  simp only [ite_sw]
  rfl
/-- k's heights are among k2's -/
def kle (k k2 : Nat) : Bool := (!decide (k % 2 = 1) || decide (k2 % 2 = 1)) && (!decide (k / 2 = 1) || decide (k2 / 2 = 1))
def hick (i j l : Nat) : Bool := decide ((if alI (tvl i) (tvl j) (tvl l) = 0 then (0 : Int32) else (31 : Int32) - nlF (alI (tvl i) (tvl j) (tvl l))) = iv (hif (tvl i) (tvl j) (tvl l))) && (List.range 5).all (fun v => !alw (tvl i) (tvl j) (tvl l) v || (alw (tvl i) (tvl j) (tvl l) (hif (tvl i) (tvl j) (tvl l)) && (decide (v ≤ hif (tvl i) (tvl j) (tvl l)) && kle (knd (tvl i) (tvl j) v) (knd (tvl i) (tvl j) (hif (tvl i) (tvl j) (tvl l))))))
theorem hi_all : ∀ i, i < 6 → ∀ j, j < 6 → ∀ l, l < 3 → hick i j l = true := by decide +kernel
theorem hif_lt (f g t : Int) : hif f g t < 5 := by unfold hif; (repeat' split) <;> omega
theorem hi_f {f g t : Int} (hf : Tol f) (hg : Tol g) (ht : Top t) : (if alI f g t = 0 then (0 : Int32) else (31 : Int32) - nlF (alI f g t)) = iv (hif f g t) ∧ ∀ v, v < 5 → alw f g t v = true → alw f g t (hif f g t) = true ∧ v ≤ hif f g t ∧ kle (knd f g v) (knd f g (hif f g t)) = true := by
  obtain ⟨i, hi, rfl⟩ := tol_ix hf
  obtain ⟨j, hj, rfl⟩ := tol_ix hg
  obtain ⟨l, hl, rfl⟩ := top_ix ht
  have h := hi_all i hi j hj l hl
  unfold hick at h
  rw [Bool.and_eq_true, List.all_eq_true] at h
  refine ⟨of_decide_eq_true h.1, fun v hv ha => ?_⟩
  have := nimp (h.2 v (List.mem_range.mpr hv)) ha
  rw [Bool.and_eq_true, Bool.and_eq_true] at this
  exact ⟨this.1, of_decide_eq_true this.2.1, this.2.2⟩
def hiC (q : Tl) (c : Nat) : Nat := hif (cf q c) (cg q c) (qT q c)
/-- a state with all that another has -/
def sle (s s' : Nat) : Prop := s ||| s' = s'
theorem lmx_all : ∀ x, x < 5 → ∀ k, k < 4 → ∀ k2, k2 < 4 → (!kle k k2 || decide (lmx x k ||| lmx x k2 = lmx x k2)) = true := by decide +kernel
theorem sle_all : ∀ u, u < 64 → ∀ u', u' < 64 → (!decide (u ||| u' = u') || ((!decide (u % 2 = 1) || (decide (u' % 2 = 1) && decide ((u - 1) ||| (u' - 1) = u' - 1))))) = true := by decide +kernel
theorem sle_or {a b a' b' : Nat} (h1 : a ||| a' = a') (h2 : b ||| b' = b') : (a ||| b) ||| (a' ||| b') = a' ||| b' := by
  rw [Nat.or_assoc, ← Nat.or_assoc b, Nat.or_comm b a', Nat.or_assoc a', h2, ← Nat.or_assoc, h1]
theorem tr_mono {W c s s' k k2 u : Nat} (h1 : 1 ≤ W) (h2 : W ≤ 5) (hs : s < 2 ^ (W + 1)) (hs' : s' < 2 ^ (W + 1)) (hk : k < 4) (hk2 : k2 < 4) (hl : sle s s') (hkk : kle k k2 = true) (h : tr W c s k = some u) : ∃ u', tr W c s' k2 = some u' ∧ sle u u' := by
  have hx : c % W < W := Nat.mod_lt _ h1
  have hS := two64 h2
  have hlm := of_decide_eq_true (nimp (lmx_all (c % W) (by omega) k hk k2 hk2) hkk)
  have hor := sle_or hl hlm
  have b1 : s ||| lmx (c % W) k < 64 := by
    have : lmx (c % W) k < 2 ^ (W + 1) := lm_lt (c := c) h1
    exact Nat.lt_of_lt_of_le (Nat.or_lt_two_pow hs this) hS
  have b2 : s' ||| lmx (c % W) k2 < 64 := by
    have : lmx (c % W) k2 < 2 ^ (W + 1) := lm_lt (c := c) h1
    exact Nat.lt_of_lt_of_le (Nat.or_lt_two_pow hs' this) hS
  rw [tr_x] at h ⊢
  unfold trx aft at h ⊢
  generalize s ||| lmx (c % W) k = m at *
  generalize s' ||| lmx (c % W) k2 = m' at *
  have hm := nimp (sle_all m b1 m' b2) (decide_eq_true hor)
  by_cases e : c % W + 1 = W
  · rw [if_pos (decide_eq_true e)] at h ⊢
    by_cases p : m % 2 = 0
    · rw [if_pos p] at h; exact absurd h (by simp)
    · rw [if_neg p] at h
      have hm := nimp hm (decide_eq_true (by omega))
      rw [Bool.and_eq_true] at hm
      have p' := of_decide_eq_true hm.1
      rw [if_neg (by omega)]
      refine ⟨m' - 1, rfl, ?_⟩
      rw [← Option.some.inj h]
      exact (of_decide_eq_true hm.2 : (m - 1) ||| (m' - 1) = m' - 1)
  · rw [if_neg (fun z => e (of_decide_eq_true z))] at h ⊢
    refine ⟨m', rfl, ?_⟩
    rw [← Option.some.inj h]; exact hor
theorem ale_all : ∀ W, W < 6 → ∀ s, s < 64 → (!(decide (1 ≤ W) && (decide (s < 2 ^ (W + 1)) && (decide (s % 2 = 0) && decide (allM W ||| s = s)))) || decide (s = allM W)) = true := by decide +kernel
theorem Sf_hi {q : Tl} (hq : qOK q) {h : Nat → Nat} : ∀ n s s', n ≤ qN q → s < 2 ^ (qW q + 1) → s' < 2 ^ (qW q + 1) → sle s s' → ((qN q - n) % qW q = 0 → s' % 2 = 0) → Sf q h n s → Sf q (hiC q) n s'
  | 0, s, s', _, hs, hs', hl, he, z => by
    have z : s = allM (qW q) := z
    have hS := two64 hq.1.2.1
    have he := he (by rw [Nat.sub_zero]; exact Nat.mul_mod_right _ _)
    show s' = allM (qW q)
    rw [z] at hl
    have hW5 := hq.1.2.1
    exact of_decide_eq_true (nimp (ale_all (qW q) (by omega) s' (by omega)) (by rw [Bool.and_eq_true, Bool.and_eq_true, Bool.and_eq_true]; exact ⟨decide_eq_true hq.1.1, decide_eq_true hs', decide_eq_true he, decide_eq_true hl⟩))
  | n + 1, s, s', hn, hs, hs', hl, he, z => by
    obtain ⟨g1, u, g2, g3⟩ := z
    have hc : qN q - (n + 1) < qN q := by omega
    generalize hcc : qN q - (n + 1) = c at *
    have ho := cfg_ok hq hc
    have hh := (hi_f ho.1 ho.2.1 ho.2.2).2 (h c) g1.1 g1.2
    obtain ⟨u', f1, f2⟩ := tr_mono hq.1.1 hq.1.2.1 hs hs' (knd_lt _ _ _) (knd_lt _ _ _) hl hh.2.2 g2
    have hb := tr_bits hq.1.1 hq.1.2.1 hs' (knd_lt _ _ _) f1
    obtain ⟨s1, s2, s3, s4⟩ := sc_f hq.1.1 hq.1.2.1 hq.1.2.2.2 hc
    show (hiC q (qN q - (n + 1)) < 5 ∧ alC q (qN q - (n + 1)) (hiC q (qN q - (n + 1))) = true) ∧ ∃ u, tr (qW q) (qN q - (n + 1)) s' (kdC q (qN q - (n + 1)) (hiC q (qN q - (n + 1)))) = some u ∧ Sf q (hiC q) n u
    rw [hcc]
    refine ⟨⟨hif_lt _ _ _, hh.1⟩, u', f1, Sf_hi hq n u u' (by omega) (tr_lt hq.1.1 hs g2) hb.1 f2 (fun hz => ?_) g3⟩
    have e : qN q - n = c + 1 := by omega
    rw [e] at hz
    rw [hb.2.1]
    by_cases l : c % qW q + 1 = qW q
    · rw [if_pos l]
    · rw [(s2 l).1] at hz; omega
theorem hi_best {q : Tl} (hq : qOK q) {h : Nat → Nat} (hs : Sf q h (qN q) 0) : Sf q (hiC q) (qN q) 0 ∧ ∀ h', Sf q h' (qN q) 0 → cs q h' (qN q) ≤ cs q (hiC q) (qN q) := by
  refine ⟨Sf_hi hq (qN q) 0 0 (Nat.le_refl _) (Nat.two_pow_pos _) (Nat.two_pow_pos _) rfl (fun _ => rfl) hs, fun h' hs' => ?_⟩
  have key : ∀ n s, n ≤ qN q → Sf q h' n s → cs q h' n ≤ cs q (hiC q) n := by
    intro n
    induction n with
    | zero => intro s _ _; exact Int.le_refl _
    | succ n ih =>
      intro s hn z
      obtain ⟨g1, u, g2, g3⟩ := z
      have ho := cfg_ok hq (show qN q - (n + 1) < qN q by omega)
      have hh := (hi_f ho.1 ho.2.1 ho.2.2).2 _ g1.1 g1.2
      have := ih u (by omega) g3
      show (h' (qN q - (n + 1)) : Int) + cs q h' n ≤ (hiC q (qN q - (n + 1)) : Int) + cs q (hiC q) n
      have h2 : h' (qN q - (n + 1)) ≤ hiC q (qN q - (n + 1)) := hh.2.1
      omega
  exact key (qN q) 0 (Nat.le_refl _) hs'
/-! the lowest height of a kind -/
def lof (f g t : Int) (k : Nat) : Nat := if alw f g t 0 = true ∧ knd f g 0 = k then 0 else if alw f g t 1 = true ∧ knd f g 1 = k then 1 else if alw f g t 2 = true ∧ knd f g 2 = k then 2 else if alw f g t 3 = true ∧ knd f g 3 = k then 3 else 4
def lock (i j l k : Nat) : Bool := (decide (hm (tvl i) (tvl j) (tvl l) k = 0) && (List.range 5).all (fun v => !(alw (tvl i) (tvl j) (tvl l) v && decide (knd (tvl i) (tvl j) v = k)))) || (!decide (hm (tvl i) (tvl j) (tvl l) k = 0) && (decide (ntF (iv (hm (tvl i) (tvl j) (tvl l) k)) = iv (lof (tvl i) (tvl j) (tvl l) k)) && ((alw (tvl i) (tvl j) (tvl l) (lof (tvl i) (tvl j) (tvl l) k) && decide (knd (tvl i) (tvl j) (lof (tvl i) (tvl j) (tvl l) k) = k)) && (List.range 5).all (fun v => !(alw (tvl i) (tvl j) (tvl l) v && decide (knd (tvl i) (tvl j) v = k)) || decide (lof (tvl i) (tvl j) (tvl l) k ≤ v)))))
theorem lo_all : ∀ i, i < 6 → ∀ j, j < 6 → ∀ l, l < 3 → ∀ k, k < 4 → lock i j l k = true := by decide +kernel
theorem lof_lt (f g t : Int) (k : Nat) : lof f g t k < 5 := by unfold lof; (repeat' split) <;> omega
theorem lo_f {f g t : Int} (hf : Tol f) (hg : Tol g) (ht : Top t) {k : Nat} (hk : k < 4) : (hm f g t k = 0 ∧ ∀ v, v < 5 → alw f g t v = true → knd f g v ≠ k) ∨ (hm f g t k ≠ 0 ∧ ntF (iv (hm f g t k : Nat)) = iv (lof f g t k : Nat) ∧ (alw f g t (lof f g t k) = true ∧ knd f g (lof f g t k) = k) ∧ ∀ v, v < 5 → alw f g t v = true → knd f g v = k → lof f g t k ≤ v) := by
  obtain ⟨i, hi, rfl⟩ := tol_ix hf
  obtain ⟨j, hj, rfl⟩ := tol_ix hg
  obtain ⟨l, hl, rfl⟩ := top_ix ht
  have h := lo_all i hi j hj l hl k hk
  unfold lock at h
  rw [Bool.or_eq_true, Bool.and_eq_true, Bool.and_eq_true, Bool.and_eq_true, Bool.and_eq_true, Bool.and_eq_true, List.all_eq_true, List.all_eq_true] at h
  rcases h with ⟨h1, h2⟩ | ⟨h1, h2, ⟨h3, h4⟩, h5⟩
  · refine Or.inl ⟨of_decide_eq_true h1, fun v hv ha hk => ?_⟩
    have := h2 v (List.mem_range.mpr hv)
    rw [ha, decide_eq_true hk] at this; exact absurd this (by decide)
  · refine Or.inr ⟨fun z => ?_, of_decide_eq_true h2, ⟨h3, of_decide_eq_true h4⟩, fun v hv ha hk => ?_⟩
    · rw [decide_eq_true z] at h1; exact absurd h1 (by decide)
    · exact of_decide_eq_true (nimp (h5 v (List.mem_range.mpr hv)) (by rw [ha, decide_eq_true hk]; rfl))
