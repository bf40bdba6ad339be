/-! ===== count, the class ===== -/
theorem LI_77 : LI 77 = 64 := by decide +kernel
theorem LI_78 : LI 78 = 64 := by decide +kernel
section MOST
variable {q : Tl} {w : Wd}
theorem mostCubes_s (h : GT q w) : fX1_mostCubes w = some (iv (sm (fun c => (hiC q c : Int)) (qN q)), w) := by
  have hN := qN_le h.1
  unfold fX1_mostCubes
  refine lpB (m := qN q) (fun r => r = some (iv (sm (fun c => (hiC q c : Int)) (qN q)), w)) (fun i x w' => w' = w ∧ x = iv (sm (fun c => (hiC q c : Int)) i)) ?_ ?_ (hGn (by omega)) ⟨rfl, rfl⟩
  · rintro i x w' k hi ⟨rfl, rfl⟩
    left
    have ho := cfg_ok h.1 hi
    have hh := (hi_f ho.1 ho.2.1 ho.2.2).1
    have h20 := (h.2.2 i hi).1
    unfold bX1_mostCubes_4 fX1_highestOf
    rw [cells_q h, bnd_s, if_neg (iv_Nle (by omega) hi), gI_iv (by rw [LI_20]; omega) (by rw [LI_20]; omega), bind_s, h20, iv_s1]
    refine ⟨_, w', ?_, rfl, rfl⟩
    by_cases z : alI (cf q i) (cg q i) (qT q i) = 0
    · rw [if_pos z] at hh ⊢
      rw [bnd_s, hh, iv_add]; rfl
    · rw [if_neg z] at hh ⊢
      rw [nl_s, bnd_s, bnd_s, hh, iv_add]; rfl
  · rintro x w' k ⟨rfl, rfl⟩
    unfold bX1_mostCubes_4
    rw [cells_q h, bnd_s, if_pos iv_Nle']
end MOST
/-- the least of some numbers; 1000 where there is none -/
def MNm (S : Int → Prop) (x : Int) : Prop := (x = 1000 ∧ ∀ z, ¬ S z) ∨ (S x ∧ x ≠ 1000 ∧ ∀ z, S z → x ≤ z)
theorem MNm.congr {S S' : Int → Prop} {x : Int} (h : MNm S x) (e : ∀ z, S z ↔ S' z) : MNm S' x := by
  rcases h with ⟨h1, h2⟩ | ⟨h1, h2, h3⟩
  · exact Or.inl ⟨h1, fun z hz => h2 z ((e z).mpr hz)⟩
  · exact Or.inr ⟨(e x).mp h1, h2, fun z hz => h3 z ((e z).mpr hz)⟩
theorem MNm.join {S R : Int → Prop} {x y : Int} (h1 : MNm S x) (h2 : MNm R y) (hS : ∀ z, S z → z < 1000) (hR : ∀ z, R z → z < 1000) : MNm (fun z => S z ∨ R z) (min x y) := by
  rcases h1 with ⟨a1, a2⟩ | ⟨a1, a2, a3⟩
  · rcases h2 with ⟨b1, b2⟩ | ⟨b1, b2, b3⟩
    · exact Or.inl ⟨by omega, fun z hz => hz.elim (a2 z) (b2 z)⟩
    · have := hR y b1
      have e : min x y = y := by omega
      rw [e]
      exact Or.inr ⟨Or.inr b1, b2, fun z hz => hz.elim (fun u => absurd u (a2 z)) (b3 z)⟩
  · rcases h2 with ⟨b1, b2⟩ | ⟨b1, b2, b3⟩
    · have := hS x a1
      have e : min x y = x := by omega
      rw [e]
      exact Or.inr ⟨Or.inl a1, a2, fun z hz => hz.elim (a3 z) (fun u => absurd u (b2 z))⟩
    · have := hS x a1
      have := hR y b1
      by_cases u : x ≤ y
      · have e : min x y = x := by omega
        rw [e]
        exact Or.inr ⟨Or.inl a1, a2, fun z hz => hz.elim (a3 z) (fun t => by have := b3 z t; omega)⟩
      · have e : min x y = y := by omega
        rw [e]
        exact Or.inr ⟨Or.inr b1, b2, fun z hz => hz.elim (fun t => by have := a3 z t; omega) (b3 z)⟩
theorem Pf_lt {q : Tl} (h1 : 1 ≤ qW q) {h : Nat → Nat} : ∀ {c s : Nat}, Pf q h c s → s < 2 ^ (qW q + 1)
  | 0, s, z => by
    have z : s = 0 := z
    rw [z]; exact Nat.two_pow_pos _
  | c + 1, s, z => by
    obtain ⟨s', g1, g2, g3⟩ := z
    exact tr_lt h1 (Pf_lt h1 g1) g3
theorem Pf_bd {q : Tl} {h : Nat → Nat} : ∀ {c s : Nat}, Pf q h c s → 0 ≤ sm (fun c => (h c : Int)) c ∧ sm (fun c => (h c : Int)) c ≤ 4 * c
  | 0, s, _ => ⟨Int.le_refl _, Int.le_refl _⟩
  | c + 1, s, z => by
    obtain ⟨s', g1, g2, g3⟩ := z
    have := Pf_bd g1
    rw [sm_s]
    have := g2.1
    omega
/-- the sums of heaps before a cell, that come to a state -/
def PSm (q : Tl) (c s : Nat) (z : Int) : Prop := ∃ h, Pf q h c s ∧ z = sm (fun c => (h c : Int)) c
/-- those with a cell more, as far as kind k and state n -/
def PTm (q : Tl) (c k n u : Nat) (z : Int) : Prop := ∃ h s, Pf q h c s ∧ (h c < 5 ∧ alC q c (h c) = true) ∧ tr (qW q) c s (kdC q c (h c)) = some u ∧ (kdC q c (h c) < k ∨ (kdC q c (h c) = k ∧ s < n)) ∧ z = sm (fun c => (h c : Int)) (c + 1)
theorem PT_bd {q : Tl} {c k n u : Nat} (hN : qN q ≤ 25) (hc : c < qN q) {z : Int} (h : PTm q c k n u z) : z < 1000 := by
  obtain ⟨h, s, h1, h2, h3, h4, rfl⟩ := h
  have := Pf_bd (q := q) (h := h) (c := c + 1) (s := u) ⟨s, h1, h2, h3⟩
  omega
def roles (A B : Nat) : Prop := (A = 77 ∧ B = 78) ∨ (A = 78 ∧ B = 77)
def RW (A B : Nat) (w : Wd) : Prop := roles A B ∧ w.1 19 7 = iv (A : Nat) ∧ w.1 19 8 = iv (B : Nat)
theorem rl_iv {A : Nat} (h : A < 1000) : rl (iv (A : Nat)) = A := iv_clampN (by omega)
section FEW
variable {q : Tl} {w : Wd}
theorem addFewest_s (h : GT q w) {A B c k : Nat} (hR : RW A B w) (hc : c < qN q) (hk : k < 4) {D : Nat → Int} (hD : ∀ s, s < 2 ^ (qW q + 1) → w.1 A s = iv (D s) ∧ MNm (PSm q c s) (D s)) {E : Nat → Int} (hE : ∀ u, u < 2 ^ (qW q + 1) → w.1 B u = iv (E u) ∧ MNm (PTm q c k 0 u) (E u)) : ∃ (w1 : Wd) (E' : Nat → Int), fX1_addFewest (iv c) (iv k) w = some ((), w1) ∧ (∀ u, u < 2 ^ (qW q + 1) → w1.1 B u = iv (E' u) ∧ MNm (PTm q c (k + 1) 0 u) (E' u)) ∧ Kp (fun j => j ≠ B) w w1 := by
  have hN := qN_le h.1
  have ho := cfg_ok h.1 hc
  have eh := h_f ho.1 ho.2.1 ho.2.2 hk
  have hS := two64 h.1.1.2.1
  obtain ⟨hAB, r7, r8⟩ := hR
  have hA : A = 77 ∨ A = 78 := by unfold roles at hAB; omega
  have hB : B = 77 ∨ B = 78 := by unfold roles at hAB; omega
  have hne : A ≠ B := by unfold roles at hAB; omega
  have hLA : LI A = 64 := by
    rcases hA with rfl | rfl
    · exact LI_77
    · exact LI_78
  have hLB : LI B = 64 := by
    rcases hB with rfl | rfl
    · exact LI_77
    · exact LI_78
  have hDb : ∀ s, s < 2 ^ (qW q + 1) → 0 ≤ D s ∧ D s ≤ 1000 := fun s hs => by
    rcases (hD s hs).2 with ⟨a1, _⟩ | ⟨⟨h', a1, a2⟩, _⟩
    · omega
    · have := Pf_bd a1
      omega
  -- a kind's step from k to k + 1
  have nxt : ∀ u z, PTm q c k (2 ^ (qW q + 1)) u z ↔ PTm q c (k + 1) 0 u z := fun u z => by
    constructor
    · rintro ⟨h', s, a1, a2, a3, a4, a5⟩
      exact ⟨h', s, a1, a2, a3, Or.inl (by omega), a5⟩
    · rintro ⟨h', s, a1, a2, a3, a4, a5⟩
      refine ⟨h', s, a1, a2, a3, ?_, a5⟩
      have := Pf_lt h.1.1.1 a1
      omega
  unfold fX1_addFewest
  rw [heightsOf_s h hc hk, bnd_s]
  rcases lo_f ho.1 ho.2.1 ho.2.2 hk with ⟨l1, l2⟩ | ⟨l1, l2, l3, l4⟩
  · rw [if_pos (by rw [l1]; rfl)]
    refine ⟨w, E, rfl, fun u hu => ⟨(hE u hu).1, (hE u hu).2.congr (fun z => ?_)⟩, Kp.rf⟩
    constructor
    · rintro ⟨h', s, a1, a2, a3, a4, a5⟩
      exact ⟨h', s, a1, a2, a3, Or.inl (by omega), a5⟩
    · rintro ⟨h', s, a1, a2, a3, a4, a5⟩
      refine ⟨h', s, a1, a2, a3, ?_, a5⟩
      have : kdC q c (h' c) ≠ k := l2 (h' c) a2.1 a2.2
      omega
  · have hll := lof_lt (cf q c) (cg q c) (qT q c) k
    generalize hlo : lof (cf q c) (cg q c) (qT q c) k = lo at l2 l3 l4 hll
    have hhm : hm (cf q c) (cg q c) (qT q c) k < 1000000 := by have := eh.2.1; omega
    rw [if_neg (fun z => l1 (by rw [iv_0, iv_eq (by omega) (by omega)] at z; omega)), nt_s, bnd_s, l2, linesMet_s h hc hk, bnd_s, endsRow_s h hc, bnd_s, states_s h, bnd_s]
    refine lpT (α := Int32 → Int32 → Int32 → Int32 → Int32 → Wd → Option (Unit × Wd)) (τ := Unit) (fun f _ i w => f (iv (lo : Nat)) (iv (lm (qW q) c k : Nat)) (b2i (decide (c % qW q + 1 = qW q))) (iv (2 ^ (qW q + 1) : Nat)) i w) (m := 2 ^ (qW q + 1)) (fun r => ∃ (w1 : Wd) (E' : Nat → Int), r = some ((), w1) ∧ (∀ u, u < 2 ^ (qW q + 1) → w1.1 B u = iv (E' u) ∧ MNm (PTm q c (k + 1) 0 u) (E' u)) ∧ Kp (fun j => j ≠ B) w w1) (fun i _ w' => ∃ E' : Nat → Int, (∀ u, u < 2 ^ (qW q + 1) → w'.1 B u = iv (E' u) ∧ MNm (PTm q c k i u) (E' u)) ∧ Kp (fun j => j ≠ B) w w') ?_ ?_ (hGn (by omega)) (x := ()) ⟨E, hE, Kp.rf⟩
    · rintro i _ w' kk hi ⟨E', e1, e2⟩
      left
      have hDi := hD i hi
      have k7 : rl (w'.1 19 7) = A := by rw [(e2 19 (by omega)).1, r7]; exact rl_iv (by omega)
      have k8 : rl (w'.1 19 8) = B := by rw [(e2 19 (by omega)).1, r8]; exact rl_iv (by omega)
      have wA : w'.1 A i = iv (D i) := by rw [(e2 A hne).1]; exact hDi.1
      have hb := hDb i hi
      show ∃ x' w'', bX1_addFewest_42 (iv c) (iv k) kk (iv (lo : Nat)) (iv (lm (qW q) c k : Nat)) (b2i (decide (c % qW q + 1 = qW q))) (iv (2 ^ (qW q + 1) : Nat)) (iv i) w' = _ ∧ _
      unfold bX1_addFewest_42 jX1_addFewest_110
      rw [if_neg (iv_Nle (by omega) hi), k7, gI_iv (by omega) (by omega), bind_s, wA, iv_s1]
      -- nothing new from this state
      have skip : (∀ u z, ¬ ∃ h', Pf q h' c i ∧ (h' c < 5 ∧ alC q c (h' c) = true) ∧ tr (qW q) c i (kdC q c (h' c)) = some u ∧ kdC q c (h' c) = k ∧ z = sm (fun c => (h' c : Int)) (c + 1)) → ∃ E' : Nat → Int, (∀ u, u < 2 ^ (qW q + 1) → w'.1 B u = iv (E' u) ∧ MNm (PTm q c k (i + 1) u) (E' u)) ∧ Kp (fun j => j ≠ B) w w' := fun hno => ⟨E', fun u hu => ⟨(e1 u hu).1, (e1 u hu).2.congr (fun z => by
        constructor
        · rintro ⟨h', s, a1, a2, a3, a4, a5⟩
          exact ⟨h', s, a1, a2, a3, by omega, a5⟩
        · rintro ⟨h', s, a1, a2, a3, a4, a5⟩
          refine ⟨h', s, a1, a2, a3, ?_, a5⟩
          by_cases y : kdC q c (h' c) = k ∧ s = i
          · exact absurd ⟨h', by rw [← y.2]; exact a1, a2, by rw [← y.2]; exact a3, y.1, a5⟩ (hno u z)
          · omega)⟩, e2⟩
      rcases hDi.2 with ⟨d1, d2⟩ | ⟨d1, d2, d3⟩
      · rw [if_pos (by rw [d1, iv_1000])]
        refine ⟨(), w', rfl, skip (fun u z => ?_)⟩
        rintro ⟨h', a1, _⟩
        exact d2 _ ⟨h', a1, rfl⟩
      · rw [if_neg (by rw [iv_1000, iv_eq (by omega) (by omega)]; exact d2), afterOf_s h.1 hi, bnd_s]
        cases ht : tr (qW q) c i k with
        | none =>
          rw [stI_none, if_pos rfl]
          refine ⟨(), w', rfl, skip (fun u z => ?_)⟩
          rintro ⟨h', a1, a2, a3, a4, _⟩
          rw [a4, ht] at a3
          exact absurd a3 (by simp)
        | some u =>
          have hu := tr_lt h.1.1.1 hi ht
          have hEu := e1 u hu
          have hEb : 0 ≤ E' u ∧ E' u ≤ 1000 := by
            rcases hEu.2 with ⟨a1, _⟩ | ⟨⟨h', s, a1, a2, a3, a4, a5⟩, _⟩
            · omega
            · have := Pf_bd (q := q) (h := h') (c := c + 1) (s := u) ⟨s, a1, a2, a3⟩
              omega
          rw [stI_some, if_neg (ivN_m1 (by omega)), k8, gI_iv (by omega) (by omega), bind_s, k7, gI_iv (by omega) (by omega), bind_s, wA, hEu.1, iv_add, iv_min (by omega) (by omega), sI_iv (by omega) (by omega), bind_s]
          -- the new sums from this state
          have new : MNm (fun z => ∃ h', Pf q h' c i ∧ (h' c < 5 ∧ alC q c (h' c) = true) ∧ kdC q c (h' c) = k ∧ z = sm (fun c => (h' c : Int)) (c + 1)) (D i + (lo : Nat)) := by
            refine Or.inr ⟨?_, ?_, fun z hz => ?_⟩
            · obtain ⟨h', a1, a2⟩ := d1
              refine ⟨fun c' => if c' = c then lo else h' c', Pf_congr c i (fun c' hc' => if_neg (by omega)) a1, ?_, ?_, ?_⟩
              · have : (fun c' => if c' = c then lo else h' c') c = lo := if_pos rfl
                rw [this]; exact ⟨hll, l3.1⟩
              · have : (fun c' => if c' = c then lo else h' c') c = lo := if_pos rfl
                rw [this]; exact l3.2
              · have e3 : sm (fun c' => (((if c' = c then lo else h' c') : Nat) : Int)) c = sm (fun c => (h' c : Int)) c := sm_congr (fun j hj => by rw [if_neg (by omega)])
                show D i + (lo : Int) = sm (fun c' => (((if c' = c then lo else h' c') : Nat) : Int)) c + (((if c = c then lo else h' c) : Nat) : Int)
                rw [e3, if_pos rfl, a2]
            · obtain ⟨h', a1, a2⟩ := d1
              have := Pf_bd a1
              omega
            · obtain ⟨h', a1, a2, a3, a4⟩ := hz
              have g1 := d3 _ ⟨h', a1, rfl⟩
              have g2 := l4 (h' c) a2.1 a2.2 a3
              rw [sm_s] at a4
              omega
          refine ⟨(), _, rfl, fun v => if v = u then min (E' u) (D i + (lo : Nat)) else E' v, fun v hv => ?_, e2.trans (Kp.uI (fun z => z rfl))⟩
          show (uI w' B u (iv (min (E' u) (D i + (lo : Nat))))).1 B v = iv (if v = u then min (E' u) (D i + (lo : Nat)) else E' v) ∧ MNm (PTm q c k (i + 1) v) (if v = u then min (E' u) (D i + (lo : Nat)) else E' v)
          by_cases y : v = u
          · rw [if_pos y, y, uI_same]
            refine ⟨rfl, (hEu.2.join new (fun z hz => PT_bd hN hc hz) (fun z hz => ?_)).congr (fun z => ?_)⟩
            · obtain ⟨h', a1, a2, a3, a4⟩ := hz
              have := Pf_bd a1
              rw [sm_s] at a4
              omega
            · constructor
              · rintro (⟨h', s, a1, a2, a3, a4, a5⟩ | ⟨h', a1, a2, a3, a4⟩)
                · exact ⟨h', s, a1, a2, a3, by omega, a5⟩
                · exact ⟨h', i, a1, a2, by rw [a3]; exact ht, Or.inr ⟨a3, by omega⟩, a4⟩
              · rintro ⟨h', s, a1, a2, a3, a4, a5⟩
                by_cases t : kdC q c (h' c) = k ∧ s = i
                · exact Or.inr ⟨h', by rw [← t.2]; exact a1, a2, t.1, a5⟩
                · exact Or.inl ⟨h', s, a1, a2, a3, by omega, a5⟩
          · rw [if_neg y, uI_other (Or.inr y)]
            refine ⟨(e1 v hv).1, (e1 v hv).2.congr (fun z => ?_)⟩
            constructor
            · rintro ⟨h', s, a1, a2, a3, a4, a5⟩
              exact ⟨h', s, a1, a2, a3, by omega, a5⟩
            · rintro ⟨h', s, a1, a2, a3, a4, a5⟩
              refine ⟨h', s, a1, a2, a3, ?_, a5⟩
              by_cases t : kdC q c (h' c) = k ∧ s = i
              · rw [t.1, t.2, ht] at a3
                exact absurd (Option.some.inj a3).symm y
              · omega
    · rintro _ w' kk ⟨E', e1, e2⟩
      show ∃ (w1 : Wd) (E' : Nat → Int), bX1_addFewest_42 (iv c) (iv k) kk (iv (lo : Nat)) (iv (lm (qW q) c k : Nat)) (b2i (decide (c % qW q + 1 = qW q))) (iv (2 ^ (qW q + 1) : Nat)) (iv (2 ^ (qW q + 1) : Nat)) w' = _ ∧ _
      unfold bX1_addFewest_42
      rw [if_pos iv_Nle']
      exact ⟨w', E', rfl, fun u hu => ⟨(e1 u hu).1, (e1 u hu).2.congr (nxt u)⟩, e2⟩
end FEW
