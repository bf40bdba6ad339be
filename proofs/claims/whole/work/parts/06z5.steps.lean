/-! ===== carrying, the class: its answer ===== -/
def CI (W H : Nat) (s0 K sur pi : Nat → Int) (w : Wd) : Prop := (∀ j, j < 100 → w.1 92 j = iv (K j) ∧ 0 ≤ K j ∧ K j + sm (fun v => max 0 (sur v)) (W * H) ≤ 100 ∧ (K j ≠ 0 → j < 4 * (W * H) ∧ oA W H j)) ∧ (∀ v, v < W * H → w.1 91 v = iv (sur v) ∧ -4 ≤ sur v ∧ sur v ≤ 4) ∧ (∀ v, v < W * H → flw (4 * (W * H)) sA K v - flw (4 * (W * H)) (tA W H) K v + sur v = s0 v) ∧ PO W H K pi ∧ sm sur (W * H) = 0
def rcar (k : Nat) : Prop := k < 91 ∨ 95 < k
section CARRY3
variable {W H : Nat} {K sur pi s0 : Nat → Int} {w : Wd}
theorem left_bd (hsur : ∀ v, v < W * H → -4 ≤ sur v ∧ sur v ≤ 4) (hN : W * H ≤ 25) : 0 ≤ sm (fun v => max 0 (sur v)) (W * H) ∧ sm (fun v => max 0 (sur v)) (W * H) ≤ 100 := by
  have := sm_bound (f := fun v => max 0 (sur v)) (lo := 0) (hi := 4) (n := W * H) (fun v hv => by have := hsur v hv; show 0 ≤ max 0 (sur v) ∧ max 0 (sur v) ≤ 4; omega)
  omega
theorem carryNearest_s (hg : Gnd W H w) (hC : CI W H s0 K sur pi w) (hleft : 0 < sm (fun v => max 0 (sur v)) (W * H)) : ∃ A w1 K' sur' pi', fX0_carryNearest w = some (iv A, w1) ∧ 1 ≤ A ∧ A ≤ 4 ∧ CI W H s0 K' sur' pi' w1 ∧ sm (fun v => max 0 (sur' v)) (W * H) = sm (fun v => max 0 (sur v)) (W * H) - A ∧ Kp rcar w w1 := by
  have hN := WH_le hg.1.2.1 hg.1.2.2.2.1
  obtain ⟨c1, c2, c3, c4, c5⟩ := hC
  have hlb := left_bd (W := W) (H := H) (sur := sur) (fun v hv => (c2 v hv).2) hN
  have hK : KW K w := fun j hj => ⟨(c1 j hj).1, (c1 j hj).2.1, by have := (c1 j hj).2.2.1; omega⟩
  -- a cell with too many, a cell with too few
  obtain ⟨s, hs1, hs2⟩ := sm_ex hleft
  have hs2 : 0 < sur s := by have hs2 : 0 < max 0 (sur s) := hs2; omega
  have hex : ∃ e, e < W * H ∧ sur e < 0 := by
    have e1 : sm (fun v => max 0 (sur v) - max 0 (-(sur v))) (W * H) = sm sur (W * H) := sm_congr (fun v _ => by show max 0 (sur v) - max 0 (-(sur v)) = sur v; omega)
    rw [sm_sub (fun v => max 0 (sur v)), c5] at e1
    obtain ⟨e, e2, e3⟩ := sm_ex (f := fun v => max 0 (-(sur v))) (n := W * H) (by omega)
    have e3 : 0 < max 0 (-(sur e)) := e3
    exact ⟨e, e2, by omega⟩
  obtain ⟨w1, st, hp, q, rk, a1, a2, a3⟩ := ways_s hg hK c4 (fun v hv => ⟨(c2 v hv).1, by have := (c2 v hv).2; omega, by have := (c2 v hv).2; omega⟩) hs1 hs2
  have hg1 : Gnd W H w1 := hg.kept (a3.weak fun k z => by omega)
  have sur1 : ∀ v, v < W * H → w1.1 91 v = iv (sur v) ∧ -4 ≤ sur v ∧ sur v ≤ 4 := fun v hv => by rw [(a3 91 (by omega)).1]; exact c2 v hv
  have hK1 : KW K w1 := fun j hj => by rw [(a3 92 (by omega)).1]; exact hK j hj
  obtain ⟨e, b1, b2, b3⟩ := nearestWanting_s hg1 (fun v hv => ⟨(sur1 v hv).1, by have := (sur1 v hv).2; omega, by have := (sur1 v hv).2; omega⟩) (fun v hv => ⟨(a2.2.2.2.2.2 v hv).1, a2.1 v hv⟩) hex
  obtain ⟨l, l1, l2, l3, l4⟩ := a2.chain (rk e + 1) e b2 (by omega)
  have hlN : l < W * H := by have := a2.2.1 e b2; omega
  obtain ⟨A, d1, d2, d3, d4, d5⟩ := amountTo_s hg1 hK1 sur1 a2 b2 b3 hlN l4 l2 l3
  have hrp := a2.2.2.2.1 _ l2 l3
  have hre : anc q e l ≠ e := fun z => by rw [z] at hrp; omega
  have hse := sur1 e b2
  have hsr := sur1 _ l2
  -- the end gets its cubes
  have g2 : Gnd W H (uI w1 91 e (iv (sur e + A))) := hg1.kept (Kp.uI (fun z => by omega))
  have hK2 : KW K (uI w1 91 e (iv (sur e + A))) := fun j hj => by rw [uI_row (by omega)]; exact hK1 j hj
  have hW2 : WY W H K sur st hp q rk (uI w1 91 e (iv (sur e + A))) := ⟨a2.1, a2.2.1, a2.2.2.1, a2.2.2.2.1, a2.2.2.2.2.1, fun v hv => by rw [uI_row (show (93 : Nat) ≠ 91 by omega), uI_row (show (94 : Nat) ≠ 91 by omega), uI_row (show (95 : Nat) ≠ 91 by omega)]; exact a2.2.2.2.2.2 v hv⟩
  obtain ⟨w3, K', f1, f2, f3, f4, f5⟩ := carryAlong_s g2 hK2 (fun j hj => (c1 j hj).2.2.2) hW2 b2 hlN l4 l2 l3 d2 (by omega) (fun j hj => by have := (c1 j hj).2.2.1; omega) d5
  have s91 : w3.1 91 = (uI w1 91 e (iv (sur e + A))).1 91 := (f2 91 (by omega)).1
  have s91r : w3.1 91 (anc q e l) = iv (sur (anc q e l)) := by rw [s91, uI_other (Or.inr hre)]; exact hsr.1
  have lft : sm (fun v => max 0 (pu (pu sur e (sur e + A)) (anc q e l) (sur (anc q e l) - A) v)) (W * H) = sm (fun v => max 0 (sur v)) (W * H) - A := by
    have e1 : sm (fun v => max 0 (pu sur e (sur e + A) v)) (W * H) = sm (fun v => max 0 (sur v)) (W * H) := sm_congr (fun v _ => by
      by_cases z : v = e
      · subst z; rw [pu_at]; omega
      · rw [pu_ne z])
    have e2 : sm (fun v => max 0 (pu (pu sur e (sur e + A)) (anc q e l) (sur (anc q e l) - A) v)) (W * H) = sm (fun v => max 0 (pu sur e (sur e + A) v)) (W * H) + -A := sm_at (m := anc q e l) l2 (fun i _ hne => by
      show max 0 (pu (pu sur e (sur e + A)) (anc q e l) (sur (anc q e l) - A) i) = max 0 (pu sur e (sur e + A) i)
      rw [pu_ne hne]) (by
      show max 0 (pu (pu sur e (sur e + A)) (anc q e l) (sur (anc q e l) - A) (anc q e l)) = max 0 (pu sur e (sur e + A) (anc q e l)) + -A
      rw [pu_at, pu_ne hre]; omega)
    omega
  refine ⟨A, uI w3 91 (anc q e l) (iv (sur (anc q e l) - A)), K', pu (pu sur e (sur e + A)) (anc q e l) (sur (anc q e l) - A), st, ?_, d2, by omega, ⟨fun j hj => ?_, fun v hv => ?_, fun v hv => ?_, f5, ?_⟩, lft, ?_⟩
  · unfold fX0_carryNearest
    rw [a1, bnd_s, b1, bnd_s, if_neg (iv_ne_m1 (by omega)), d1, bnd_s, gI_iv (by rw [LI_91]; omega) (by rw [LI_91]; omega), bind_s, sI_iv (by rw [LI_91]; omega) (by rw [LI_91]; omega), bind_s, hse.1, iv_add, f1, bnd_s, gI_iv (by rw [LI_91]; omega) (by rw [LI_91]; omega), bind_s, sI_iv (by rw [LI_91]; omega) (by rw [LI_91]; omega), bind_s, s91r, iv_sub]
  · rw [uI_row (by omega), lft]
    have e1 := f3 j hj
    have e2 := (c1 j hj).2.2.1
    exact ⟨e1.1, e1.2.1, by omega, e1.2.2.2⟩
  · by_cases z : v = anc q e l
    · rw [z, uI_same, pu_at]; exact ⟨rfl, by omega, by omega⟩
    · rw [uI_other (Or.inr z), pu_ne z, s91]
      by_cases y : v = e
      · rw [y, uI_same, pu_at]; exact ⟨rfl, by omega, by omega⟩
      · rw [uI_other (Or.inr y), pu_ne y]; exact sur1 v hv
  · rw [f4 v hv]
    have e1 := c3 v hv
    unfold kd
    by_cases z : v = anc q e l
    · rw [z, pu_at, if_pos rfl, if_neg (fun y => hre y.symm)]
      rw [z] at e1
      omega
    · rw [pu_ne z, if_neg (fun y => z y.symm)]
      by_cases y : v = e
      · rw [y, pu_at, if_pos rfl]
        rw [y] at e1
        omega
      · rw [pu_ne y, if_neg (fun u => y u.symm)]; omega
  · have e1 : sm (pu sur e (sur e + A)) (W * H) = sm sur (W * H) + A := sm_at (m := e) b2 (fun i _ hne => pu_ne hne) (by rw [pu_at])
    have e2 : sm (pu (pu sur e (sur e + A)) (anc q e l) (sur (anc q e l) - A)) (W * H) = sm (pu sur e (sur e + A)) (W * H) + -A := sm_at (m := anc q e l) l2 (fun i _ hne => pu_ne hne) (by rw [pu_at, pu_ne hre]; omega)
    omega
  · exact (a3.weak fun k z => by unfold rcar at z; omega).trans ((Kp.uI (fun z => by unfold rcar at z; omega)).trans ((f2.weak fun k z => by unfold rcar at z; omega).trans (Kp.uI (fun z => by unfold rcar at z; omega))))
theorem leastSteps_s (hg : Gnd W H w) {p1 p2 : Nat} (hp1 : p1 < 91) (hp2 : p2 < 91) (hl1 : LI p1 = 25) (hl2 : LI p2 = 25) {f g : Nat → Int} (hf : ∀ c, c < W * H → w.1 p1 c = iv (f c) ∧ 0 ≤ f c ∧ f c ≤ 4) (hgg : ∀ c, c < W * H → w.1 p2 c = iv (g c) ∧ 0 ≤ g c ∧ g c ≤ 4) : ∃ x w1, fX0_leastSteps p1 p2 w = some (x, w1) ∧ Kp rcar w w1 ∧ ((sm f (W * H) ≠ sm g (W * H) ∧ x = -9) ∨ (sm f (W * H) = sm g (W * H) ∧ ∃ X : Int, x = iv X ∧ OptC W H (fun v => f v - g v) X)) := by
  have hN := WH_le hg.1.2.1 hg.1.2.2.2.1
  have t1 : sm (fun c => (w.1 p1 c).toInt) (W * H) = sm f (W * H) := sm_congr (fun c hc => by have := hf c hc; rw [this.1, toInt_iv (by omega) (by omega)])
  have t2 : sm (fun c => (w.1 p2 c).toInt) (W * H) = sm g (W * H) := sm_congr (fun c hc => by have := hgg c hc; rw [this.1, toInt_iv (by omega) (by omega)])
  have b1 := sm_bound (f := f) (lo := 0) (hi := 4) (n := W * H) (fun c hc => (hf c hc).2)
  have b2 := sm_bound (f := g) (lo := 0) (hi := 4) (n := W * H) (fun c hc => (hgg c hc).2)
  unfold fX0_leastSteps
  rw [total_s hg.1 (by omega) (by omega), bnd_s, total_s hg.1 (by omega) (by omega), bnd_s, t1, t2]
  by_cases z : sm f (W * H) = sm g (W * H)
  · obtain ⟨wa, a1, a2, a3⟩ := fill_s (k := 92) (by rw [LI_92]; omega) (by rw [LI_92]; omega) 0 w
    rw [if_pos (by rw [z]), a1, bnd_s]
    -- the sum at the end
    have last : ∀ (K pi sur : Nat → Int) (w2 : Wd), CI W H (fun v => f v - g v) K sur pi w2 → Kp rcar w w2 → ¬ 0 < sm (fun v => max 0 (sur v)) (W * H) → ∃ x w1, jX0_leastSteps_110 p1 p2 w2 = some (x, w1) ∧ Kp rcar w w1 ∧ ((sm f (W * H) ≠ sm g (W * H) ∧ x = -9) ∨ (sm f (W * H) = sm g (W * H) ∧ ∃ X : Int, x = iv X ∧ OptC W H (fun v => f v - g v) X)) := by
      intro K pi sur w2 hC hk hle
      obtain ⟨c1, c2, c3, c4, c5⟩ := hC
      have hz : sm (fun v => max 0 (sur v)) (W * H) = 0 := by
        have := left_bd (W := W) (H := H) (sur := sur) (fun v hv => (c2 v hv).2) hN
        omega
      have np : ∀ v, v < W * H → sur v ≤ 0 := fun v hv => by
        have := sm_all0 (f := fun v => max 0 (sur v)) (fun i _ => by show 0 ≤ max 0 (sur i); omega) hz hv
        have this : max 0 (sur v) = 0 := this
        omega
      have al0 : ∀ v, v < W * H → sur v = 0 := fun v hv => by
        have h1 : sm (fun v => -(sur v)) (W * H) = 0 := by rw [sm_ng]; omega
        have := sm_all0 (f := fun v => -(sur v)) (fun i hi => by have := np i hi; show 0 ≤ -(sur i); omega) h1 hv
        have this : -(sur v) = 0 := this
        omega
      have k100 : sm K 100 = sm K (4 * (W * H)) := by
        rw [← sm_ext K (4 * (W * H)) 100 (by omega)]
        refine sm_congr (fun j hj => ?_)
        by_cases y : j < 4 * (W * H)
        · rw [if_pos y]
        · rw [if_neg y]
          by_cases u : K j = 0
          · exact u
          · exact absurd ((c1 j hj).2.2.2 u).1 y
      have kb : ∀ i, i ≤ 100 → 0 ≤ sm K i ∧ sm K i ≤ 10000 := fun i hi => by
        have := sm_bound (f := K) (lo := 0) (hi := 100) (n := i) (fun j hj => by have := c1 j (by omega); omega)
        omega
      unfold jX0_leastSteps_110
      refine lpB (m := 100) (fun r => ∃ x w1, r = some (x, w1) ∧ Kp rcar w w1 ∧ ((sm f (W * H) ≠ sm g (W * H) ∧ x = -9) ∨ (sm f (W * H) = sm g (W * H) ∧ ∃ X : Int, x = iv X ∧ OptC W H (fun v => f v - g v) X))) (fun i x w3 => w3 = w2 ∧ x = iv (sm K i)) ?_ ?_ (hGn (by omega)) ⟨rfl, rfl⟩
      · rintro i x w3 k hi ⟨rfl, rfl⟩
        left
        unfold bX0_leastSteps_116
        rw [if_pos (by rw [LI_92]; omega), LI_92, iv_nat, if_neg (iv_Nle (by omega) hi), gI_iv (by rw [LI_92]; omega) (by rw [LI_92]; omega), bind_s, (c1 i hi).1, iv_add, iv_s1]
        exact ⟨_, w3, rfl, rfl, rfl⟩
      · rintro x w3 k ⟨rfl, rfl⟩
        unfold bX0_leastSteps_116
        rw [if_pos (by rw [LI_92]; omega), LI_92, iv_nat, if_pos iv_Nle']
        refine ⟨_, w3, rfl, hk, Or.inr ⟨z, sm K 100, rfl, K, pi, fun j hj => ⟨(c1 j (by omega)).2.1, fun h => ((c1 j (by omega)).2.2.2 h).2⟩, fun v hv => ?_, c4, k100⟩⟩
        have := c3 v hv
        have := al0 v hv
        omega
    -- the carrying
    have car : ∀ (K pi sur : Nat → Int) (w2 : Wd), CI W H (fun v => f v - g v) K sur pi w2 → Kp rcar w w2 → ∃ x w1, lp (fun _ _ _ => none) (bX0_leastSteps_86 p1 p2) G (iv (sm (fun v => max 0 (sur v)) (W * H))) (0 : Int32) w2 = some (x, w1) ∧ Kp rcar w w1 ∧ ((sm f (W * H) ≠ sm g (W * H) ∧ x = -9) ∨ (sm f (W * H) = sm g (W * H) ∧ ∃ X : Int, x = iv X ∧ OptC W H (fun v => f v - g v) X)) := by
      intro K pi sur w2 hC hk
      have hlb0 := left_bd (W := W) (H := H) (sur := sur) (fun v hv => (hC.2.1 v hv).2) hN
      refine lpB (m := 100) (fun r => ∃ x w1, r = some (x, w1) ∧ Kp rcar w w1 ∧ ((sm f (W * H) ≠ sm g (W * H) ∧ x = -9) ∨ (sm f (W * H) = sm g (W * H) ∧ ∃ X : Int, x = iv X ∧ OptC W H (fun v => f v - g v) X))) (fun i x w3 => ∃ K pi sur, x = iv (sm (fun v => max 0 (sur v)) (W * H)) ∧ CI W H (fun v => f v - g v) K sur pi w3 ∧ Kp rcar w w3 ∧ sm (fun v => max 0 (sur v)) (W * H) + i ≤ 100) ?_ ?_ (hGn (by omega)) ⟨K, pi, sur, rfl, hC, hk, by omega⟩
      · rintro i x w3 k hi ⟨K, pi, sur, rfl, c1, c2, c3⟩
        have hlb := left_bd (W := W) (H := H) (sur := sur) (fun v hv => (c1.2.1 v hv).2) hN
        unfold bX0_leastSteps_86
        rw [if_neg (by rw [iv_100, iv_le (by omega) (by omega)]; omega)]
        by_cases y : 0 < sm (fun v => max 0 (sur v)) (W * H)
        · left
          have hg3 : Gnd W H w3 := hg.kept (c2.weak fun k z => by unfold rcar; omega)
          obtain ⟨A, w4, K', sur', pi', d1, d2, d3, d4, d5, d6⟩ := carryNearest_s hg3 c1 y
          rw [if_neg (by rw [iv_0, iv_le (by omega) (by omega)]; omega), d1, bnd_s, iv_sub, iv_s1, ← d5]
          exact ⟨_, w4, rfl, K', pi', sur', rfl, d4, c2.trans d6, by rw [d5]; omega⟩
        · right
          rw [if_pos (by rw [iv_0, iv_le (by omega) (by omega)]; omega)]
          exact last K pi sur w3 c1 c2 y
      · rintro x w3 k ⟨K, pi, sur, rfl, c1, c2, c3⟩
        have hlb := left_bd (W := W) (H := H) (sur := sur) (fun v hv => (c1.2.1 v hv).2) hN
        unfold bX0_leastSteps_86
        rw [if_pos (by decide)]
        exact last K pi sur w3 c1 c2 (by omega)
    -- too many, too few
    refine lpB (m := W * H) (fun r => ∃ x w1, r = some (x, w1) ∧ Kp rcar w w1 ∧ ((sm f (W * H) ≠ sm g (W * H) ∧ x = -9) ∨ (sm f (W * H) = sm g (W * H) ∧ ∃ X : Int, x = iv X ∧ OptC W H (fun v => f v - g v) X))) (fun i x w2 => (∀ c, c < i → w2.1 91 c = iv (f c - g c)) ∧ (∀ j, j < 100 → w2.1 92 j = 0) ∧ Kp rcar w w2 ∧ x = iv (sm (fun v => max 0 (f v - g v)) i)) ?_ ?_ (hGn (by omega)) ⟨fun c h => by omega, fun j hj => a2 j (by rw [LI_92]; exact hj), a3.weak fun k z => by unfold rcar at z; omega, rfl⟩
    · rintro i x w2 k hi ⟨c1, c2, c3, rfl⟩
      left
      have hg2 : Gnd W H w2 := hg.kept (c3.weak fun k z => by unfold rcar; omega)
      have e1 := hf i hi
      have e2 := hgg i hi
      unfold bX0_leastSteps_35
      rw [cells_s hg2.1, bnd_s, if_neg (iv_Nle (by omega) hi), gI_iv (by omega) (by omega), bind_s, gI_iv (by omega) (by omega), bind_s, (c3 p1 (by unfold rcar; omega)).1, (c3 p2 (by unfold rcar; omega)).1, e1.1, e2.1, iv_sub, sI_iv (by rw [LI_91]; omega) (by rw [LI_91]; omega), bind_s, gI_iv (by rw [LI_91]; omega) (by rw [LI_91]; omega), bind_s, uI_same, iv_0, iv_max (by omega) (by omega), iv_add, iv_s1]
      refine ⟨_, _, rfl, fun c hc => ?_, fun j hj => by rw [uI_row (by omega)]; exact c2 j hj, c3.trans (Kp.uI (fun z => by unfold rcar at z; omega)), rfl⟩
      by_cases y : c = i
      · subst y; rw [uI_same]
      · rw [uI_other (Or.inr y)]; exact c1 c (by omega)
    · rintro x w2 k ⟨c1, c2, c3, rfl⟩
      have hg2 : Gnd W H w2 := hg.kept (c3.weak fun k z => by unfold rcar; omega)
      unfold bX0_leastSteps_35
      rw [cells_s hg2.1, bnd_s, if_pos iv_Nle']
      have sb : ∀ v, v < W * H → -4 ≤ f v - g v ∧ f v - g v ≤ 4 := fun v hv => by have := hf v hv; have := hgg v hv; omega
      have hlb := left_bd (W := W) (H := H) (sur := fun v => f v - g v) sb hN
      have fz : ∀ (e : Nat → Nat) v, flw (4 * (W * H)) e (fun _ => 0) v = 0 := fun e v => by
        have : flw (4 * (W * H)) e (fun _ => 0) v = sm (fun _ => 0) (4 * (W * H)) := sm_congr (fun j _ => Int.zero_mul _)
        rw [this, sm_zero]
      refine car (fun _ => 0) (fun _ => 0) (fun v => f v - g v) w2 ⟨fun j hj => ⟨c2 j hj, Int.le_refl 0, by show (0 : Int) + sm (fun v => max 0 (f v - g v)) (W * H) ≤ 100; omega, fun y => absurd rfl y⟩, fun v hv => ⟨c1 v hv, sb v hv⟩, fun v _ => by rw [fz, fz]; omega, fun j _ _ => ⟨by show (0 : Int) ≤ 0 + 1; omega, fun y => by have y : (0 : Int) < 0 := y; omega⟩, ?_⟩ c3
      rw [sm_sub]; omega
  · rw [if_neg (by rw [iv_eq (by omega) (by omega)]; exact z)]
    exact ⟨_, w, rfl, Kp.rf, Or.inl ⟨z, rfl⟩⟩
end CARRY3
