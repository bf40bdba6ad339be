/-! ===== carrying: the least cost, whichever way it is found ===== -/
def ab (z : Int) : Int := max z (-z)
def dM (W a b : Nat) : Int := ab (((a % W : Nat) : Int) - ((b % W : Nat) : Int)) + ab (((a / W : Nat) : Int) - ((b / W : Nat) : Int))
theorem dM_nn (W a b : Nat) : 0 ≤ dM W a b := by unfold dM ab; omega
theorem dM_self (W a : Nat) : dM W a a = 0 := by unfold dM ab; omega
theorem dM_tri (W a b c : Nat) : dM W a c ≤ dM W a b + dM W b c := by unfold dM ab; omega
theorem dM_sym (W a b : Nat) : dM W a b = dM W b a := by unfold dM ab; omega
theorem dM_le {W H a b : Nat} (h1 : 1 ≤ W) (h2 : W ≤ 5) (h4 : H ≤ 5) (ha : a < W * H) (hb : b < W * H) : dM W a b ≤ 8 := by
  have a1 : a % W < W := Nat.mod_lt _ h1
  have b1 : b % W < W := Nat.mod_lt _ h1
  have a2 : a / W < H := Nat.div_lt_of_lt_mul ha
  have b2 : b / W < H := Nat.div_lt_of_lt_mul hb
  have a3 : (0 : Int) ≤ ((a / W : Nat) : Int) := Int.natCast_nonneg _
  have b3 : (0 : Int) ≤ ((b / W : Nat) : Int) := Int.natCast_nonneg _
  unfold dM ab; omega
/-- a neighbour that is nearer -/
theorem nearer {W H s v : Nat} (h1 : 1 ≤ W) (hs : s < W * H) (hv : v < W * H) (hne : 0 < dM W s v) : ∃ u d, u < W * H ∧ d < 4 ∧ nbr W H u d = (v : Nat) ∧ dM W s u + 1 = dM W s v := by
  have x1 : v % W < W := Nat.mod_lt _ h1
  have y1 : v / W < H := Nat.div_lt_of_lt_mul hv
  have xs : s % W < W := Nat.mod_lt _ h1
  have ys : s / W < H := Nat.div_lt_of_lt_mul hs
  have ys0 : (0 : Int) ≤ ((s / W : Nat) : Int) := Int.natCast_nonneg _
  have ev : v / W * W + v % W = v := Nat.div_add_mod' v W
  generalize hx : v % W = x at *
  generalize hy : v / W = y at *
  by_cases c1 : x < s % W
  · have q := xy_of (W := W) (x := x + 1) (y := y) (by omega)
    refine ⟨y * W + (x + 1), 0, yx_lt (by omega) y1, by omega, ?_, ?_⟩
    · unfold nbr
      rw [if_pos rfl, q.1, if_neg (by omega)]; omega
    · unfold dM ab
      rw [q.1, q.2, hx, hy]; omega
  · by_cases c2 : s % W < x
    · have q := xy_of (W := W) (x := x - 1) (y := y) (by omega)
      refine ⟨y * W + (x - 1), 2, yx_lt (by omega) y1, by omega, ?_, ?_⟩
      · unfold nbr
        rw [if_neg (by omega), if_neg (by omega), if_pos rfl, q.1, if_neg (by omega)]; omega
      · unfold dM ab
        rw [q.1, q.2, hx, hy]; omega
    · by_cases c3 : y < s / W
      · have q := xy_of (W := W) (x := x) (y := y + 1) (by omega)
        have e1 : (y + 1) * W = y * W + W := Nat.succ_mul y W
        refine ⟨(y + 1) * W + x, 1, yx_lt (by omega) (by omega), by omega, ?_, ?_⟩
        · unfold nbr
          rw [if_neg (by omega), if_pos rfl, q.2, if_neg (by omega), e1]; omega
        · unfold dM ab
          rw [q.1, q.2, hx, hy]; omega
      · have c4 : s / W < y := by
          unfold dM ab at hne
          rw [hx, hy] at hne
          omega
        have q := xy_of (W := W) (x := x) (y := y - 1) (by omega)
        have e1 : y * W = (y - 1) * W + W := by
          rw [← Nat.succ_mul]
          congr 1; omega
        refine ⟨(y - 1) * W + x, 3, yx_lt (by omega) (by omega), by omega, ?_, ?_⟩
        · unfold nbr
          rw [if_neg (by omega), if_neg (by omega), if_neg (by omega), q.2, if_neg (by omega)]; omega
        · unfold dM ab
          rw [q.1, q.2, hx, hy]; omega
theorem eq_of_dM {W a b : Nat} (h : dM W a b = 0) : a = b := by
  unfold dM ab at h
  have e1 : a % W = b % W := by omega
  have e2 : a / W = b / W := by omega
  rw [← Nat.div_add_mod' a W, ← Nat.div_add_mod' b W, e1, e2]
/-- a number that grows by 1 at most from cell to cell -/
theorem lip {W H : Nat} (h1 : 1 ≤ W) (h2 : W ≤ 5) (h4 : H ≤ 5) {h : Nat → Int} (hs : ∀ u d v, u < W * H → d < 4 → nbr W H u d = (v : Nat) → h u ≤ 20 → h v ≤ h u + 1) {s : Nat} (hss : s < W * H) (h0 : h s ≤ 0) : ∀ v, v < W * H → h v ≤ dM W s v := by
  have key : ∀ n : Nat, ∀ v, v < W * H → dM W s v = n → h v ≤ n := by
    intro n
    induction n with
    | zero =>
      intro v hv e
      have : s = v := eq_of_dM e
      subst this; exact h0
    | succ n ih =>
      intro v hv e
      obtain ⟨u, d, a1, a2, a3, a4⟩ := nearer h1 hss hv (by omega)
      have hu := ih u a1 (by omega)
      have := dM_le h1 h2 h4 hss a1
      have := hs u d v a1 a2 a3 (by omega)
      omega
  intro v hv
  have := dM_nn W s v
  have h5 := key (dM W s v).toNat v hv (by omega)
  omega
/-! arcs of the ground: 4 of each cell -/
def sA (j : Nat) : Nat := j / 4
def tA (W H j : Nat) : Nat := (nbr W H (j / 4) (j % 4)).toNat
def oA (W H j : Nat) : Prop := nbr W H (j / 4) (j % 4) ≠ -1
def rv (W H j : Nat) : Nat := 4 * tA W H j + (j % 4 + 2) % 4
theorem arc_s {W H : Nat} (h1 : 1 ≤ W) (h2 : W ≤ 5) (h3 : 1 ≤ H) (h4 : H ≤ 5) {j : Nat} (hj : j < 4 * (W * H)) (ho : oA W H j) : nbr W H (j / 4) (j % 4) = (tA W H j : Nat) ∧ tA W H j < W * H ∧ sA j < W * H ∧ nbr W H (tA W H j) ((j % 4 + 2) % 4) = (sA j : Nat) ∧ rv W H j < 4 * (W * H) ∧ oA W H (rv W H j) ∧ sA (rv W H j) = tA W H j ∧ tA W H (rv W H j) = sA j ∧ rv W H (rv W H j) = j := by
  unfold oA at ho
  have hc : j / 4 < W * H := by omega
  have hr := nbr_rng h1 h2 h3 h4 hc (j % 4)
  have e1 : nbr W H (j / 4) (j % 4) = (tA W H j : Nat) := by unfold tA; omega
  have e2 : tA W H j < W * H := by unfold tA; omega
  have e3 := nb_sym h2 h4 hc (show j % 4 < 4 by omega) e1
  have d1 : rv W H j / 4 = tA W H j := by unfold rv; omega
  have d2 : rv W H j % 4 = (j % 4 + 2) % 4 := by unfold rv; omega
  have e4 : tA W H (rv W H j) = j / 4 := by
    show (nbr W H (rv W H j / 4) (rv W H j % 4)).toNat = j / 4
    rw [d1, d2, e3]; rfl
  refine ⟨e1, e2, hc, e3, by unfold rv; omega, ?_, d1, e4, ?_⟩
  · unfold oA
    rw [d1, d2, e3]; omega
  · show 4 * tA W H (rv W H j) + (rv W H j % 4 + 2) % 4 = j
    rw [e4, d2]; omega
theorem nb_d1 {W H u d v : Nat} (h1 : 1 ≤ W) (hd : d < 4) (hu : u < W * H) (h : nbr W H u d = (v : Nat)) : dM W u v ≤ 1 := by
  have x1 : u % W < W := Nat.mod_lt _ h1
  have ev : u / W * W + u % W = u := Nat.div_add_mod' u W
  unfold nbr at h
  generalize hx : u % W = x at *
  generalize hy : u / W = y at *
  rcases (show d = 0 ∨ d = 1 ∨ d = 2 ∨ d = 3 by omega) with rfl | rfl | rfl | rfl
  · rw [if_pos rfl] at h
    by_cases z : x = 0
    · rw [if_pos z] at h; omega
    · rw [if_neg z] at h
      have q := xy_of (W := W) (x := x - 1) (y := y) (by omega)
      have e : v = y * W + (x - 1) := by omega
      unfold dM ab
      rw [e, q.1, q.2, hx, hy]; omega
  · rw [if_neg (by omega), if_pos rfl] at h
    by_cases z : y = 0
    · rw [if_pos z] at h; omega
    · rw [if_neg z] at h
      have q := xy_of (W := W) (x := x) (y := y - 1) (by omega)
      have e1 : y * W = (y - 1) * W + W := by
        rw [← Nat.succ_mul]
        congr 1; omega
      have e : v = (y - 1) * W + x := by omega
      unfold dM ab
      rw [e, q.1, q.2, hx, hy]; omega
  · rw [if_neg (by omega), if_neg (by omega), if_pos rfl] at h
    by_cases z : x + 1 = W
    · rw [if_pos z] at h; omega
    · rw [if_neg z] at h
      have q := xy_of (W := W) (x := x + 1) (y := y) (by omega)
      have e : v = y * W + (x + 1) := by omega
      unfold dM ab
      rw [e, q.1, q.2, hx, hy]; omega
  · rw [if_neg (by omega), if_neg (by omega), if_neg (by omega)] at h
    by_cases z : y + 1 = H
    · rw [if_pos z] at h; omega
    · rw [if_neg z] at h
      have q := xy_of (W := W) (x := x) (y := y + 1) (by omega)
      have e1 : (y + 1) * W = y * W + W := Nat.succ_mul y W
      have e : v = (y + 1) * W + x := by omega
      unfold dM ab
      rw [e, q.1, q.2, hx, hy]; omega
/-- what the class's carrying ends with, and the model's -/
def OptC (W H : Nat) (s0 : Nat → Int) (X : Int) : Prop := ∃ K pi : Nat → Int, (∀ j, j < 4 * (W * H) → 0 ≤ K j ∧ (K j ≠ 0 → oA W H j)) ∧ (∀ v, v < W * H → flw (4 * (W * H)) sA K v - flw (4 * (W * H)) (tA W H) K v = s0 v) ∧ (∀ j, j < 4 * (W * H) → oA W H j → pi (tA W H j) ≤ pi (sA j) + 1 ∧ (0 < K j → pi (tA W H j) = pi (sA j) + 1)) ∧ X = sm K (4 * (W * H))
def OptM (W H : Nat) (s0 : Nat → Int) (Y : Int) : Prop := ∃ K p p' : Nat → Int, (∀ j, j < 625 → 0 ≤ K j ∧ (K j ≠ 0 → j / 25 < W * H ∧ j % 25 < W * H)) ∧ (∀ v, v < W * H → flw 625 (fun j => j / 25) K v = max 0 (s0 v) ∧ flw 625 (fun j => j % 25) K v = max 0 (-(s0 v))) ∧ (∀ a b, a < W * H → b < W * H → p' b ≤ p a + dM W a b) ∧ (∀ j, j < 625 → 0 < K j → p' (j % 25) = p (j / 25) + dM W (j / 25) (j % 25)) ∧ Y = sm (fun j => K j * dM W (j / 25) (j % 25)) 625
theorem least_of {f : Nat → Int} : ∀ {n : Nat}, 1 ≤ n → ∃ m, (∀ i, i < n → m ≤ f i) ∧ ∃ i, i < n ∧ m = f i
  | 0, h => by omega
  | n + 1, _ => by
    by_cases z : n = 0
    · subst z
      exact ⟨f 0, fun i hi => by have : i = 0 := by omega
                                 subst this; omega, 0, by omega, rfl⟩
    · obtain ⟨m, h1, i0, h2, h3⟩ := least_of (f := f) (n := n) (by omega)
      by_cases y : m ≤ f n
      · exact ⟨m, fun i hi => by
          by_cases u : i = n
          · subst u; exact y
          · exact h1 i (by omega), i0, by omega, h3⟩
      · exact ⟨f n, fun i hi => by
          by_cases u : i = n
          · subst u; omega
          · have := h1 i (by omega); omega, n, by omega, rfl⟩
theorem opt_eq {W H : Nat} (h1 : 1 ≤ W) (h2 : W ≤ 5) (h3 : 1 ≤ H) (h4 : H ≤ 5) {s0 : Nat → Int} {X Y : Int} (hX : OptC W H s0 X) (hY : OptM W H s0 Y) : X = Y := by
  obtain ⟨K, pi, c1, c2, c3, rfl⟩ := hX
  obtain ⟨L, p, p', m1, m2, m3, m4, hYe⟩ := hY
  generalize hM : (625 : Nat) = M at m1 m2 m4 hYe
  have hN1 : 1 ≤ W * H := WH_pos h1 h3
  -- any numbers on the cells, over the class's flow
  have cC : ∀ f : Nat → Int, sm (fun j => K j * (f (tA W H j) - f (sA j))) (4 * (W * H)) = - sm (fun v => f v * s0 v) (W * H) := fun f => by
    have e1 := flw_sum (M := 4 * (W * H)) (N := W * H) (e := sA) (K := K) (f := f) (fun j hj _ => by unfold sA; omega)
    have e2 := flw_sum (M := 4 * (W * H)) (N := W * H) (e := tA W H) (K := K) (f := f) (fun j hj hk => (arc_s h1 h2 h3 h4 hj ((c1 j hj).2 hk)).2.1)
    have e3 : sm (fun v => f v * s0 v) (W * H) = sm (fun v => f v * flw (4 * (W * H)) sA K v - f v * flw (4 * (W * H)) (tA W H) K v) (W * H) := sm_congr (fun v hv => by rw [← c2 v hv, Int.mul_sub])
    rw [e3, sm_sub (fun v => f v * flw (4 * (W * H)) sA K v), e1, e2, ← sm_sub, ← sm_ng]
    exact sm_congr (fun j _ => by rw [Int.mul_sub]; omega)
  -- and over the model's
  have cM : ∀ f g : Nat → Int, sm (fun j => L j * (g (j % 25) - f (j / 25))) M = sm (fun v => g v * max 0 (-(s0 v))) (W * H) - sm (fun v => f v * max 0 (s0 v)) (W * H) := fun f g => by
    have e1 := flw_sum (M := M) (N := W * H) (e := fun j => j / 25) (K := L) (f := f) (fun j hj hk => ((m1 j hj).2 hk).1)
    have e2 := flw_sum (M := M) (N := W * H) (e := fun j => j % 25) (K := L) (f := g) (fun j hj hk => ((m1 j hj).2 hk).2)
    have e3 : sm (fun v => g v * max 0 (-(s0 v))) (W * H) = sm (fun v => g v * flw M (fun j => j % 25) L v) (W * H) := sm_congr (fun v hv => by rw [(m2 v hv).2])
    have e4 : sm (fun v => f v * max 0 (s0 v)) (W * H) = sm (fun v => f v * flw M (fun j => j / 25) L v) (W * H) := sm_congr (fun v hv => by rw [(m2 v hv).1])
    rw [e3, e4, e1, e2, ← sm_sub]
    exact sm_congr (fun j _ => by rw [Int.mul_sub])
  have spl : ∀ f : Nat → Int, sm (fun v => f v * max 0 (-(s0 v))) (W * H) - sm (fun v => f v * max 0 (s0 v)) (W * H) = - sm (fun v => f v * s0 v) (W * H) := fun f => by
    rw [← sm_sub, ← sm_ng]
    refine sm_congr (fun v _ => ?_)
    rw [← Int.mul_sub, ← Int.mul_neg]
    congr 1; omega
  -- the class is not above the model
  have pl : ∀ a b, a < W * H → b < W * H → pi b ≤ pi a + dM W a b := fun a b ha hb => by
    have := lip h1 h2 h4 (h := fun v => pi v - pi a) (fun u d v hu hd hn _ => by
      have q1 : (4 * u + d) / 4 = u := by omega
      have q2 : (4 * u + d) % 4 = d := by omega
      have ho : oA W H (4 * u + d) := by unfold oA; rw [q1, q2, hn]; omega
      have := (c3 (4 * u + d) (by omega) ho).1
      unfold tA sA at this
      rw [q1, q2, hn] at this
      have this : pi v ≤ pi u + 1 := this
      show pi v - pi a ≤ pi u - pi a + 1
      omega) ha (by show pi a - pi a ≤ 0; omega) b hb
    have this : pi b - pi a ≤ dM W a b := this
    omega
  have x1 : sm K (4 * (W * H)) = sm (fun j => K j * (pi (tA W H j) - pi (sA j))) (4 * (W * H)) := sm_congr (fun j hj => by
    by_cases z : K j = 0
    · rw [z, Int.zero_mul]
    · have := (c3 j hj ((c1 j hj).2 z)).2 (by have := (c1 j hj).1; omega)
      rw [this, show pi (sA j) + 1 - pi (sA j) = 1 by omega, Int.mul_one])
  have le1 : sm K (4 * (W * H)) ≤ sm (fun j => L j * dM W (j / 25) (j % 25)) M := by
    rw [x1, cC pi, ← spl pi, ← cM pi pi]
    refine sm_mono0 (fun j hj => ?_)
    by_cases z : L j = 0
    · rw [z, Int.zero_mul, Int.zero_mul]; omega
    · have q := (m1 j hj).2 z
      have := pl _ _ q.1 q.2
      exact Int.mul_le_mul_of_nonneg_left (by omega) (m1 j hj).1
  -- nor the model above the class
  have hmu : ∃ mu : Nat → Int, ∀ c, (∀ a, a < W * H → mu c ≤ p a + dM W a c) ∧ ∃ a, a < W * H ∧ mu c = p a + dM W a c :=
    ⟨fun c => (least_of (f := fun a => p a + dM W a c) hN1).choose, fun c => (least_of (f := fun a => p a + dM W a c) hN1).choose_spec⟩
  obtain ⟨mu, hmu⟩ := hmu
  have le2 : sm (fun j => L j * dM W (j / 25) (j % 25)) M ≤ sm K (4 * (W * H)) := by
    have y1 : sm (fun j => L j * dM W (j / 25) (j % 25)) M = sm (fun j => L j * (p' (j % 25) - p (j / 25))) M := sm_congr (fun j hj => by
      by_cases z : L j = 0
      · rw [z, Int.zero_mul, Int.zero_mul]
      · rw [m4 j hj (by have := (m1 j hj).1; omega)]
        congr 1; omega)
    have y2 : sm (fun j => K j * (mu (tA W H j) - mu (sA j))) (4 * (W * H)) ≤ sm K (4 * (W * H)) := sm_mono0 (fun j hj => by
      by_cases z : K j = 0
      · rw [z, Int.zero_mul]; omega
      · obtain ⟨q1, q2, q3, q4, _⟩ := arc_s h1 h2 h3 h4 hj ((c1 j hj).2 z)
        obtain ⟨a, a1, a2⟩ := (hmu (sA j)).2
        have b1 := (hmu (tA W H j)).1 a a1
        have b2 := dM_tri W a (sA j) (tA W H j)
        have b3 : dM W (sA j) (tA W H j) ≤ 1 := nb_d1 h1 (show j % 4 < 4 by omega) q3 q1
        have h5 : K j * (mu (tA W H j) - mu (sA j)) ≤ K j * 1 := Int.mul_le_mul_of_nonneg_left (by omega) (c1 j hj).1
        rw [Int.mul_one] at h5
        exact h5)
    have y3 : sm (fun v => p' v * max 0 (-(s0 v))) (W * H) ≤ sm (fun v => mu v * max 0 (-(s0 v))) (W * H) := sm_mono0 (fun v hv => by
      obtain ⟨a, a1, a2⟩ := (hmu v).2
      have := m3 a v a1 hv
      exact Int.mul_le_mul_of_nonneg_right (by omega) (by omega))
    have y4 : sm (fun v => mu v * max 0 (s0 v)) (W * H) ≤ sm (fun v => p v * max 0 (s0 v)) (W * H) := sm_mono0 (fun v hv => by
      have := (hmu v).1 v hv
      rw [dM_self] at this
      exact Int.mul_le_mul_of_nonneg_right (by omega) (by omega))
    rw [y1, cM p p']
    have y5 := cC mu
    have y6 := spl mu
    omega
  rw [hYe]
  omega
