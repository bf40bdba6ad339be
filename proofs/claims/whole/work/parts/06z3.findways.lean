/-! ===== carrying, the class: shortest ways ===== -/
theorem LI_91 : LI 91 = 25 := by decide +kernel
theorem LI_92 : LI 92 = 100 := by decide +kernel
theorem LI_93 : LI 93 = 25 := by decide +kernel
theorem LI_94 : LI 94 = 25 := by decide +kernel
theorem LI_95 : LI 95 = 25 := by decide +kernel
theorem xor2 : ∀ d, d < 4 → iv (d : Nat) ^^^ (2 : Int32) = iv (((d + 2) % 4 : Nat) : Int) := by decide
theorem BFI.low {N M : Nat} {src dst : Nat → Nat} {ok : Nat → Prop} {cst pi st0 st : Nat → Int} {hp : Nat → Prop} {q tm gn : Nat → Nat} {T r : Nat} (h : BFI N M src dst ok cst pi st0 st hp q tm gn T r) {B : Int} (hB : ∀ u, u < N → B ≤ st0 u - pi u) : ∀ v, v < N → B ≤ st v - pi v := by
  have key : ∀ n v, v < N → rkN N st pi tm v < n → B ≤ st v - pi v := by
    intro n
    induction n with
    | zero => intro v _ hlt; omega
    | succ n ih =>
      intro v hv hlt
      by_cases hh : hp v
      · obtain ⟨_, _, _, a4, _, a6, _⟩ := (h v hv).2.2.2.2 hh
        have h3 := h.rank.2.1 v hv hh
        have := ih _ a4 (by omega)
        omega
      · have := ((h v hv).2.2.2.1 hh).2
        have := hB v hv
        omega
  exact fun v hv => key _ v hv (Nat.lt_succ_self _)
theorem nb_ne {W H u d v : Nat} (h1 : 1 ≤ W) (hd : d < 4) (h : nbr W H u d = (v : Nat)) : v ≠ u := by
  unfold nbr at h
  rcases (show d = 0 ∨ d = 1 ∨ d = 2 ∨ d = 3 by omega) with rfl | rfl | rfl | rfl
  · rw [if_pos rfl] at h
    split at h <;> omega
  · rw [if_neg (by omega), if_pos rfl] at h
    split at h <;> omega
  · rw [if_neg (by omega), if_neg (by omega), if_pos rfl] at h
    split at h <;> omega
  · rw [if_neg (by omega), if_neg (by omega), if_neg (by omega)] at h
    split at h <;> omega
def cA (W H : Nat) (K : Nat → Int) (j : Nat) : Int := if 0 < K (rv W H j) then -1 else 1
def PO (W H : Nat) (K pi : Nat → Int) : Prop := ∀ j, j < 4 * (W * H) → oA W H j → pi (tA W H j) ≤ pi (sA j) + 1 ∧ (0 < K j → pi (tA W H j) = pi (sA j) + 1)
def KW (K : Nat → Int) (w : Wd) : Prop := ∀ j, j < 100 → w.1 92 j = iv (K j) ∧ 0 ≤ K j ∧ K j ≤ 1000
def WS (N : Nat) (st : Nat → Int) (hp : Nat → Prop) (q : Nat → Nat) (w : Wd) : Prop := ∀ v, v < N → w.1 93 v = iv (st v) ∧ (hp v → w.1 94 v = iv (sA (q v) : Nat) ∧ w.1 95 v = iv (q v % 4 : Nat)) ∧ (¬ hp v → w.1 94 v = iv (v : Nat))
/-- in a round, ahead of an arc -/
def FW (W H : Nat) (K pi st0 : Nat → Int) (w0 : Wd) (r i : Nat) (Z : Prop) (u : Nat) (w : Wd) : Prop := ∃ st hp q tm gn T, BFI (W * H) (4 * (W * H)) sA (tA W H) (oA W H) (cA W H K) pi st0 st hp q tm gn T r ∧ RND (4 * (W * H)) sA (tA W H) (oA W H) (cA W H K) 1000 st gn r i ∧ WS (W * H) st hp q w ∧ (Z → ∀ v, v < W * H → gn v + 1 ≤ r) ∧ Kp (fun k => k ≠ 93 ∧ k ≠ 94 ∧ k ≠ 95) w0 w ∧ (u < W * H → st u < 1000)
section CARRY
variable {W H : Nat} {K pi st0 : Nat → Int} {w : Wd}
theorem PO.cst (h1 : 1 ≤ W) (h2 : W ≤ 5) (h3 : 1 ≤ H) (h4 : H ≤ 5) (hP : PO W H K pi) {j : Nat} (hj : j < 4 * (W * H)) (ho : oA W H j) : pi (tA W H j) ≤ pi (sA j) + cA W H K j := by
  obtain ⟨a1, a2, a3, a4, a5, a6, a7, a8, a9⟩ := arc_s h1 h2 h3 h4 hj ho
  unfold cA
  by_cases z : 0 < K (rv W H j)
  · have := (hP _ a5 a6).2 z
    rw [a7, a8] at this
    rw [if_pos z]; omega
  · rw [if_neg z]; exact (hP j hj ho).1
theorem PO.near (h1 : 1 ≤ W) (h2 : W ≤ 5) (h4 : H ≤ 5) (hP : PO W H K pi) {a b : Nat} (ha : a < W * H) (hb : b < W * H) : pi b ≤ pi a + 8 := by
  have := lip h1 h2 h4 (h := fun v => pi v - pi a) (fun u d v hu hd hn _ => by
    have q1 : (4 * u + d) / 4 = u := by omega
    have q2 : (4 * u + d) % 4 = d := by omega
    have ho : oA W H (4 * u + d) := by unfold oA; rw [q1, q2, hn]; omega
    have := (hP (4 * u + d) (by omega) ho).1
    unfold tA sA at this
    rw [q1, q2, hn] at this
    have this : pi v ≤ pi u + 1 := this
    show pi v - pi a ≤ pi u - pi a + 1
    omega) ha (by show pi a - pi a ≤ 0; omega) b hb
  have this : pi b - pi a ≤ dM W a b := this
  have := dM_le h1 h2 h4 ha hb
  omega
theorem carriedBack_s (hN : W * H ≤ 25) (hK : KW K w) {v d : Nat} (hv : v < W * H) (hd : d < 4) : fX0_carriedBack (iv v) (iv d) w = some (iv (K (4 * v + (d + 2) % 4)), w) := by
  unfold fX0_carriedBack
  rw [xor2 d hd, iv_4cd, gI_iv (by rw [LI_92]; omega) (by rw [LI_92]; omega), bind_s, (hK _ (by omega)).1]
theorem stepOn_s (hg : Gnd W H w) (hK : KW K w) (hP : PO W H K pi) (h0 : ∀ v, v < W * H → 0 ≤ st0 v ∧ st0 v ≤ 1000) {r u : Nat} (hu : u < W * H) {Z : Prop} {w1 : Wd} (hF : FW W H K pi st0 w r (4 * u) Z u w1) : ∃ y w2, fX0_stepOn (iv u) w1 = some (y, w2) ∧ (y = 0 ∨ y = 1) ∧ FW W H K pi st0 w r (4 * u + 4) (Z ∧ y = 0) u w2 := by
  have hN := WH_le hg.1.2.1 hg.1.2.2.2.1
  have h1 := hg.1.1
  have h2 := hg.1.2.1
  have h3 := hg.1.2.2.1
  have h4 := hg.1.2.2.2.1
  have lowB : ∀ v, v < W * H → -pi 0 - 8 ≤ st0 v - pi v := fun v hv => by
    have := h0 v hv
    have := hP.near h1 h2 h4 (a := 0) (b := v) (by omega) hv
    omega
  unfold fX0_stepOn
  refine lpB (m := 4) (fun q => ∃ y w2, q = some (y, w2) ∧ (y = 0 ∨ y = 1) ∧ FW W H K pi st0 w r (4 * u + 4) (Z ∧ y = 0) u w2) (fun d y w2 => (y = 0 ∨ y = 1) ∧ FW W H K pi st0 w r (4 * u + d) (Z ∧ y = 0) u w2) ?_ ?_ (hGn (by omega)) ⟨Or.inl rfl, by
    obtain ⟨st, hp, q, tm, gn, T, b1, b2, b3, b4, b5, b6⟩ := hF
    exact ⟨st, hp, q, tm, gn, T, b1, b2, b3, fun z => b4 z.1, b5, b6⟩⟩
  · rintro d y w2 k hd ⟨hy, st, hp, q, tm, gn, T, b1, b2, b3, b4, b5, b6⟩
    left
    have hg2 : Gnd W H w2 := hg.kept (b5.weak fun k z => by omega)
    have hK2 : KW K w2 := fun j hj => by rw [(b5 92 (by omega)).1]; exact hK j hj
    have q1 : (4 * u + d) / 4 = u := by omega
    have q2 : (4 * u + d) % 4 = d := by omega
    have hsu : sA (4 * u + d) = u := q1
    have hr := nbr_rng h1 h2 h3 h4 hu d
    have rng : ∀ v, v < W * H → -100 ≤ st v ∧ st v ≤ 1000 := fun v hv => by
      have e1 := b1.low lowB v hv
      have e2 := hP.near h1 h2 h4 hv (show 0 < W * H by omega)
      have e3 := (b1 v hv).2.2.1
      have e4 := h0 v hv
      omega
    have hlow := rng
    unfold bX0_stepOn_4 jX0_stepOn_92
    rw [if_neg (by rw [iv_4, iv_le (by omega) (by omega)]; omega), beside_s hg2 hu hd, bnd_s]
    have stay : Sa sA (tA W H) (oA W H) (cA W H K) 1000 st (4 * u + d) → ∃ x' w', k y (iv ((d + 1 : Nat) : Int)) w2 = k x' (iv ((d + 1 : Nat) : Int)) w' ∧ (x' = 0 ∨ x' = 1) ∧ FW W H K pi st0 w r (4 * u + (d + 1)) (Z ∧ x' = 0) u w' := fun hs => ⟨y, w2, rfl, hy, st, hp, q, tm, gn, T, b1, b2.skip hs, b3, b4, b5, b6⟩
    by_cases e1 : nbr W H u d = -1
    · rw [if_pos (by rw [e1]; decide), iv_s1]
      exact stay (fun o => absurd (by rw [q1, q2]; exact e1) o)
    · obtain ⟨v, hv⟩ : ∃ v : Nat, nbr W H u d = (v : Int) := ⟨(nbr W H u d).toNat, by omega⟩
      have hvN : v < W * H := by omega
      have ho : oA W H (4 * u + d) := by unfold oA; rw [q1, q2]; exact e1
      have htv : tA W H (4 * u + d) = v := by unfold tA; rw [q1, q2, hv]; rfl
      have hrv : rv W H (4 * u + d) = 4 * v + (d + 2) % 4 := by unfold rv; rw [htv, q2]
      have hne := nb_ne h1 hd hv
      have s1 := b3 u hu
      have s2 := b3 v hvN
      have l1 := hlow u hu
      have l2 := hlow v hvN
      have hc : cA W H K (4 * u + d) = if 0 < K (4 * v + (d + 2) % 4) then -1 else 1 := by unfold cA; rw [hrv]
      rw [hv, if_neg (by rw [iv_m1, iv_eq (by omega) (by omega)]; omega), gI_iv (by rw [LI_93]; omega) (by rw [LI_93]; omega), bind_s, carriedBack_s hN hK2 hvN hd, bnd_s, s1.1]
      have hKv := hK2 (4 * v + (d + 2) % 4) (by omega)
      have go : ∀ c : Int, (c = 1 ∨ c = -1) → cA W H K (4 * u + d) = c → ∃ x' w', jX0_stepOn_50 (iv u) k y (iv d) (iv v) (iv c) (iv (st u)) w2 = k x' (iv ((d + 1 : Nat) : Int)) w' ∧ (x' = 0 ∨ x' = 1) ∧ FW W H K pi st0 w r (4 * u + (d + 1)) (Z ∧ x' = 0) u w' := by
        intro c hcc hce
        unfold jX0_stepOn_50 jX0_stepOn_92
        rw [gI_iv (by rw [LI_93]; omega) (by rw [LI_93]; omega), bind_s, s2.1, iv_add]
        by_cases e2 : st v ≤ st u + c
        · rw [if_pos (by rw [iv_le (by omega) (by omega)]; exact e2), iv_s1]
          refine stay (fun _ _ => ?_)
          rw [htv, hsu, hce]; exact e2
        · rw [if_neg (by rw [iv_le (by omega) (by omega)]; exact e2), sI_iv (by rw [LI_93]; omega) (by rw [LI_93]; omega), bind_s, sI_iv (by rw [LI_94]; omega) (by rw [LI_94]; omega), bind_s, sI_iv (by rw [LI_95]; omega) (by rw [LI_95]; omega), bind_s, iv_s1]
          have hj : 4 * u + d < 4 * (W * H) := by omega
          have hlt : st (sA (4 * u + d)) + cA W H K (4 * u + d) < st (tA W H (4 * u + d)) := by rw [htv, hsu, hce]; omega
          have hgn : r ≤ gn (sA (4 * u + d)) + 1 := by
            rcases b2 _ hj with a | a | a
            · have := a ho (by rw [hsu]; exact b6 hu)
              omega
            · exact a.2
            · omega
          have hsd : sA (4 * u + d) ≠ tA W H (4 * u + d) := by rw [htv, hsu]; exact fun z => hne z.symm
          have n1 := b1.relax hj ho (by rw [hsu]; exact hu) (by rw [htv]; exact hvN) hsd (hP.cst h1 h2 h3 h4 hj ho) hlt hgn
          have n2 := b2.relax (fun j hj' _ => (b1 (sA j) (by unfold sA; omega)).2.1) hsd hlt
          rw [htv, hsu, hce] at n1 n2
          refine ⟨1, _, rfl, Or.inr rfl, _, _, _, _, _, _, n1, n2, fun x hx => ?_, fun z => absurd z.2 (by decide), b5.trans ((Kp.uI (fun z => z.1 rfl)).trans ((Kp.uI (fun z => z.2.1 rfl)).trans (Kp.uI (fun z => z.2.2 rfl)))), fun _ => by rw [pu_ne (fun z => hne z.symm)]; exact b6 hu⟩
          show (uI (uI (uI w2 93 v (iv (st u + c))) 94 v (iv u)) 95 v (iv d)).1 93 x = iv (pu st v (st u + c) x) ∧ ((x = v ∨ hp x) → (uI (uI (uI w2 93 v (iv (st u + c))) 94 v (iv u)) 95 v (iv d)).1 94 x = iv ((sA (if x = v then 4 * u + d else q x) : Nat) : Int) ∧ (uI (uI (uI w2 93 v (iv (st u + c))) 94 v (iv u)) 95 v (iv d)).1 95 x = iv (((if x = v then 4 * u + d else q x) % 4 : Nat) : Int)) ∧ (¬ (x = v ∨ hp x) → (uI (uI (uI w2 93 v (iv (st u + c))) 94 v (iv u)) 95 v (iv d)).1 94 x = iv (x : Nat))
          by_cases z : x = v
          · subst z
            refine ⟨by rw [uI_row (by omega), uI_row (by omega), uI_same, pu_at], fun _ => ⟨?_, ?_⟩, fun y => absurd (Or.inl rfl) y⟩
            · rw [uI_row (by omega), uI_same, if_pos rfl, hsu]
            · rw [uI_same, if_pos rfl, q2]
          · have s3 := b3 x hx
            refine ⟨by rw [uI_row (by omega), uI_row (by omega), uI_other (Or.inr z), pu_ne z]; exact s3.1, fun y => ⟨?_, ?_⟩, fun y => ?_⟩
            · rw [uI_row (by omega), uI_other (Or.inr z), uI_row (by omega), if_neg z]; exact (s3.2.1 (y.resolve_left z)).1
            · rw [uI_other (Or.inr z), uI_row (by omega), uI_row (by omega), if_neg z]; exact (s3.2.1 (y.resolve_left z)).2
            · rw [uI_row (by omega), uI_other (Or.inr z), uI_row (by omega)]; exact s3.2.2 (fun t => y (Or.inr t))
      by_cases e3 : 0 < K (4 * v + (d + 2) % 4)
      · rw [if_neg (by rw [iv_0, iv_le (by omega) (by omega)]; omega), iv_m1]
        exact go (-1) (Or.inr rfl) (by rw [hc, if_pos e3])
      · rw [if_pos (by rw [iv_0, iv_le (by omega) (by omega)]; omega), iv_1]
        have := go 1 (Or.inl rfl) (by rw [hc, if_neg e3])
        rw [← iv_1] at this ⊢
        exact this
  · rintro y w2 k ⟨hy, hF2⟩
    unfold bX0_stepOn_4
    rw [if_pos (by rw [iv_4]; exact Int32.le_refl _)]
    refine ⟨y, w2, ?_, hy, hF2⟩
    rcases hy with rfl | rfl
    · exact zr_0
    · exact zr_1
theorem FW.skip4 {w1 w2 : Wd} {r u : Nat} {Z : Prop} {st : Nat → Int} {gn : Nat → Nat} (b2 : RND (4 * (W * H)) sA (tA W H) (oA W H) (cA W H K) 1000 st gn r (4 * u)) (hst : 1000 ≤ st u) : RND (4 * (W * H)) sA (tA W H) (oA W H) (cA W H K) 1000 st gn r (4 * u + 4) := by
  have sk : ∀ d, d < 4 → Sa sA (tA W H) (oA W H) (cA W H K) 1000 st (4 * u + d) := fun d hd _ hlt => by
    have q1 : sA (4 * u + d) = u := by unfold sA; omega
    rw [q1] at hlt; omega
  exact (((b2.skip (sk 0 (by omega))).skip (sk 1 (by omega))).skip (sk 2 (by omega))).skip (sk 3 (by omega))
/-- all labels are as small as the arcs allow -/
theorem findWays_s (hg : Gnd W H w) (hK : KW K w) (hP : PO W H K pi) {sur : Nat → Int} (hsur : ∀ v, v < W * H → w.1 91 v = iv (sur v) ∧ -1000 ≤ sur v ∧ sur v ≤ 1000) : ∃ w1 st hp q tm gn T r, fX0_findWays w = some ((), w1) ∧ BFI (W * H) (4 * (W * H)) sA (tA W H) (oA W H) (cA W H K) pi (fun v => if 0 < sur v then 0 else 1000) st hp q tm gn T r ∧ (∀ j, j < 4 * (W * H) → Sa sA (tA W H) (oA W H) (cA W H K) 1000 st j) ∧ WS (W * H) st hp q w1 ∧ Kp (fun k => k ≠ 93 ∧ k ≠ 94 ∧ k ≠ 95) w w1 := by
  have hN := WH_le hg.1.2.1 hg.1.2.2.2.1
  have h1 := hg.1.1
  have h2 := hg.1.2.1
  have h3 := hg.1.2.2.1
  have h4 := hg.1.2.2.2.1
  generalize hs0 : (fun v => if 0 < sur v then (0 : Int) else 1000) = st0
  have h0 : ∀ v, v < W * H → 0 ≤ st0 v ∧ st0 v ≤ 1000 := fun v _ => by
    rw [← hs0]
    show 0 ≤ (if 0 < sur v then (0 : Int) else 1000) ∧ (if 0 < sur v then (0 : Int) else 1000) ≤ 1000
    split <;> omega
  generalize hQQ : (fun x => ∃ w1 st hp q tm gn T r, x = some ((), w1) ∧ BFI (W * H) (4 * (W * H)) sA (tA W H) (oA W H) (cA W H K) pi st0 st hp q tm gn T r ∧ (∀ j, j < 4 * (W * H) → Sa sA (tA W H) (oA W H) (cA W H K) 1000 st j) ∧ WS (W * H) st hp q w1 ∧ Kp (fun k => k ≠ 93 ∧ k ≠ 94 ∧ k ≠ 95) w w1 : Option (Unit × Wd) → Prop) = QQ
  have out : ∀ {x : Option (Unit × Wd)}, (∃ w1 st hp q tm gn T r, x = some ((), w1) ∧ BFI (W * H) (4 * (W * H)) sA (tA W H) (oA W H) (cA W H K) pi st0 st hp q tm gn T r ∧ (∀ j, j < 4 * (W * H) → Sa sA (tA W H) (oA W H) (cA W H K) 1000 st j) ∧ WS (W * H) st hp q w1 ∧ Kp (fun k => k ≠ 93 ∧ k ≠ 94 ∧ k ≠ 95) w w1) ↔ QQ x := by
    intro x; rw [← hQQ]
  rw [out]
  -- the rounds
  have rounds : ∀ w2, WS (W * H) st0 (fun _ => False) (fun _ => 0) w2 → Kp (fun k => k ≠ 93 ∧ k ≠ 94 ∧ k ≠ 95) w w2 → QQ (lp (fun _ _ _ => none) bX0_findWays_52 G (1 : Int32) (0 : Int32) w2) := by
    intro w2 c1 c2
    refine lpB (m := 25) QQ (fun i x w3 => ∃ st hp q tm gn T, BFI (W * H) (4 * (W * H)) sA (tA W H) (oA W H) (cA W H K) pi st0 st hp q tm gn T i ∧ WS (W * H) st hp q w3 ∧ Kp (fun k => k ≠ 93 ∧ k ≠ 94 ∧ k ≠ 95) w w3 ∧ ((x = 0 ∧ ∀ j, j < 4 * (W * H) → Sa sA (tA W H) (oA W H) (cA W H K) 1000 st j) ∨ (x = 1 ∧ ∀ j, j < 4 * (W * H) → Sa sA (tA W H) (oA W H) (cA W H K) 1000 st j ∨ i ≤ gn (sA j)))) ?_ ?_ (hGn (by omega)) ⟨st0, fun _ => False, fun _ => 0, fun _ => 0, fun _ => 0, 1, BFI_init st0, c1, c2, Or.inr ⟨rfl, fun j _ => Or.inr (by omega)⟩⟩
    · rintro i x w3 k hi ⟨st, hp, q, tm, gn, T, b1, b2, b3, b4⟩
      unfold bX0_findWays_52
      rw [if_neg (by rw [iv_25, iv_le (by omega) (by omega)]; omega)]
      rcases b4 with ⟨rfl, b5⟩ | ⟨rfl, b5⟩
      · right
        rw [if_pos rfl, ← out]
        exact ⟨w3, st, hp, q, tm, gn, T, i, rfl, b1, b5, b2, b3⟩
      · rw [if_neg (by decide)]
        left
        -- a round over the cells
        refine lpT (α := Int32 → Int32 → Int32 → Wd → Option (Unit × Wd)) (τ := Int32) (fun F x c w => F x (iv i) c w) (m := W * H) (fun z => ∃ x' w', z = k x' (iv ((i + 1 : Nat) : Int)) w' ∧ ∃ st hp q tm gn T, BFI (W * H) (4 * (W * H)) sA (tA W H) (oA W H) (cA W H K) pi st0 st hp q tm gn T (i + 1) ∧ WS (W * H) st hp q w' ∧ Kp (fun k => k ≠ 93 ∧ k ≠ 94 ∧ k ≠ 95) w w' ∧ ((x' = 0 ∧ ∀ j, j < 4 * (W * H) → Sa sA (tA W H) (oA W H) (cA W H K) 1000 st j) ∨ (x' = 1 ∧ ∀ j, j < 4 * (W * H) → Sa sA (tA W H) (oA W H) (cA W H K) 1000 st j ∨ i + 1 ≤ gn (sA j)))) (fun c x w4 => (x = 0 ∨ x = 1) ∧ FW W H K pi st0 w (i + 1) (4 * c) (x = 0) (W * H) w4) ?_ ?_ (hGn (by omega)) (x := (0 : Int32)) ⟨Or.inl rfl, st, hp, q, tm, gn, T, b1.later (by omega), fun j hj => ?_, b2, fun _ v hv => by have := (b1 v hv).2.1; omega, b3, fun z => absurd z (Nat.lt_irrefl _)⟩
        · rintro c x w4 k66 hc ⟨hx, hF⟩
          left
          show ∃ x' w', bX0_findWays_66 k k66 x (iv i) (iv c) w4 = k66 x' (iv i) (iv ((c + 1 : Nat) : Int)) w' ∧ _
          obtain ⟨st, hp, q, tm, gn, T, d1, d2, d3, d4, d5, d6⟩ := hF
          have hg4 : Gnd W H w4 := hg.kept (d5.weak fun k z => by omega)
          have e1 := d1.low (B := -pi 0 - 8) (fun v hv => by
            have := h0 v hv
            have := hP.near h1 h2 h4 (a := 0) (b := v) (by omega) hv
            omega) c hc
          have e2 := hP.near h1 h2 h4 hc (show 0 < W * H by omega)
          have e3 := (d1 c hc).2.2.1
          have e4 := h0 c hc
          unfold bX0_findWays_66 jX0_findWays_99
          rw [cells_s hg4.1, bnd_s, if_neg (iv_Nle (by omega) hc), gI_iv (by rw [LI_93]; omega) (by rw [LI_93]; omega), bind_s, (d3 c hc).1, iv_s1]
          by_cases z : 1000 ≤ st c
          · rw [if_pos (by rw [iv_1000, iv_le (by omega) (by omega)]; exact z)]
            exact ⟨x, w4, rfl, hx, st, hp, q, tm, gn, T, d1, FW.skip4 (w1 := w4) (w2 := w4) (Z := True) d2 z, d3, d4, d5, d6⟩
          · obtain ⟨y, w5, f1, f2, f3⟩ := stepOn_s hg hK hP h0 hc (Z := (x = 0)) (w1 := w4) ⟨st, hp, q, tm, gn, T, d1, d2, d3, d4, d5, fun _ => by omega⟩
            obtain ⟨st', hp', q', tm', gn', T', g1, g2, g3, g4, g5, _⟩ := f3
            rw [if_neg (by rw [iv_1000, iv_le (by omega) (by omega)]; exact z), f1, bnd_s]
            rcases f2 with rfl | rfl
            · rw [if_pos rfl]
              exact ⟨x, w5, rfl, hx, st', hp', q', tm', gn', T', g1, g2, g3, fun z => g4 ⟨z, rfl⟩, g5, fun z => absurd z (Nat.lt_irrefl _)⟩
            · rw [if_neg (by decide)]
              exact ⟨1, w5, rfl, Or.inr rfl, st', hp', q', tm', gn', T', g1, g2, g3, fun z => absurd z (by decide), g5, fun z => absurd z (Nat.lt_irrefl _)⟩
        · rintro x w4 k66 ⟨hx, st, hp, q, tm, gn, T, d1, d2, d3, d4, d5, d6⟩
          have hg4 : Gnd W H w4 := hg.kept (d5.weak fun k z => by omega)
          show ∃ x' w', bX0_findWays_66 k k66 x (iv i) (iv ((W * H : Nat) : Int)) w4 = k x' (iv ((i + 1 : Nat) : Int)) w' ∧ _
          unfold bX0_findWays_66
          rw [cells_s hg4.1, bnd_s, if_pos iv_Nle', iv_s1]
          refine ⟨x, w4, rfl, st, hp, q, tm, gn, T, d1, d3, d5, ?_⟩
          rcases hx with rfl | rfl
          · refine Or.inl ⟨rfl, fun j hj => ?_⟩
            rcases d2 j hj with a | a | a
            · exact a
            · omega
            · have := d4 rfl (sA j) (by unfold sA; omega)
              omega
          · refine Or.inr ⟨rfl, fun j hj => ?_⟩
            rcases d2 j hj with a | a | a
            · exact Or.inl a
            · omega
            · exact Or.inr (by omega)
        · rcases b5 j hj with a | a
          · exact Or.inl a
          · exact Or.inr (Or.inl ⟨by omega, by omega⟩)
    · rintro x w3 k ⟨st, hp, q, tm, gn, T, b1, b2, b3, b4⟩
      unfold bX0_findWays_52
      rw [if_pos (by decide), ← out]
      refine ⟨w3, st, hp, q, tm, gn, T, 25, rfl, b1, fun j hj => ?_, b2, b3⟩
      rcases b4 with ⟨_, b5⟩ | ⟨_, b5⟩
      · exact b5 j hj
      · rcases b5 j hj with a | a
        · exact a
        · have := b1.gen (v := sA j) (by unfold sA; omega)
          omega
  unfold fX0_findWays
  refine lpA (m := W * H) QQ (fun i w2 => (∀ v, v < i → w2.1 93 v = iv (st0 v) ∧ w2.1 94 v = iv (v : Nat)) ∧ Kp (fun k => k ≠ 93 ∧ k ≠ 94 ∧ k ≠ 95) w w2) ?_ ?_ (hGn (by omega)) ⟨fun v h => by omega, Kp.rf⟩
  · rintro i w2 k hi ⟨c1, c2⟩
    left
    have hg2 : Gnd W H w2 := hg.kept (c2.weak fun k z => by omega)
    have hsi := hsur i hi
    have s91 : w2.1 91 i = iv (sur i) := by rw [(c2 91 (by omega)).1]; exact hsi.1
    unfold bX0_findWays_2 jX0_findWays_34
    rw [cells_s hg2.1, bnd_s, if_neg (iv_Nle (by omega) hi), gI_iv (by rw [LI_91]; omega) (by rw [LI_91]; omega), bind_s, s91]
    have go : ∀ x : Int, st0 i = x → ∃ w', ((sI w2 93 (iv i) (iv x)).bind fun w4 => (sI w4 94 (iv i) (iv i)).bind fun w5 => k (iv i + (1 : Int32)) w5) = k (iv ((i + 1 : Nat) : Int)) w' ∧ (∀ v, v < i + 1 → w'.1 93 v = iv (st0 v) ∧ w'.1 94 v = iv (v : Nat)) ∧ Kp (fun k => k ≠ 93 ∧ k ≠ 94 ∧ k ≠ 95) w w' := by
      intro x hx
      refine ⟨uI (uI w2 93 i (iv x)) 94 i (iv i), ?_, fun v hv => ?_, c2.trans ((Kp.uI (fun z => z.1 rfl)).trans (Kp.uI (fun z => z.2.1 rfl)))⟩
      · rw [sI_iv (by rw [LI_93]; omega) (by rw [LI_93]; omega), bind_s, sI_iv (by rw [LI_94]; omega) (by rw [LI_94]; omega), bind_s, iv_s1]
      · by_cases z : v = i
        · subst z
          exact ⟨by rw [uI_row (by omega), uI_same, hx], uI_same⟩
        · have := c1 v (by omega)
          exact ⟨by rw [uI_row (by omega), uI_other (Or.inr z)]; exact this.1, by rw [uI_other (Or.inr z), uI_row (by omega)]; exact this.2⟩
    by_cases z : 0 < sur i
    · rw [if_neg (by rw [iv_0, iv_le (by omega) (by omega)]; omega), iv_0]
      exact go 0 (by rw [← hs0]; exact if_pos z)
    · rw [if_pos (by rw [iv_0, iv_le (by omega) (by omega)]; omega), iv_1000]
      exact go 1000 (by rw [← hs0]; exact if_neg z)
  · rintro w2 k ⟨c1, c2⟩
    have hg2 : Gnd W H w2 := hg.kept (c2.weak fun k z => by omega)
    unfold bX0_findWays_2
    rw [cells_s hg2.1, bnd_s, if_pos iv_Nle']
    exact rounds w2 (fun v hv => ⟨(c1 v hv).1, fun z => z.elim, fun _ => (c1 v hv).2⟩) c2
end CARRY
