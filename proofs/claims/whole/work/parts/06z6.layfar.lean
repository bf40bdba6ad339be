/-! ===== carrying, the model: shortest ways ===== -/
theorem LI_115 : LI 115 = 25 := by decide +kernel
theorem LI_116 : LI 116 = 25 := by decide +kernel
theorem LI_117 : LI 117 = 625 := by decide +kernel
theorem LI_118 : LI 118 = 52 := by decide +kernel
theorem LI_119 : LI 119 = 52 := by decide +kernel
theorem iv_M : (1000000 : Int32) = iv 1000000 := by decide
theorem ab_iv {z : Int} (h : -1000 ≤ z ∧ z ≤ 1000) : (if (0 : Int32) ≤ iv z then iv z else -(iv z)) = iv (ab z) := by
  unfold ab
  by_cases y : 0 ≤ z
  · rw [if_pos (by rw [iv_0, iv_le (by omega) (by omega)]; exact y)]; congr 1; omega
  · rw [if_neg (by rw [iv_0, iv_le (by omega) (by omega)]; exact y), iv_neg]; congr 1; omega
theorem steps_s {W H : Nat} {w : Wd} (hg : MW W H w) {a b : Nat} (ha : a < W * H) (hb : b < W * H) : fX9_steps (iv a) (iv b) w = some (iv (dM W a b), w) := by
  have hN := WH_le hg.2.1 hg.2.2.2.1
  have h1 := hg.1
  have h2 := hg.2.1
  have h4 := hg.2.2.2.1
  have a1 : a % W < W := Nat.mod_lt _ h1
  have b1 : b % W < W := Nat.mod_lt _ h1
  have a2 : a / W < H := Nat.div_lt_of_lt_mul ha
  have b2 : b / W < H := Nat.div_lt_of_lt_mul hb
  have a3 : (0 : Int) ≤ ((a / W : Nat) : Int) := Int.natCast_nonneg _
  have b3 : (0 : Int) ≤ ((b / W : Nat) : Int) := Int.natCast_nonneg _
  have e1 := ab_iv (z := ((a % W : Nat) : Int) - ((b % W : Nat) : Int)) (by omega)
  have e2 := ab_iv (z := ((a / W : Nat) : Int) - ((b / W : Nat) : Int)) (by omega)
  unfold fX9_steps jX9_steps_39 jX9_steps_52
  rw [hg.2.2.2.2.1, rm_iv (by omega) (by omega) (by omega), bind_s, rm_iv (by omega) (by omega) (by omega), bind_s, dv_iv (by omega) (by omega) (by omega), bind_s, dv_iv (by omega) (by omega) (by omega), bind_s, iv_sub, iv_sub]
  unfold dM
  rw [← iv_add, ← e1, ← e2]
  by_cases y : (0 : Int32) ≤ iv (((a % W : Nat) : Int) - ((b % W : Nat) : Int))
  · rw [if_pos y, if_pos y]
    by_cases z : (0 : Int32) ≤ iv (((a / W : Nat) : Int) - ((b / W : Nat) : Int))
    · rw [if_pos z, if_pos z]
    · rw [if_neg z, if_neg z]
  · rw [if_neg y, if_neg y]
    by_cases z : (0 : Int32) ≤ iv (((a / W : Nat) : Int) - ((b / W : Nat) : Int))
    · rw [if_pos z, if_pos z]
    · rw [if_neg z, if_neg z]
/-! arcs of the model: 2 of each pair of cells -/
def aM (N j : Nat) : Nat := (j / 2) / N
def bM (N j : Nat) : Nat := (j / 2) % N
def sM (N j : Nat) : Nat := if j % 2 = 0 then 1 + aM N j else 26 + bM N j
def tM (N j : Nat) : Nat := if j % 2 = 0 then 26 + bM N j else 1 + aM N j
def clM (N j : Nat) : Nat := 25 * aM N j + bM N j
def oM (N : Nat) (L : Nat → Int) (j : Nat) : Prop := j % 2 = 0 ∨ 0 < L (clM N j)
def cM (W N j : Nat) : Int := if j % 2 = 0 then dM W (aM N j) (bM N j) else - dM W (aM N j) (bM N j)
def pM (p p' : Nat → Int) (v : Nat) : Int := if v ≤ 25 then p (v - 1) else p' (v - 26)
theorem ab_lt {N j : Nat} (h1 : 1 ≤ N) (hj : j < 2 * (N * N)) : aM N j < N ∧ bM N j < N := by
  refine ⟨?_, Nat.mod_lt _ h1⟩
  unfold aM
  exact Nat.div_lt_of_lt_mul (by omega)
/-- potentials that serve a flow -/
def PM (W N : Nat) (L p p' : Nat → Int) : Prop := (∀ a, -100 ≤ p a ∧ p a ≤ 100) ∧ (∀ b, -100 ≤ p' b ∧ p' b ≤ 100) ∧ (∀ a b, a < N → b < N → p' b ≤ p a + dM W a b) ∧ (∀ a b, a < N → b < N → 0 < L (25 * a + b) → p' b = p a + dM W a b)
theorem PM.cst {W N : Nat} {L p p' : Nat → Int} (hN : N ≤ 25) (h1 : 1 ≤ N) (h : PM W N L p p') {j : Nat} (hj : j < 2 * (N * N)) (ho : oM N L j) : pM p p' (tM N j) ≤ pM p p' (sM N j) + cM W N j := by
  obtain ⟨ha, hb⟩ := ab_lt h1 hj
  have e1 : pM p p' (1 + aM N j) = p (aM N j) := by unfold pM; rw [if_pos (by omega), show 1 + aM N j - 1 = aM N j by omega]
  have e2 : pM p p' (26 + bM N j) = p' (bM N j) := by unfold pM; rw [if_neg (by omega), show 26 + bM N j - 26 = bM N j by omega]
  unfold tM sM cM
  by_cases z : j % 2 = 0
  · rw [if_pos z, if_pos z, if_pos z, e1, e2]; exact h.2.2.1 _ _ ha hb
  · rw [if_neg z, if_neg z, if_neg z, e1, e2]
    have := h.2.2.2 _ _ ha hb (ho.resolve_left z)
    omega
def WSm (N : Nat) (st0 st : Nat → Int) (hp : Nat → Prop) (q : Nat → Nat) (w : Wd) : Prop := ∀ v, v < 52 → w.1 118 v = iv (st v) ∧ (hp v → w.1 119 v = iv (sM N (q v) : Nat)) ∧ (¬ hp v → st0 v = 0 → w.1 119 v = 0)
/-- in a round, ahead of an arc -/
def FM (W N : Nat) (L p p' st0 : Nat → Int) (w0 : Wd) (r i : Nat) (x : Int32) (w : Wd) : Prop := ∃ st hp q tm gn T, BFI 52 (2 * (N * N)) (sM N) (tM N) (oM N L) (cM W N) (pM p p') st0 st hp q tm gn T r ∧ RND (2 * (N * N)) (sM N) (tM N) (oM N L) (cM W N) 2000000 st gn r i ∧ WSm N st0 st hp q w ∧ Kp (fun k => k ≠ 118 ∧ k ≠ 119) w0 w ∧ ((x = 0 ∧ ∀ v, v < 52 → gn v + 1 ≤ r) ∨ (x = 1 ∧ ∃ v, v < 52 ∧ gn v = r))
section FARS
variable {W N : Nat} {L p p' st0 : Nat → Int} {w : Wd}
theorem st_bd {st : Nat → Int} {hp : Nat → Prop} {q tm gn : Nat → Nat} {T r : Nat} (hP : PM W N L p p') (h0 : ∀ v, v < 52 → 0 ≤ st0 v ∧ st0 v ≤ 1000000) (hB : BFI 52 (2 * (N * N)) (sM N) (tM N) (oM N L) (cM W N) (pM p p') st0 st hp q tm gn T r) {v : Nat} (hv : v < 52) : -200 ≤ st v ∧ st v ≤ 1000000 := by
  have pb : ∀ u, -100 ≤ pM p p' u ∧ pM p p' u ≤ 100 := fun u => by
    unfold pM
    split
    · exact hP.1 _
    · exact hP.2.1 _
  have e1 := hB.low (B := -100) (fun u hu => by have := h0 u hu; have := pb u; omega) v hv
  have e2 := (hB v hv).2.2.1
  have e3 := h0 v hv
  have e4 := pb v
  omega
/-- one arc: its label is bettered, or stays -/
theorem FM.arc (hN1 : 1 ≤ N) (hN : N ≤ 25) (hP : PM W N L p p') (h0 : ∀ v, v < 52 → 0 ≤ st0 v ∧ st0 v ≤ 1000000) {w1 : Wd} {r i : Nat} {x : Int32} {st : Nat → Int} {hp : Nat → Prop} {q tm gn : Nat → Nat} {T : Nat} (hi : i < 2 * (N * N)) (b1 : BFI 52 (2 * (N * N)) (sM N) (tM N) (oM N L) (cM W N) (pM p p') st0 st hp q tm gn T r) (b2 : RND (2 * (N * N)) (sM N) (tM N) (oM N L) (cM W N) 2000000 st gn r i) (b3 : WSm N st0 st hp q w1) (b4 : Kp (fun k => k ≠ 118 ∧ k ≠ 119) w w1) (b5 : (x = 0 ∧ ∀ v, v < 52 → gn v + 1 ≤ r) ∨ (x = 1 ∧ ∃ v, v < 52 ∧ gn v = r)) : (¬ oM N L i → FM W N L p p' st0 w r (i + 1) x w1) ∧ (st (tM N i) ≤ st (sM N i) + cM W N i → FM W N L p p' st0 w r (i + 1) x w1) ∧ (oM N L i → ¬ st (tM N i) ≤ st (sM N i) + cM W N i → FM W N L p p' st0 w r (i + 1) 1 (uI (uI w1 118 (tM N i) (iv (st (sM N i) + cM W N i))) 119 (tM N i) (iv (sM N i : Nat)))) := by
  obtain ⟨ha, hb⟩ := ab_lt hN1 hi
  refine ⟨fun z => ⟨st, hp, q, tm, gn, T, b1, b2.skip (fun o => absurd o z), b3, b4, b5⟩, fun z => ⟨st, hp, q, tm, gn, T, b1, b2.skip (fun _ _ => z), b3, b4, b5⟩, fun ho z => ?_⟩
  have hs : sM N i < 52 := by unfold sM; split <;> omega
  have ht : tM N i < 52 := by unfold tM; split <;> omega
  have hsd : sM N i ≠ tM N i := by unfold sM tM; split <;> omega
  have hgn : r ≤ gn (sM N i) + 1 := by
    rcases b2 _ hi with a | a | a
    · have := a ho (by have := st_bd hP h0 b1 hs; omega)
      omega
    · exact a.2
    · omega
  have n1 := b1.relax hi ho hs ht hsd (hP.cst hN hN1 hi ho) (by omega) hgn
  have n2 := b2.relax (fun j hj _ => (b1 (sM N j) (by
    obtain ⟨ha, hb⟩ := ab_lt hN1 hj
    unfold sM; split <;> omega)).2.1) hsd (by omega)
  refine ⟨_, _, _, _, _, _, n1, n2, fun v hv => ?_, b4.trans ((Kp.uI (fun z => z.1 rfl)).trans (Kp.uI (fun z => z.2 rfl))), Or.inr ⟨rfl, tM N i, ht, if_pos rfl⟩⟩
  have s3 := b3 v hv
  show (uI (uI w1 118 (tM N i) (iv (st (sM N i) + cM W N i))) 119 (tM N i) (iv (sM N i : Nat))).1 118 v = iv (pu st (tM N i) (st (sM N i) + cM W N i) v) ∧ ((v = tM N i ∨ hp v) → (uI (uI w1 118 (tM N i) (iv (st (sM N i) + cM W N i))) 119 (tM N i) (iv (sM N i : Nat))).1 119 v = iv (sM N (if v = tM N i then i else q v) : Nat)) ∧ (¬ (v = tM N i ∨ hp v) → st0 v = 0 → (uI (uI w1 118 (tM N i) (iv (st (sM N i) + cM W N i))) 119 (tM N i) (iv (sM N i : Nat))).1 119 v = 0)
  by_cases y : v = tM N i
  · subst y
    refine ⟨by rw [uI_row (by omega), uI_same, pu_at], fun _ => ?_, fun u => absurd (Or.inl rfl) u⟩
    rw [uI_same, if_pos rfl]
  · refine ⟨by rw [uI_row (by omega), uI_other (Or.inr y), pu_ne y]; exact s3.1, fun u => ?_, fun u u2 => ?_⟩
    · rw [uI_other (Or.inr y), uI_row (by omega), if_neg y]; exact s3.2.1 (u.resolve_left y)
    · rw [uI_other (Or.inr y), uI_row (by omega)]; exact s3.2.2 (fun t => u (Or.inr t)) u2
end FARS
section FARS2
variable {W H : Nat} {L p p' st0 : Nat → Int} {w : Wd}
theorem layFar_in (hg : MW W H w) (hL : ∀ j, j < 625 → w.1 117 j = iv (L j) ∧ 0 ≤ L j ∧ L j ≤ 1000) (hP : PM W (W * H) L p p') (h0 : ∀ v, v < 52 → 0 ≤ st0 v ∧ st0 v ≤ 1000000) {r : Nat} {w1 : Wd} {k67 : Int32 → Wd → Option (Int32 × Wd)} (Q : Option (Int32 × Wd) → Prop) (hF : FM W (W * H) L p p' st0 w r 0 0 w1) (hk : ∀ x w2, FM W (W * H) L p p' st0 w r (2 * (W * H * (W * H))) x w2 → Q (k67 x w2)) : Q (lp (fun _ _ _ => none) (bX9_layFar_75 k67) G (0 : Int32) (0 : Int32) w1) := by
  have hN := WH_le hg.2.1 hg.2.2.2.1
  have hN1 : 1 ≤ W * H := WH_pos hg.1 hg.2.2.1
  generalize hNN : W * H = N at *
  have hMM : N * N ≤ 625 := Nat.mul_le_mul hN hN
  refine lpB (m := N * N) Q (fun i x w2 => FM W N L p p' st0 w r (2 * i) x w2) ?_ ?_ (hGn (by omega)) hF
  · rintro i x w2 k hi hF2
    left
    obtain ⟨st, hp, q, tm, gn, T, b1, b2, b3, b4, b5⟩ := hF2
    have hg2 : MW W H w2 := hg.kept (b4 99 (by omega)).1
    have c2 : fX9_cells w2 = some (iv ((N : Nat) : Int), w2) := by rw [← hNN]; exact mcells_s hg2
    have ha : i / N < N := Nat.div_lt_of_lt_mul hi
    have hb : i % N < N := Nat.mod_lt _ hN1
    have e0 : aM N (2 * i) = i / N := by unfold aM; rw [show 2 * i / 2 = i by omega]
    have f0 : bM N (2 * i) = i % N := by unfold bM; rw [show 2 * i / 2 = i by omega]
    have e1 : aM N (2 * i + 1) = i / N := by unfold aM; rw [show (2 * i + 1) / 2 = i by omega]
    have f1 : bM N (2 * i + 1) = i % N := by unfold bM; rw [show (2 * i + 1) / 2 = i by omega]
    have z0 : 2 * i % 2 = 0 := by omega
    have z1 : ¬ (2 * i + 1) % 2 = 0 := by omega
    generalize haa : i / N = a at *
    generalize hbb : i % N = b at *
    have s0e : sM N (2 * i) = 1 + a := by unfold sM; rw [if_pos z0, e0]
    have t0e : tM N (2 * i) = 26 + b := by unfold tM; rw [if_pos z0, f0]
    have c0e : cM W N (2 * i) = dM W a b := by unfold cM; rw [if_pos z0, e0, f0]
    have s1e : sM N (2 * i + 1) = 26 + b := by unfold sM; rw [if_neg z1, f1]
    have t1e : tM N (2 * i + 1) = 1 + a := by unfold tM; rw [if_neg z1, e1]
    have c1e : cM W N (2 * i + 1) = - dM W a b := by unfold cM; rw [if_neg z1, e1, f1]
    have l1e : clM N (2 * i + 1) = 25 * a + b := by unfold clM; rw [e1, f1]
    have hd8 : 0 ≤ dM W a b ∧ dM W a b ≤ 8 := ⟨dM_nn _ _ _, dM_le (H := H) hg.1 hg.2.1 hg.2.2.2.1 (by rw [hNN]; exact ha) (by rw [hNN]; exact hb)⟩
    have hst : ∀ {w3 : Wd}, Kp (fun k => k ≠ 118 ∧ k ≠ 119) w w3 → fX9_steps (iv a) (iv b) w3 = some (iv (dM W a b), w3) := fun h => steps_s (hg.kept (h 99 (by omega)).1) (by rw [hNN]; exact ha) (by rw [hNN]; exact hb)
    have i1 : (1 : Int32) + iv a = iv ((1 + a : Nat) : Int) := by rw [iv_1, iv_add, Int.natCast_add]; rfl
    have i26 : (26 : Int32) + iv b = iv ((26 + b : Nat) : Int) := by rw [iv_26, iv_add, Int.natCast_add]; rfl
    -- the second arc of the pair
    have half : ∀ (x : Int32) (w3 : Wd), FM W N L p p' st0 w r (2 * i + 1) x w3 → ∃ x' w4, jX9_layFar_173 k67 k x (iv i) (iv a) (iv b) w3 = k x' (iv ((i + 1 : Nat) : Int)) w4 ∧ FM W N L p p' st0 w r (2 * (i + 1)) x' w4 := by
      intro x w3 hF3
      obtain ⟨st, hp, q, tm, gn, T, b1, b2, b3, b4, b5⟩ := hF3
      have arc := FM.arc hN1 hN hP h0 (i := 2 * i + 1) (by omega) b1 b2 b3 b4 b5
      have g1 := b3 (1 + a) (by omega)
      have g2 := b3 (26 + b) (by omega)
      have r1 := st_bd hP h0 b1 (show 1 + a < 52 by omega)
      have r2 := st_bd hP h0 b1 (show 26 + b < 52 by omega)
      have hLv := hL (25 * a + b) (by omega)
      have hLw : w3.1 117 (25 * a + b) = iv (L (25 * a + b)) := by rw [(b4 117 (by omega)).1]; exact hLv.1
      rw [s1e, t1e, c1e] at arc
      unfold jX9_layFar_173 jX9_layFar_258
      rw [iv_25sc, gI_iv (by rw [LI_117]; omega) (by rw [LI_117]; omega), bind_s, hLw, iv_s1]
      by_cases y : L (25 * a + b) ≤ 0
      · rw [if_pos (by rw [iv_0, iv_le (by omega) (by omega)]; exact y)]
        exact ⟨x, w3, rfl, arc.1 (fun o => by
          unfold oM at o
          rw [l1e] at o
          omega)⟩
      · rw [if_neg (by rw [iv_0, iv_le (by omega) (by omega)]; exact y), i26, gI_iv (by rw [LI_118]; omega) (by rw [LI_118]; omega), bind_s, hst b4, bnd_s, i1, gI_iv (by rw [LI_118]; omega) (by rw [LI_118]; omega), bind_s, g1.1, g2.1, iv_sub]
        by_cases u : st (1 + a) ≤ st (26 + b) - dM W a b
        · rw [if_pos (by rw [iv_le (by omega) (by omega)]; exact u)]
          exact ⟨x, w3, rfl, arc.2.1 (by omega)⟩
        · rw [if_neg (by rw [iv_le (by omega) (by omega)]; exact u), gI_iv (by rw [LI_118]; omega) (by rw [LI_118]; omega), bind_s, hst b4, bnd_s, g2.1, iv_sub, sI_iv (by rw [LI_118]; omega) (by rw [LI_118]; omega), bind_s, sI_iv (by rw [LI_119]; omega) (by rw [LI_119]; omega), bind_s]
          have := arc.2.2 (Or.inr (by rw [l1e]; omega)) (by omega)
          rw [show st (26 + b) + -dM W a b = st (26 + b) - dM W a b by omega] at this
          exact ⟨1, _, rfl, this⟩
    have arc := FM.arc hN1 hN hP h0 (i := 2 * i) (by omega) b1 b2 b3 b4 b5
    have g1 := b3 (1 + a) (by omega)
    have g2 := b3 (26 + b) (by omega)
    have r1 := st_bd hP h0 b1 (show 1 + a < 52 by omega)
    have r2 := st_bd hP h0 b1 (show 26 + b < 52 by omega)
    rw [s0e, t0e, c0e] at arc
    unfold bX9_layFar_75
    rw [c2, bnd_s, c2, bnd_s, iv_mul, ← Int.natCast_mul, if_neg (iv_Nle (by omega) hi), c2, bnd_s, dv_iv (by omega) (by omega) (by omega), bind_s, c2, bnd_s, rm_iv (by omega) (by omega) (by omega), bind_s, haa, hbb, i1, gI_iv (by rw [LI_118]; omega) (by rw [LI_118]; omega), bind_s, hst b4, bnd_s, i26, gI_iv (by rw [LI_118]; omega) (by rw [LI_118]; omega), bind_s, g1.1, g2.1, iv_add]
    by_cases u : st (26 + b) ≤ st (1 + a) + dM W a b
    · rw [if_pos (by rw [iv_le (by omega) (by omega)]; exact u)]
      exact half x w2 (arc.2.1 u)
    · rw [if_neg (by rw [iv_le (by omega) (by omega)]; exact u), gI_iv (by rw [LI_118]; omega) (by rw [LI_118]; omega), bind_s, hst b4, bnd_s, g1.1, iv_add, sI_iv (by rw [LI_118]; omega) (by rw [LI_118]; omega), bind_s, sI_iv (by rw [LI_119]; omega) (by rw [LI_119]; omega), bind_s]
      exact half 1 _ (arc.2.2 (Or.inl z0) u)
  · rintro x w2 k hF2
    have hg2 : MW W H w2 := by
      obtain ⟨st, hp, q, tm, gn, T, b1, b2, b3, b4, b5⟩ := hF2
      exact hg.kept (b4 99 (by omega)).1
    have c2 : fX9_cells w2 = some (iv ((N : Nat) : Int), w2) := by rw [← hNN]; exact mcells_s hg2
    unfold bX9_layFar_75
    rw [c2, bnd_s, c2, bnd_s, iv_mul, ← Int.natCast_mul, if_pos iv_Nle']
    exact hk x w2 hF2
end FARS2
