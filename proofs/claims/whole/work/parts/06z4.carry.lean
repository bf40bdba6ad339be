/-! ===== carrying, the class: along the ways ===== -/
/-- the ways, as they are found -/
def WY (W H : Nat) (K sur st : Nat → Int) (hp : Nat → Prop) (q rk : Nat → Nat) (w : Wd) : Prop := (∀ v, v < W * H → -100 ≤ st v ∧ st v ≤ 8) ∧ (∀ v, v < W * H → rk v < W * H) ∧ (∀ v, v < W * H → hp v → q v < 4 * (W * H) ∧ oA W H (q v) ∧ tA W H (q v) = v ∧ sA (q v) < W * H ∧ st v = st (sA (q v)) + cA W H K (q v) ∧ rk (sA (q v)) < rk v) ∧ (∀ v, v < W * H → ¬ hp v → 0 < sur v) ∧ (∀ j, j < 4 * (W * H) → oA W H j → st (tA W H j) ≤ st (sA j) + cA W H K j) ∧ WS (W * H) st hp q w
def anc (q : Nat → Nat) (e : Nat) : Nat → Nat
  | 0 => e
  | n + 1 => sA (q (anc q e n))
theorem anc_s (q : Nat → Nat) (e : Nat) : ∀ n, anc q e (n + 1) = anc q (sA (q e)) n
  | 0 => rfl
  | n + 1 => by
    show sA (q (anc q e (n + 1))) = sA (q (anc q (sA (q e)) n))
    rw [anc_s q e n]
section CARRY2
variable {W H : Nat} {K sur st pi s0 : Nat → Int} {hp : Nat → Prop} {q rk : Nat → Nat} {w : Wd}
theorem WY.chain (h : WY W H K sur st hp q rk w) : ∀ k e, e < W * H → rk e < k → ∃ l, l ≤ rk e ∧ anc q e l < W * H ∧ ¬ hp (anc q e l) ∧ ∀ n, n < l → anc q e n < W * H ∧ hp (anc q e n)
  | 0, e, _, h2 => by omega
  | k + 1, e, h1, h2 => by
    by_cases z : hp e
    · obtain ⟨a1, a2, a3, a4, a5, a6⟩ := h.2.2.1 e h1 z
      obtain ⟨l, b1, b2, b3, b4⟩ := WY.chain h k (sA (q e)) a4 (by omega)
      refine ⟨l + 1, by omega, by rw [anc_s]; exact b2, by rw [anc_s]; exact b3, fun n hn => ?_⟩
      cases n with
      | zero => exact ⟨h1, z⟩
      | succ n => rw [anc_s]; exact b4 n (by omega)
    · exact ⟨0, by omega, h1, z, fun n hn => by omega⟩
theorem WY.rk_lt (h : WY W H K sur st hp q rk w) {e l : Nat} (hl : ∀ n, n < l → anc q e n < W * H ∧ hp (anc q e n)) : ∀ d n, n + d + 1 ≤ l → rk (anc q e (n + d + 1)) < rk (anc q e n)
  | 0, n, hn => (h.2.2.1 _ (hl n (by omega)).1 (hl n (by omega)).2).2.2.2.2.2
  | d + 1, n, hn => by
    have h1 := WY.rk_lt h hl d n (by omega)
    have h2 : rk (anc q e (n + (d + 1) + 1)) < rk (anc q e (n + (d + 1))) := (h.2.2.1 _ (hl (n + (d + 1)) (by omega)).1 (hl (n + (d + 1)) (by omega)).2).2.2.2.2.2
    have e1 : n + (d + 1) = n + d + 1 := by omega
    rw [e1] at h2 ⊢
    omega
theorem WY.apart (h : WY W H K sur st hp q rk w) {e l : Nat} (hl : ∀ n, n < l → anc q e n < W * H ∧ hp (anc q e n)) {n m : Nat} (hnm : n < m) (hm : m ≤ l) : rk (anc q e m) < rk (anc q e n) := by
  have := h.rk_lt hl (m - n - 1) n (by omega)
  rw [show n + (m - n - 1) + 1 = m by omega] at this
  exact this
/-- what the search leaves -/
theorem ways_s (hg : Gnd W H w) (hK : KW K w) (hP : PO W H K pi) (hsur : ∀ v, v < W * H → w.1 91 v = iv (sur v) ∧ -1000 ≤ sur v ∧ sur v ≤ 1000) {s : Nat} (hs : s < W * H) (hss : 0 < sur s) : ∃ w1 st hp q rk, fX0_findWays w = some ((), w1) ∧ WY W H K sur st hp q rk w1 ∧ Kp (fun k => k ≠ 93 ∧ k ≠ 94 ∧ k ≠ 95) w w1 := by
  have h1 := hg.1.1
  have h2 := hg.1.2.1
  have h3 := hg.1.2.2.1
  have h4 := hg.1.2.2.2.1
  obtain ⟨w1, st, hp, q, tm, gn, T, r, a1, a2, a3, a4, a5⟩ := findWays_s hg hK hP hsur
  have hcle : ∀ j, cA W H K j ≤ 1 := fun j => by unfold cA; split <;> omega
  have s1 : st s ≤ 0 := by
    have e1 := (a2 s hs).2.2.1
    have e2 : (fun v => if 0 < sur v then (0 : Int) else 1000) s = 0 := if_pos hss
    rw [e2] at e1; exact e1
  have up : ∀ v, v < W * H → st v ≤ dM W s v := lip h1 h2 h4 (h := st) (fun u d v hu hd hn hle => by
    have q1 : (4 * u + d) / 4 = u := by omega
    have q2 : (4 * u + d) % 4 = d := by omega
    have ho : oA W H (4 * u + d) := by unfold oA; rw [q1, q2, hn]; omega
    have e1 : sA (4 * u + d) = u := q1
    have e2 : tA W H (4 * u + d) = v := by unfold tA; rw [q1, q2, hn]; rfl
    have := a3 (4 * u + d) (by omega) ho (by rw [e1]; omega)
    rw [e1, e2] at this
    have := hcle (4 * u + d)
    omega) hs s1
  have up8 : ∀ v, v < W * H → st v ≤ 8 := fun v hv => by
    have := up v hv
    have := dM_le h1 h2 h4 hs hv
    omega
  have low : ∀ v, v < W * H → -100 ≤ st v := fun v hv => by
    have e1 := a2.low (B := -pi 0 - 8) (fun u hu => by
      have := hP.near h1 h2 h4 (a := 0) (b := u) (by omega) hu
      show -pi 0 - 8 ≤ (if 0 < sur u then (0 : Int) else 1000) - pi u
      split <;> omega) v hv
    have e2 := hP.near h1 h2 h4 hv (show 0 < W * H by omega)
    omega
  refine ⟨w1, st, hp, q, rkN (W * H) st pi tm, a1, ⟨fun v hv => ⟨low v hv, up8 v hv⟩, a2.rank.1, fun v hv hh => ?_, fun v hv hh => ?_, fun j hj ho => ?_, a4⟩, a5⟩
  · obtain ⟨b1, b2, b3, b4, b5, b6, b7⟩ := (a2 v hv).2.2.2.2 hh
    refine ⟨b1, b2, b3, b4, ?_, a2.rank.2.1 v hv hh⟩
    have := a3 (q v) b1 b2 (by have := up8 _ b4; omega)
    rw [b3] at this
    omega
  · have e1 := ((a2 v hv).2.2.2.1 hh).2
    have e2 := up8 v hv
    have e1 : st v = (if 0 < sur v then (0 : Int) else 1000) := e1
    by_cases z : 0 < sur v
    · exact z
    · rw [if_neg z] at e1; omega
  · exact a3 j hj ho (by have := up8 (sA j) (by unfold sA; omega); omega)
theorem nearestWanting_s (hg : Gnd W H w) (hsur : ∀ v, v < W * H → w.1 91 v = iv (sur v) ∧ -1000 ≤ sur v ∧ sur v ≤ 1000) (hst : ∀ v, v < W * H → w.1 93 v = iv (st v) ∧ -100 ≤ st v ∧ st v ≤ 8) (hex : ∃ e, e < W * H ∧ sur e < 0) : ∃ e, fX0_nearestWanting w = some (iv (e : Nat), w) ∧ e < W * H ∧ sur e < 0 := by
  have hN := WH_le hg.1.2.1 hg.1.2.2.2.1
  unfold fX0_nearestWanting
  refine lpB (m := W * H) (fun r => ∃ e, r = some (iv (e : Nat), w) ∧ e < W * H ∧ sur e < 0) (fun i x w' => w' = w ∧ ((x = -1 ∧ ∀ c, c < i → 0 ≤ sur c) ∨ (∃ e, x = iv (e : Nat) ∧ e < W * H ∧ sur e < 0))) ?_ ?_ (hGn (by omega)) ⟨rfl, Or.inl ⟨rfl, fun c h => by omega⟩⟩
  · rintro i x w' k hi ⟨rfl, h1⟩
    left
    have s1 := hsur i hi
    have s2 := hst i hi
    unfold bX0_nearestWanting_4 jX0_nearestWanting_61 jX0_nearestWanting_59 jX0_nearestWanting_61
    rw [cells_s hg.1, bnd_s, if_neg (iv_Nle (by omega) hi), gI_iv (by rw [LI_91]; omega) (by rw [LI_91]; omega), bind_s, s1.1, iv_s1]
    by_cases z : 0 ≤ sur i
    · rw [if_pos (by rw [iv_0, iv_le (by omega) (by omega)]; exact z)]
      refine ⟨x, w', rfl, rfl, ?_⟩
      rcases h1 with ⟨a1, a2⟩ | a
      · exact Or.inl ⟨a1, fun c hc => by
          by_cases y : c = i
          · subst y; exact z
          · exact a2 c (by omega)⟩
      · exact Or.inr a
    · rw [if_neg (by rw [iv_0, iv_le (by omega) (by omega)]; exact z), gI_iv (by rw [LI_93]; omega) (by rw [LI_93]; omega), bind_s, s2.1, if_pos (by rw [iv_1000, iv_lt (by omega) (by omega)]; omega)]
      rcases h1 with ⟨rfl, a2⟩ | ⟨e, rfl, a1, a2⟩
      · rw [if_pos rfl]
        exact ⟨iv i, w', rfl, rfl, Or.inr ⟨i, rfl, hi, by omega⟩⟩
      · have s3 := hst e a1
        rw [if_neg (iv_ne_m1 (by omega)), bind_s, gI_iv (by rw [LI_93]; omega) (by rw [LI_93]; omega), bind_s]
        by_cases y : w'.1 93 e ≤ iv (st i)
        · rw [if_pos y]
          exact ⟨iv e, w', rfl, rfl, Or.inr ⟨e, rfl, a1, a2⟩⟩
        · rw [if_neg y]
          exact ⟨iv i, w', rfl, rfl, Or.inr ⟨i, rfl, hi, by omega⟩⟩
  · rintro x w' k ⟨rfl, h1⟩
    unfold bX0_nearestWanting_4
    rw [cells_s hg.1, bnd_s, if_pos iv_Nle']
    rcases h1 with ⟨a1, a2⟩ | ⟨e, rfl, a1, a2⟩
    · obtain ⟨e, e1, e2⟩ := hex
      have := a2 e e1
      omega
    · exact ⟨e, rfl, a1, a2⟩
theorem amountTo_s (hg : Gnd W H w) (hK : KW K w) (hsur : ∀ v, v < W * H → w.1 91 v = iv (sur v) ∧ -4 ≤ sur v ∧ sur v ≤ 4) (hW : WY W H K sur st hp q rk w) {e l : Nat} (he : e < W * H) (hes : sur e < 0) (hlN : l < W * H) (hl : ∀ n, n < l → anc q e n < W * H ∧ hp (anc q e n)) (hlw : anc q e l < W * H) (hlr : ¬ hp (anc q e l)) : ∃ A : Int, fX0_amountTo (iv e) w = some (iv A, w) ∧ 1 ≤ A ∧ A ≤ - sur e ∧ A ≤ sur (anc q e l) ∧ ∀ n, n < l → 0 < K (rv W H (q (anc q e n))) → A ≤ K (rv W H (q (anc q e n))) := by
  have hN := WH_le hg.1.2.1 hg.1.2.2.2.1
  have hse := hsur e he
  unfold fX0_amountTo
  rw [gI_iv (by rw [LI_91]; omega) (by rw [LI_91]; omega), bind_s, hse.1, iv_neg]
  refine lpT (α := Int32 → Int32 → Int32 → Wd → Option (Int32 × Wd)) (τ := Int32 × Int32) (fun F x i w => F x.1 x.2 i w) (m := 25) (fun r => ∃ A : Int, r = some (iv A, w) ∧ 1 ≤ A ∧ A ≤ - sur e ∧ A ≤ sur (anc q e l) ∧ ∀ n, n < l → 0 < K (rv W H (q (anc q e n))) → A ≤ K (rv W H (q (anc q e n)))) (fun n x w' => w' = w ∧ n ≤ l ∧ ∃ A : Int, x = (iv A, iv (anc q e n : Nat)) ∧ 1 ≤ A ∧ A ≤ - sur e ∧ ∀ m, m < n → 0 < K (rv W H (q (anc q e m))) → A ≤ K (rv W H (q (anc q e m)))) ?_ ?_ (hGn (by omega)) (x := (iv (- sur e), iv e)) ⟨rfl, by omega, - sur e, rfl, by omega, by omega, fun m h => by omega⟩
  · rintro n x w' k hn25 ⟨rfl, hnl, A, rfl, a1, a2, a3⟩
    show (∃ (x' : Int32 × Int32) (w2 : Wd), bX0_amountTo_13 (iv e) k (iv A) (iv (anc q e n : Nat)) (iv n) w' = k x'.1 x'.2 (iv ((n + 1 : Nat) : Int)) w2 ∧ _) ∨ (∃ A' : Int, bX0_amountTo_13 (iv e) k (iv A) (iv (anc q e n : Nat)) (iv n) w' = some (iv A', w') ∧ _)
    unfold bX0_amountTo_13 jX0_amountTo_68 jX0_amountTo_55
    rw [if_neg (by rw [iv_25, iv_le (by omega) (by omega)]; omega)]
    by_cases z : n = l
    · right
      subst z
      have hr := hsur _ hlw
      have h94 := (hW.2.2.2.2.2 _ hlw).2.2 hlr
      have hpos := hW.2.2.2.1 _ hlw hlr
      rw [gI_iv (by rw [LI_94]; omega) (by rw [LI_94]; omega), bind_s, h94, if_pos rfl, gI_iv (by rw [LI_91]; omega) (by rw [LI_91]; omega), bind_s, hr.1, iv_min (by omega) (by omega)]
      refine ⟨min A (sur (anc q e n)), rfl, by omega, by omega, by omega, fun m hm hk => ?_⟩
      have := a3 m hm hk
      omega
    · left
      obtain ⟨hv, hh⟩ := hl n (by omega)
      obtain ⟨b1, b2, b3, b4, b5, b6⟩ := hW.2.2.1 _ hv hh
      obtain ⟨h94, h95⟩ := (hW.2.2.2.2.2 _ hv).2.1 hh
      have hsv : sA (q (anc q e n)) ≠ anc q e n := fun z => by rw [z] at b6; omega
      have hrv : rv W H (q (anc q e n)) = 4 * anc q e n + (q (anc q e n) % 4 + 2) % 4 := by unfold rv; rw [b3]
      have hKv := hK (rv W H (q (anc q e n))) (by rw [hrv]; omega)
      rw [gI_iv (by rw [LI_94]; omega) (by rw [LI_94]; omega), bind_s, h94, if_neg (by rw [iv_eq (by omega) (by omega)]; omega), gI_iv (by rw [LI_95]; omega) (by rw [LI_95]; omega), bind_s, h95, carriedBack_s hN hK hv (by omega), bnd_s, ← hrv, gI_iv (by rw [LI_94]; omega) (by rw [LI_94]; omega), bind_s, bind_s, h94, iv_s1]
      by_cases y : 0 < K (rv W H (q (anc q e n)))
      · rw [if_neg (by rw [iv_0, iv_le (by omega) (by omega)]; omega), iv_min (by omega) (by omega)]
        refine ⟨(iv (min A (K (rv W H (q (anc q e n))))), iv (sA (q (anc q e n)) : Nat)), w', rfl, rfl, by omega, min A (K (rv W H (q (anc q e n)))), rfl, by omega, by omega, fun m hm hk => ?_⟩
        by_cases u : m = n
        · subst u; omega
        · have := a3 m (by omega) hk
          omega
      · rw [if_pos (by rw [iv_0, iv_le (by omega) (by omega)]; omega)]
        refine ⟨(iv A, iv (sA (q (anc q e n)) : Nat)), w', rfl, rfl, by omega, A, rfl, a1, a2, fun m hm hk => ?_⟩
        by_cases u : m = n
        · subst u; omega
        · exact a3 m (by omega) hk
  · rintro x w' k ⟨_, hnl, _⟩
    omega
/-- a flow, carried on along a way -/
theorem carryAlong_s (hg : Gnd W H w) (hK : KW K w) (hKo : ∀ j, j < 100 → K j ≠ 0 → j < 4 * (W * H) ∧ oA W H j) (hW : WY W H K sur st hp q rk w) {e l : Nat} (he : e < W * H) (hlN : l < W * H) (hl : ∀ n, n < l → anc q e n < W * H ∧ hp (anc q e n)) (hlw : anc q e l < W * H) (hlr : ¬ hp (anc q e l)) {A : Int} (hA1 : 1 ≤ A) (hA4 : A ≤ 4) (hAm : ∀ j, j < 100 → K j + A ≤ 1000) (hA : ∀ n, n < l → 0 < K (rv W H (q (anc q e n))) → A ≤ K (rv W H (q (anc q e n)))) : ∃ w1 K', fX0_carryAlong (iv e) (iv A) w = some (iv (anc q e l : Nat), w1) ∧ Kp (fun k => k ≠ 92) w w1 ∧ (∀ j, j < 100 → w1.1 92 j = iv (K' j) ∧ 0 ≤ K' j ∧ K' j ≤ K j + A ∧ (K' j ≠ 0 → j < 4 * (W * H) ∧ oA W H j)) ∧ (∀ v, v < W * H → flw (4 * (W * H)) sA K' v - flw (4 * (W * H)) (tA W H) K' v = flw (4 * (W * H)) sA K v - flw (4 * (W * H)) (tA W H) K v + A * (kd (anc q e l) v - kd e v)) ∧ PO W H K' st := by
  have hN := WH_le hg.1.2.1 hg.1.2.2.2.1
  have h1 := hg.1.1
  have h2 := hg.1.2.1
  have h3 := hg.1.2.2.1
  have h4 := hg.1.2.2.2.1
  have hcle : ∀ j, cA W H K j ≤ 1 := fun j => by unfold cA; split <;> omega
  -- the labels serve the flow as it was
  have po1 : ∀ j, j < 4 * (W * H) → oA W H j → st (tA W H j) ≤ st (sA j) + 1 := fun j hj ho => by
    have := hW.2.2.2.2.1 j hj ho
    have := hcle j
    omega
  have po2 : ∀ j, j < 4 * (W * H) → oA W H j → 0 < K j → st (tA W H j) = st (sA j) + 1 := fun j hj ho hk => by
    obtain ⟨a1, a2, a3, a4, a5, a6, a7, a8, a9⟩ := arc_s h1 h2 h3 h4 hj ho
    have e1 := hW.2.2.2.2.1 _ a5 a6
    have e2 : cA W H K (rv W H j) = -1 := by unfold cA; rw [a9]; exact if_pos hk
    rw [a7, a8, e2] at e1
    have := po1 j hj ho
    omega
  unfold fX0_carryAlong
  refine lpB (m := 25) (fun r => ∃ w1 K', r = some (iv (anc q e l : Nat), w1) ∧ Kp (fun k => k ≠ 92) w w1 ∧ (∀ j, j < 100 → w1.1 92 j = iv (K' j) ∧ 0 ≤ K' j ∧ K' j ≤ K j + A ∧ (K' j ≠ 0 → j < 4 * (W * H) ∧ oA W H j)) ∧ (∀ v, v < W * H → flw (4 * (W * H)) sA K' v - flw (4 * (W * H)) (tA W H) K' v = flw (4 * (W * H)) sA K v - flw (4 * (W * H)) (tA W H) K v + A * (kd (anc q e l) v - kd e v)) ∧ PO W H K' st) (fun n x w' => n ≤ l ∧ x = iv (anc q e n : Nat) ∧ ∃ K', Kp (fun k => k ≠ 92) w w' ∧ (∀ j, j < 100 → w'.1 92 j = iv (K' j) ∧ 0 ≤ K' j ∧ K' j ≤ K j + A ∧ (K' j ≠ 0 → j < 4 * (W * H) ∧ oA W H j)) ∧ (∀ v, v < W * H → flw (4 * (W * H)) sA K' v - flw (4 * (W * H)) (tA W H) K' v = flw (4 * (W * H)) sA K v - flw (4 * (W * H)) (tA W H) K v + A * (kd (anc q e n) v - kd e v)) ∧ PO W H K' st ∧ (∀ m, n ≤ m → m < l → K' (q (anc q e m)) = K (q (anc q e m)) ∧ K' (rv W H (q (anc q e m))) = K (rv W H (q (anc q e m))))) ?_ ?_ (hGn (by omega)) ⟨by omega, rfl, K, Kp.rf, fun j hj => ⟨(hK j hj).1, (hK j hj).2.1, by omega, hKo j hj⟩, fun v _ => by show _ = _ + A * (kd e v - kd e v); rw [Int.sub_self, Int.mul_zero, Int.add_zero], fun j hj ho => ⟨po1 j hj ho, po2 j hj ho⟩, fun m _ _ => ⟨rfl, rfl⟩⟩
  · rintro n x w' k hn25 ⟨hnl, rfl, K', c1, c2, c3, c4, c5⟩
    have hg' : Gnd W H w' := hg.kept (c1.weak fun k z => by omega)
    have k94 : w'.1 94 = w.1 94 := (c1 94 (by omega)).1
    have k95 : w'.1 95 = w.1 95 := (c1 95 (by omega)).1
    unfold bX0_carryAlong_5 jX0_carryAlong_84
    rw [if_neg (by rw [iv_25, iv_le (by omega) (by omega)]; omega)]
    by_cases z : n = l
    · right
      subst z
      have h94 := (hW.2.2.2.2.2 _ hlw).2.2 hlr
      rw [gI_iv (by rw [LI_94]; omega) (by rw [LI_94]; omega), bind_s, k94, h94, if_pos rfl]
      exact ⟨w', K', rfl, c1, c2, c3, c4⟩
    · left
      obtain ⟨hv, hh⟩ := hl n (by omega)
      obtain ⟨b1, b2, b3, b4, b5, b6⟩ := hW.2.2.1 _ hv hh
      obtain ⟨r1, r2, r3, r4, r5, r6, r7, r8, r9⟩ := arc_s h1 h2 h3 h4 b1 b2
      rw [b3] at r7
      have h94 : w'.1 94 (anc q e n) = iv (sA (q (anc q e n)) : Nat) := by rw [k94]; exact ((hW.2.2.2.2.2 _ hv).2.1 hh).1
      have h95 : w'.1 95 (anc q e n) = iv (q (anc q e n) % 4 : Nat) := by rw [k95]; exact ((hW.2.2.2.2.2 _ hv).2.1 hh).2
      have hsv : sA (q (anc q e n)) ≠ anc q e n := fun z => by rw [z] at b6; omega
      have hrv : rv W H (q (anc q e n)) = 4 * anc q e n + (q (anc q e n) % 4 + 2) % 4 := by unfold rv; rw [b3]
      have hq4 : 4 * sA (q (anc q e n)) + q (anc q e n) % 4 = q (anc q e n) := by unfold sA; omega
      have hK' : KW K' w' := fun j hj => ⟨(c2 j hj).1, (c2 j hj).2.1, by have := (c2 j hj).2.2.1; have := hAm j hj; omega⟩
      have unm := c5 n (by omega) (by omega)
      have hKv := hK (rv W H (q (anc q e n))) (by omega)
      have hKq := hK (q (anc q e n)) (by omega)
      -- later arcs of the way are others
      have oth : ∀ m, n < m → m < l → q (anc q e m) ≠ q (anc q e n) ∧ q (anc q e m) ≠ rv W H (q (anc q e n)) ∧ rv W H (q (anc q e m)) ≠ q (anc q e n) ∧ rv W H (q (anc q e m)) ≠ rv W H (q (anc q e n)) := fun m m1 m2 => by
        obtain ⟨hv2, hh2⟩ := hl m m2
        obtain ⟨d1, d2, d3, d4, d5, d6⟩ := hW.2.2.1 _ hv2 hh2
        obtain ⟨t1, t2, t3, t4, t5, t6, t7, t8, t9⟩ := arc_s h1 h2 h3 h4 d1 d2
        have k1 := hW.apart hl m1 (by omega)
        have k2 : rk (sA (q (anc q e m))) < rk (anc q e n) := hW.apart hl (show n < m + 1 by omega) (by omega)
        refine ⟨fun u => ?_, fun u => ?_, fun u => ?_, fun u => ?_⟩
        · rw [← d3, u, b3] at k1; omega
        · rw [u, r7] at k2; omega
        · rw [← t8, u, b3] at k2; omega
        · have : anc q e m = anc q e n := by rw [← d3, ← t7, u, r7]
          rw [this] at k1; omega
      have fin : ∀ (j : Nat) (x : Int), j < 4 * (W * H) → oA W H j → 0 ≤ x → x ≤ K j + A → (j = q (anc q e n) ∨ j = rv W H (q (anc q e n))) → (∀ v, (x - K' j) * kd (sA j) v - (x - K' j) * kd (tA W H j) v = A * (kd (anc q e (n + 1)) v - kd (anc q e n) v)) → (0 < x → st (tA W H j) = st (sA j) + 1) → ∃ x' w2, k (iv (sA (q (anc q e n)) : Nat)) (iv ((n + 1 : Nat) : Int)) (uI w' 92 j (iv x)) = k x' (iv ((n + 1 : Nat) : Int)) w2 ∧ (n + 1 ≤ l ∧ x' = iv (anc q e (n + 1) : Nat) ∧ ∃ K', Kp (fun k => k ≠ 92) w w2 ∧ (∀ j, j < 100 → w2.1 92 j = iv (K' j) ∧ 0 ≤ K' j ∧ K' j ≤ K j + A ∧ (K' j ≠ 0 → j < 4 * (W * H) ∧ oA W H j)) ∧ (∀ v, v < W * H → flw (4 * (W * H)) sA K' v - flw (4 * (W * H)) (tA W H) K' v = flw (4 * (W * H)) sA K v - flw (4 * (W * H)) (tA W H) K v + A * (kd (anc q e (n + 1)) v - kd e v)) ∧ PO W H K' st ∧ (∀ m, n + 1 ≤ m → m < l → K' (q (anc q e m)) = K (q (anc q e m)) ∧ K' (rv W H (q (anc q e m))) = K (rv W H (q (anc q e m))))) := by
        intro j x f1 f2 f3 f4 f5 f6 f7
        refine ⟨_, uI w' 92 j (iv x), rfl, by omega, rfl, pu K' j x, c1.trans (Kp.uI (fun z => z rfl)), fun i hi => ?_, fun v hv' => ?_, fun i hi ho => ⟨po1 i hi ho, fun hk => ?_⟩, fun m m1 m2 => ?_⟩
        · by_cases u : i = j
          · subst u
            rw [uI_same, pu_at]
            exact ⟨rfl, f3, f4, fun _ => ⟨f1, f2⟩⟩
          · rw [uI_other (Or.inr u), pu_ne u]; exact c2 i hi
        · rw [flw_pu f1, flw_pu f1]
          have e1 := c3 v hv'
          have e2 := f6 v
          rw [Int.mul_sub] at e1 e2 ⊢
          omega
        · by_cases u : i = j
          · subst u
            rw [pu_at] at hk
            exact f7 hk
          · rw [pu_ne u] at hk
            exact (c4 i hi ho).2 hk
        · obtain ⟨o1, o2, o3, o4⟩ := oth m (by omega) m2
          have hc := c5 m (by omega) m2
          rcases f5 with rfl | rfl
          · rw [pu_ne o1, pu_ne o3]; exact hc
          · rw [pu_ne o2, pu_ne o4]; exact hc
      rw [gI_iv (by rw [LI_94]; omega) (by rw [LI_94]; omega), bind_s, h94, if_neg (by rw [iv_eq (by omega) (by omega)]; omega), gI_iv (by rw [LI_95]; omega) (by rw [LI_95]; omega), bind_s, h95, bind_s, carriedBack_s hN hK' hv (by omega), bnd_s, ← hrv, unm.2, iv_s1, iv_4cd]
      by_cases y : 0 < K (rv W H (q (anc q e n)))
      · have hAy := hA n (by omega) y
        rw [if_neg (by rw [iv_0, iv_le (by omega) (by omega)]; omega), xor2 _ (by omega), iv_4cd, ← hrv, gI_iv (by rw [LI_92]; omega) (by rw [LI_92]; omega), bind_s, sI_iv (by rw [LI_92]; omega) (by rw [LI_92]; omega), bind_s, (c2 _ (by omega)).1, unm.2, iv_sub]
        refine fin _ _ r5 r6 (by omega) (by omega) (Or.inr rfl) (fun v => ?_) (fun _ => po2 _ r5 r6 y)
        rw [unm.2, r7, r8]
        show (K (rv W H (q (anc q e n))) - A - K (rv W H (q (anc q e n)))) * kd (anc q e n) v - (K (rv W H (q (anc q e n))) - A - K (rv W H (q (anc q e n)))) * kd (sA (q (anc q e n))) v = A * (kd (sA (q (anc q e n))) v - kd (anc q e n) v)
        rw [show K (rv W H (q (anc q e n))) - A - K (rv W H (q (anc q e n))) = -A by omega, Int.mul_sub, Int.neg_mul, Int.neg_mul]
        omega
      · have hc1 : cA W H K (q (anc q e n)) = 1 := by unfold cA; exact if_neg y
        rw [if_pos (by rw [iv_0, iv_le (by omega) (by omega)]; omega), hq4, gI_iv (by rw [LI_92]; omega) (by rw [LI_92]; omega), bind_s, sI_iv (by rw [LI_92]; omega) (by rw [LI_92]; omega), bind_s, (c2 _ (by omega)).1, unm.1, iv_add]
        refine fin _ _ b1 b2 (by omega) (by omega) (Or.inl rfl) (fun v => ?_) (fun _ => by rw [b3, ← hc1]; exact b5)
        rw [unm.1, b3]
        show (K (q (anc q e n)) + A - K (q (anc q e n))) * kd (sA (q (anc q e n))) v - (K (q (anc q e n)) + A - K (q (anc q e n))) * kd (anc q e n) v = A * (kd (sA (q (anc q e n))) v - kd (anc q e n) v)
        rw [show K (q (anc q e n)) + A - K (q (anc q e n)) = A by omega, Int.mul_sub]
  · rintro x w' k ⟨hnl, _⟩
    omega
end CARRY2
