/-! ===== counting: the model's table, and that it is the class's ===== -/
def Mn (A : Nat → Nat → Bool) (q : Tl) : Nat → Nat → Int
  | 0, _ => 1
  | n + 1, s => sm (fun v => trv (mth A q (qN q - (n + 1)) s v) (Mn A q n)) 5
def Mc (A : Nat → Nat → Bool) (q : Tl) (c s : Nat) : Int := Mn A q (qN q - c) s
theorem M_end (A : Nat → Nat → Bool) (q : Tl) (s : Nat) : Mc A q (qN q) s = 1 := by
  unfold Mc; rw [Nat.sub_self]; rfl
theorem M_step (A : Nat → Nat → Bool) (q : Tl) {c : Nat} (hc : c < qN q) (s : Nat) : Mc A q c s = sm (fun v => trv (mth A q c s v) (Mc A q (c + 1))) 5 := by
  unfold Mc
  obtain ⟨n, hn⟩ : ∃ n, qN q - c = n + 1 := ⟨qN q - c - 1, by omega⟩
  rw [hn]
  have e1 : qN q - (n + 1) = c := by omega
  have e2 : qN q - (c + 1) = n := by omega
  show sm (fun v => trv (mth A q (qN q - (n + 1)) s v) (Mn A q n)) 5 = _
  rw [e1]
  refine sm_congr (fun v _ => ?_)
  show trv (mth A q c s v) (Mn A q n) = trv (mth A q c s v) (Mn A q (qN q - (c + 1)))
  rw [e2]
theorem mt_lt {W x : Nat} {last : Bool} {s k u : Nat} (hx : x < 5) (hs : s < 64) (h : mt W x last s k = some u) : u < 64 := by
  unfold mt at h
  by_cases z : (x + 1 = W ∧ ((if x = 0 then 0 else s % 2) ||| (if k / 2 = 1 then 1 else 0)) = 0) ∨ (last = true ∧ (s / 2 ||| (if k % 2 = 1 then 2 ^ x else 0)) / 2 ^ x % 2 = 0)
  · rw [if_pos z] at h
    exact absurd h (by simp)
  · rw [if_neg z] at h
    have e := Option.some.inj h
    have h1 : (s / 2 ||| (if k % 2 = 1 then 2 ^ x else 0)) < 32 := or32 (by omega) (by split; exact p2x hx; omega)
    have h2 : ((if x = 0 then 0 else s % 2) ||| (if k / 2 = 1 then 1 else 0)) < 2 := or2 _ (by split <;> omega) _ (by split <;> omega)
    omega
theorem mth_lt {A : Nat → Nat → Bool} {q : Tl} (hq : qOK q) {c s v u : Nat} (hs : s < 64) (h : mth A q c s v = some u) : u < 64 := by
  have hx : c % qW q < qW q := Nat.mod_lt _ hq.1.1
  have hW := hq.1.2.1
  unfold mth mtq at h
  split at h
  · exact mt_lt (by omega) hs h
  · exact absurd h (by simp)
theorem LL_107 : LL 107 = 1664 := by decide +kernel
theorem LI_108 : LI 108 = 1664 := by decide +kernel
theorem iv_64cs (c s : Nat) : (64 : Int32) * iv c + iv s = iv ((64 * c + s : Nat) : Int) := by
  rw [iv_64, iv_mul, iv_add, Int.natCast_add, Int.natCast_mul]; rfl
theorem iv_64c1s (c s : Nat) : (64 : Int32) * iv c + (64 : Int32) + iv s = iv ((64 * (c + 1) + s : Nat) : Int) := by
  rw [iv_64, iv_mul, iv_add, iv_add]
  show iv _ = iv _
  rw [show (64 : Int) * (c : Int) + 64 + (s : Int) = ((64 * (c + 1) + s : Nat) : Int) by omega]
def WT (A : Nat → Nat → Bool) (q : Tl) (n : Nat) (w : Wd) : Prop := ∀ c, n ≤ c → c ≤ qN q → ∀ s, s < 64 → w.2 107 (64 * c + s) = kv (Mc A q c s)
theorem s9_m9 {u : Nat} (h : u < 1000) : ¬ iv u = (-9 : Int32) := by rw [iv_m9, iv_eq (by omega) (by omega)]; omega
theorem layWays_s {q : Tl} {oc ov : Int} {w : Wd} (h : ML q oc ov w) : ∃ w1, fX9_layWays w = some ((), w1) ∧ WT (alO q oc ov) q 0 w1 ∧ Kp (fun k => k ≠ 107) w w1 ∧ w1.1 = w.1 := by
  have hN := qN_le h.1
  generalize hA : alO q oc ov = A
  let Q : Option (Unit × Wd) → Prop := fun r => ∃ w1, r = some ((), w1) ∧ WT A q 0 w1 ∧ Kp (fun k => k ≠ 107) w w1 ∧ w1.1 = w.1
  show Q (fX9_layWays w)
  unfold fX9_layWays
  refine lpA (m := 64) Q (fun i w' => (∀ s, s < i → w'.2 107 (64 * qN q + s) = kv 1) ∧ Kp (fun k => k ≠ 107) w w' ∧ w'.1 = w.1) ?_ ?_ (hGn (by omega)) ⟨fun s hs => by omega, Kp.rf, rfl⟩
  · rintro i w' kk hi ⟨h1, h2, h3⟩
    have h' := h.kept h3
    refine Or.inl ?_
    unfold bX9_layWays_2
    rw [if_neg (by rw [iv_64, iv_le (by omega) (by omega)]; omega), mcells_q h', bnd_s, iv_64cs, sL_iv (by rw [LL_107]; omega) (by rw [LL_107]; omega), bind_s, iv_s1]
    refine ⟨_, rfl, fun s hs => ?_, h2.trans (Kp.uL (by omega)), by rw [uL_int]; exact h3⟩
    rw [uL_at2]
    by_cases e : s = i
    · rw [if_pos (by rw [e])]; rfl
    · rw [if_neg (by omega)]; exact h1 s (by omega)
  · rintro w' kk ⟨h1, h2, h3⟩
    have h' := h.kept h3
    unfold bX9_layWays_2
    rw [if_pos (by decide), mcells_q h', bnd_s, iv_1, iv_sub]
    refine lpD (qN q) Q (fun n w' => WT A q n w' ∧ Kp (fun k => k ≠ 107) w w' ∧ w'.1 = w.1) ?_ ?_ (hGn (by omega)) ⟨fun c h0 hc s hs => ?_, h2, h3⟩
    · rintro c w1 k36 hc ⟨g1, g2, g3⟩
      unfold bX9_layWays_36
      rw [if_neg (by rw [iv_0, iv_lt (by omega) (by omega)]; omega)]
      refine lpB (m := 64) (fun r => ∃ w'', r = k36 (iv ((c : Int) - 1)) w'' ∧ WT A q c w'' ∧ Kp (fun k => k ≠ 107) w w'' ∧ w''.1 = w.1) (fun i x w'' => x = iv c ∧ (∀ s, s < i → w''.2 107 (64 * c + s) = kv (Mc A q c s)) ∧ WT A q (c + 1) w'' ∧ Kp (fun k => k ≠ 107) w w'' ∧ w''.1 = w.1) ?_ ?_ (hGn (by omega)) ⟨rfl, fun s hs => by omega, g1, g2, g3⟩
      · rintro i x w2 k42 hi ⟨rfl, f1, f2, f3, f4⟩
        refine Or.inl ?_
        have h2' := h.kept f4
        unfold bX9_layWays_42
        rw [if_neg (by rw [iv_64, iv_le (by omega) (by omega)]; omega)]
        refine lpT (α := Int32 → Int32 → Int64 → Int32 → Wd → Option (Unit × Wd)) (τ := Int64) (fun f x v w => f (iv c) (iv i) x v w) (m := 5) (fun r => ∃ x' w', r = k42 x' (iv ((i + 1 : Nat) : Int)) w' ∧ x' = iv c ∧ (∀ s, s < i + 1 → w'.2 107 (64 * c + s) = kv (Mc A q c s)) ∧ WT A q (c + 1) w' ∧ Kp (fun k => k ≠ 107) w w' ∧ w'.1 = w.1) (fun v x w' => x = kv (sm (fun v => trv (mth A q c i v) (Mc A q (c + 1))) v) ∧ w' = w2) ?_ ?_ (hGn (by omega)) (x := 0) ⟨rfl, rfl⟩
        · rintro v x w' k53 hv ⟨rfl, rfl⟩
          refine Or.inl ?_
          show ∃ x' w'', bX9_layWays_53 _ _ k53 _ _ _ _ w' = _ ∧ _
          unfold bX9_layWays_53 jX9_layWays_96
          rw [if_neg (by rw [iv_5, iv_le (by omega) (by omega)]; omega), then_s h2' hc hi hv, bnd_s, iv_s1, hA]
          cases hm : mth A q c i v with
          | none =>
            rw [show s9 none = (-9 : Int32) from rfl, if_pos rfl, kv_0, kv_add]
            refine ⟨_, w', rfl, ?_, rfl⟩
            rw [sm_s, hm]; rfl
          | some u =>
            have hu := mth_lt h.1 hi hm
            rw [show s9 (some u) = iv (u : Nat) from rfl, if_neg (s9_m9 (by omega)), iv_64c1s, gL_iv (by rw [LL_107]; omega) (by rw [LL_107]; omega), bind_s, f2 (c + 1) (Nat.le_refl _) (by omega) u hu, kv_add]
            refine ⟨_, w', rfl, ?_, rfl⟩
            rw [sm_s, hm]; rfl
        · rintro x w' k53 ⟨rfl, rfl⟩
          show ∃ x' w'', bX9_layWays_53 _ _ k53 _ _ _ _ w' = _ ∧ _
          unfold bX9_layWays_53
          rw [if_pos (by decide), iv_64cs, sL_iv (by rw [LL_107]; omega) (by rw [LL_107]; omega), bind_s, iv_s1, ← M_step A q hc]
          refine ⟨_, _, rfl, rfl, fun s hs => ?_, fun c' h0 hc' s hs => ?_, f3.trans (Kp.uL (by omega)), by rw [uL_int]; exact f4⟩
          · rw [uL_at2]
            by_cases e : s = i
            · rw [if_pos (by rw [e]), e]
            · rw [if_neg (by omega)]; exact f1 s (by omega)
          · rw [uL_at2, if_neg (by omega)]; exact f2 c' h0 hc' s hs
      · rintro x w2 k42 ⟨rfl, f1, f2, f3, f4⟩
        unfold bX9_layWays_42
        rw [if_pos (by decide), iv_p1]
        refine ⟨w2, rfl, fun c' h0 hc' s hs => ?_, f3, f4⟩
        by_cases e : c' = c
        · subst e; exact f1 s hs
        · exact f2 c' (by omega) hc' s hs
    · rintro w1 k36 ⟨g1, g2, g3⟩
      unfold bX9_layWays_36
      rw [if_pos (by decide)]
      exact ⟨w1, rfl, g1, g2, g3⟩
    · have : c = qN q := by omega
      subst this
      rw [h1 s hs, M_end]
/-! both tables are one -/
def lmx (x k : Nat) : Nat := (if k % 2 = 1 then 2 ^ (x + 1) else 0) ||| (if k / 2 = 1 then 1 else 0)
def trx (W x s k : Nat) : Option Nat := aft (s ||| lmx x k) (decide (x + 1 = W))
theorem tr_x (W c s k : Nat) : tr W c s k = trx W (c % W) s k := rfl
def nr (x s : Nat) : Nat := if x = 0 then s - s % 2 else s
def okB (x s : Nat) : Bool := decide (s / 2 % 2 ^ x = 2 ^ x - 1)
def mcn (o : Option Nat) (W x : Nat) : Bool := match o with
  | none => true
  | some u => decide (u / 2 ^ (x + 1) % 2 = 0) && decide (u < 2 ^ (W + 1))
def mcs (o : Option Nat) (W x : Nat) (last : Bool) (s k : Nat) : Bool := match o with
  | some u => decide (u < 2 ^ (W + 1)) && (decide (trx W x (nr x s) k = some (nr (if x + 1 = W then 0 else 1) u)) && (!last || okB (x + 1) u))
  | none => decide (trx W x (nr x s) k = none) || (last && mcn (trx W x (nr x s) k) W x)
def mck (W x : Nat) (last : Bool) (s k : Nat) : Bool := !(decide (x < W) && (decide (s < 2 ^ (W + 1)) && (!last || okB x s))) || mcs (mt W x last s k) W x last s k
theorem mc_t : ∀ W, W < 6 → ∀ x, x < 5 → ∀ s, s < 64 → ∀ k, k < 4 → mck W x true s k = true := by decide +kernel
theorem mc_f : ∀ W, W < 6 → ∀ x, x < 5 → ∀ s, s < 64 → ∀ k, k < 4 → mck W x false s k = true := by decide +kernel
def zck (W x s k x' : Nat) : Bool := !(decide (x' < x) && (decide (x < W) && (decide (s < 2 ^ (W + 1)) && decide (s / 2 ^ (x' + 1) % 2 = 0)))) || mcn (trx W x s k) W x'
theorem zc_all : ∀ W, W < 6 → ∀ x, x < 5 → ∀ s, s < 64 → ∀ k, k < 4 → ∀ x', x' < 5 → zck W x s k x' = true := by decide +kernel
def eck (W s : Nat) : Bool := !(decide (1 ≤ W) && (decide (s < 2 ^ (W + 1)) && okB W s)) || decide (nr 0 s = allM W)
theorem ec_all : ∀ W, W < 6 → ∀ s, s < 64 → eck W s = true := by decide +kernel
theorem al_all : ∀ W, W < 6 → ∀ x', x' < 5 → (!decide (x' < W) || decide (allM W / 2 ^ (x' + 1) % 2 = 1)) = true := by decide +kernel
def sck (W H c : Nat) : Bool := !(decide (1 ≤ W) && decide (c < W * H)) || ((if c % W + 1 = W then decide ((c + 1) % W = 0) && decide ((c + 1) / W = c / W + 1) else decide ((c + 1) % W = c % W + 1) && decide ((c + 1) / W = c / W)) && ((!decide (c / W + 1 = H) || decide (W * H - (c + 1) = W - (c % W + 1))) && (!decide (c + 1 = W * H) || (decide (c / W + 1 = H) && decide (c % W + 1 = W)))))
theorem sc_all : ∀ W, W < 6 → ∀ H, H < 6 → ∀ c, c < 25 → sck W H c = true := by decide +kernel
def dck (W H n : Nat) : Bool := !(decide (1 ≤ W) && (decide (1 ≤ H) && decide (n + 1 ≤ W))) || decide ((W * H - (n + 1)) % W = W - (n + 1))
theorem dc_all : ∀ W, W < 6 → ∀ H, H < 6 → ∀ n, n < 5 → dck W H n = true := by decide +kernel
theorem nimp {a b : Bool} (h : (!a || b) = true) (ha : a = true) : b = true := by
  rw [ha] at h; exact h
theorem sc_f {W H c : Nat} (h1 : 1 ≤ W) (h2 : W ≤ 5) (h4 : H ≤ 5) (hc : c < W * H) : (c % W + 1 = W → (c + 1) % W = 0 ∧ (c + 1) / W = c / W + 1) ∧ (c % W + 1 ≠ W → (c + 1) % W = c % W + 1 ∧ (c + 1) / W = c / W) ∧ (c / W + 1 = H → W * H - (c + 1) = W - (c % W + 1)) ∧ (c + 1 = W * H → c / W + 1 = H ∧ c % W + 1 = W) := by
  have hN := WH_le h2 h4
  have h := sc_all W (by omega) H (by omega) c (by omega)
  unfold sck at h
  have h := nimp h (by rw [Bool.and_eq_true]; exact ⟨decide_eq_true h1, decide_eq_true hc⟩)
  rw [Bool.and_eq_true, Bool.and_eq_true] at h
  obtain ⟨a, b, d⟩ := h
  refine ⟨fun z => ?_, fun z => ?_, fun z => of_decide_eq_true (nimp b (decide_eq_true z)), fun z => ?_⟩
  · rw [if_pos z, Bool.and_eq_true] at a; exact ⟨of_decide_eq_true a.1, of_decide_eq_true a.2⟩
  · rw [if_neg z, Bool.and_eq_true] at a; exact ⟨of_decide_eq_true a.1, of_decide_eq_true a.2⟩
  · have := nimp d (decide_eq_true z)
    rw [Bool.and_eq_true] at this; exact ⟨of_decide_eq_true this.1, of_decide_eq_true this.2⟩
theorem R_zero (A : Nat → Nat → Bool) {q : Tl} (hq : qOK q) : ∀ n, n ≤ qW q → ∀ s, s < 2 ^ (qW q + 1) → ∀ x', x' < qW q - n → s / 2 ^ (x' + 1) % 2 = 0 → Rn A q n s = 0
  | 0, _, s, hs, x', hx, hz => by
    have hW := hq.1.2.1
    show (if s = allM (qW q) then (1 : Int) else 0) = 0
    refine if_neg (fun e => ?_)
    have := nimp (al_all (qW q) (by omega) x' (by omega)) (decide_eq_true (by omega))
    rw [e] at hz
    have := of_decide_eq_true this
    omega
  | n + 1, hn, s, hs, x', hx, hz => by
    have hW := hq.1.2.1
    have hH := hq.1.2.2.2
    have hS := two64 hW
    have hd := dc_all (qW q) (by omega) (qH q) (by omega) n (by omega)
    unfold dck at hd
    have hd := of_decide_eq_true (nimp hd (by rw [Bool.and_eq_true, Bool.and_eq_true]; exact ⟨decide_eq_true hq.1.1, decide_eq_true hq.1.2.2.1, decide_eq_true hn⟩))
    have ih := R_zero A hq n (by omega)
    show sm (fun v => if A (qN q - (n + 1)) v then trv (tr (qW q) (qN q - (n + 1)) s (kdC q (qN q - (n + 1)) v)) (Rn A q n) else 0) 5 = 0
    have : sm (fun v => if A (qN q - (n + 1)) v then trv (tr (qW q) (qN q - (n + 1)) s (kdC q (qN q - (n + 1)) v)) (Rn A q n) else 0) 5 = sm (fun _ => 0) 5 := sm_congr (fun v _ => by
      split
      · have hk : kdC q (qN q - (n + 1)) v < 4 := knd_lt _ _ _
        rw [tr_x, show (qN q - (n + 1)) % qW q = qW q - (n + 1) from hd]
        have hz1 := zc_all (qW q) (by omega) (qW q - (n + 1)) (by omega) s (by omega) _ hk x' (by omega)
        unfold zck at hz1
        have hz1 := nimp hz1 (by rw [Bool.and_eq_true, Bool.and_eq_true, Bool.and_eq_true]; exact ⟨decide_eq_true (by omega), decide_eq_true (by omega), decide_eq_true hs, decide_eq_true hz⟩)
        cases ht : trx (qW q) (qW q - (n + 1)) s (kdC q (qN q - (n + 1)) v) with
        | none => rfl
        | some u =>
          rw [ht] at hz1
          have hz1 : (decide (u / 2 ^ (x' + 1) % 2 = 0) && decide (u < 2 ^ (qW q + 1))) = true := hz1
          rw [Bool.and_eq_true] at hz1
          exact ih u (of_decide_eq_true hz1.2) x' (by omega) (of_decide_eq_true hz1.1)
      · rfl)
    rw [this, sm_zero]
/-- a state of the model, at a cell, that is one of the class -/
def okc (q : Tl) (c s : Nat) : Prop := s < 2 ^ (qW q + 1) ∧ (c / qW q + 1 = qH q → okB (c % qW q) s = true) ∧ (c = qN q → okB (qW q) s = true)
/-- one step on both sides -/
theorem mt_tr {q : Tl} (hq : qOK q) {c s k : Nat} (hc : c < qN q) (hk : k < 4) (ho : okc q c s) : (∃ u, mtq q c s k = some u ∧ tr (qW q) c (nr (c % qW q) s) k = some (nr ((c + 1) % qW q) u) ∧ okc q (c + 1) u) ∨ (mtq q c s k = none ∧ (tr (qW q) c (nr (c % qW q) s) k = none ∨ ∃ u, tr (qW q) c (nr (c % qW q) s) k = some u ∧ ∀ A, Rc2 A q (c + 1) u = 0)) := by
  have hW := hq.1.2.1
  have hH := hq.1.2.2.2
  have hS := two64 hW
  have hx : c % qW q < qW q := Nat.mod_lt _ hq.1.1
  obtain ⟨s1, s2, s3, s4⟩ := sc_f hq.1.1 hW hH hc
  obtain ⟨o1, o2, o3⟩ := ho
  have hm : mck (qW q) (c % qW q) (decide (c / qW q + 1 = qH q)) s k = true := by
    cases decide (c / qW q + 1 = qH q) with
    | true => exact mc_t _ (by omega) _ (by omega) s (by omega) k hk
    | false => exact mc_f _ (by omega) _ (by omega) s (by omega) k hk
  unfold mck at hm
  have hm := nimp hm (by
    rw [Bool.and_eq_true, Bool.and_eq_true]
    refine ⟨decide_eq_true hx, decide_eq_true o1, ?_⟩
    by_cases l : c / qW q + 1 = qH q
    · rw [decide_eq_true l, o2 l]; rfl
    · rw [decide_eq_false l]; rfl)
  rw [tr_x]
  have enr : ∀ u, nr (if c % qW q + 1 = qW q then 0 else 1) u = nr ((c + 1) % qW q) u := fun u => by
    by_cases l : c % qW q + 1 = qW q
    · rw [if_pos l, (s1 l).1]
    · rw [if_neg l, (s2 l).1]; unfold nr; rw [if_neg (by omega), if_neg (by omega)]
  unfold mtq
  cases ht : mt (qW q) (c % qW q) (decide (c / qW q + 1 = qH q)) s k with
  | some u =>
    rw [ht] at hm
    have hm : (decide (u < 2 ^ (qW q + 1)) && (decide (trx (qW q) (c % qW q) (nr (c % qW q) s) k = some (nr (if c % qW q + 1 = qW q then 0 else 1) u)) && (!(decide (c / qW q + 1 = qH q)) || okB (c % qW q + 1) u))) = true := hm
    rw [Bool.and_eq_true, Bool.and_eq_true] at hm
    refine Or.inl ⟨u, rfl, by rw [of_decide_eq_true hm.2.1, enr], of_decide_eq_true hm.1, fun l => ?_, fun l => ?_⟩
    · by_cases e : c % qW q + 1 = qW q
      · rw [(s1 e).1]
        unfold okB
        exact decide_eq_true (by omega)
      · rw [(s2 e).1]
        exact nimp hm.2.2 (decide_eq_true (by rw [(s2 e).2] at l; exact l))
    · have := s4 l
      rw [← this.2]
      exact nimp hm.2.2 (decide_eq_true this.1)
  | none =>
    rw [ht] at hm
    have hm : (decide (trx (qW q) (c % qW q) (nr (c % qW q) s) k = none) || (decide (c / qW q + 1 = qH q) && mcn (trx (qW q) (c % qW q) (nr (c % qW q) s) k) (qW q) (c % qW q))) = true := hm
    refine Or.inr ⟨rfl, ?_⟩
    cases hu : trx (qW q) (c % qW q) (nr (c % qW q) s) k with
    | none => exact Or.inl rfl
    | some u =>
      refine Or.inr ⟨u, rfl, fun A => ?_⟩
      rw [hu, decide_eq_false (by simp), Bool.false_or, Bool.and_eq_true] at hm
      have hl := of_decide_eq_true hm.1
      have h2 : (decide (u / 2 ^ (c % qW q + 1) % 2 = 0) && decide (u < 2 ^ (qW q + 1))) = true := hm.2
      rw [Bool.and_eq_true] at h2
      unfold Rc2
      rw [show qN q - (c + 1) = qW q - (c % qW q + 1) from s3 hl]
      exact R_zero A hq _ (by omega) u (of_decide_eq_true h2.2) (c % qW q) (by omega) (of_decide_eq_true h2.1)
theorem M_R (A : Nat → Nat → Bool) {q : Tl} (hq : qOK q) : ∀ n c s, qN q - c = n → c ≤ qN q → okc q c s → Mc A q c s = Rc2 A q c (nr (c % qW q) s)
  | 0, c, s, hn, hc, ho => by
    have e : c = qN q := by omega
    subst e
    have hW := hq.1.2.1
    have hS := two64 hW
    have h := ec_all (qW q) (by omega) s (by have := ho.1; omega)
    unfold eck at h
    have h := of_decide_eq_true (nimp h (by rw [Bool.and_eq_true, Bool.and_eq_true]; exact ⟨decide_eq_true hq.1.1, decide_eq_true ho.1, ho.2.2 rfl⟩))
    rw [M_end, R_end, show qN q % qW q = 0 from Nat.mul_mod_right _ _, h, if_pos rfl]
  | n + 1, c, s, hn, hc, ho => by
    have hc' : c < qN q := by omega
    rw [M_step A q hc', R_step A q hc']
    refine sm_congr (fun v _ => ?_)
    unfold mth wy
    by_cases a : A c v = true
    · rw [if_pos a, if_pos a]
      rcases mt_tr hq hc' (k := kdC q c v) (knd_lt _ _ _ : kdC q c v < 4) ho with ⟨u, e1, e2, e3⟩ | ⟨e1, e2 | ⟨u, e2, e3⟩⟩
      · rw [e1, e2]; exact M_R A hq n (c + 1) u (by omega) (by omega) e3
      · rw [e1, e2]; rfl
      · rw [e1, e2]; exact (e3 A).symm
    · rw [if_neg a, if_neg a]; rfl
theorem okc_0 {q : Tl} (hq : qOK q) : okc q 0 0 := by
  refine ⟨Nat.two_pow_pos _, fun _ => ?_, fun z => ?_⟩
  · rw [Nat.zero_mod]; rfl
  · have := WH_pos hq.1.1 hq.1.2.2.1
    have z : 0 = qW q * qH q := z
    omega
theorem M_R0 (A : Nat → Nat → Bool) {q : Tl} (hq : qOK q) : Mc A q 0 0 = Rc2 A q 0 0 := by
  rw [M_R A hq _ 0 0 rfl (by omega) (okc_0 hq), Nat.zero_mod]; rfl
