/-! ===== neighbours, the skin ===== -/
theorem dims {P : Nat → Nat → Prop} (h : ∀ W, W < 6 → 1 ≤ W → ∀ H, H < 6 → 1 ≤ H → P W H) {W H : Nat} (h1 : 1 ≤ W) (h2 : W ≤ 5) (h3 : 1 ≤ H) (h4 : H ≤ 5) : P W H := h W (by omega) h1 H (by omega) h3
theorem nbr_rng {W H : Nat} (h1 : 1 ≤ W) (h2 : W ≤ 5) (h3 : 1 ≤ H) (h4 : H ≤ 5) {c : Nat} (hc : c < W * H) (d : Nat) : nbr W H c d = -1 ∨ (0 ≤ nbr W H c d ∧ nbr W H c d < ((W * H : Nat) : Int)) := by
  have hW : W = 1 ∨ W = 2 ∨ W = 3 ∨ W = 4 ∨ W = 5 := by omega
  have hH : H = 1 ∨ H = 2 ∨ H = 3 ∨ H = 4 ∨ H = 5 := by omega
  unfold nbr
  rcases hW with rfl | rfl | rfl | rfl | rfl <;> rcases hH with rfl | rfl | rfl | rfl | rfl <;> (repeat' split) <;> omega
theorem nbr_bd {W H : Nat} (h1 : 1 ≤ W) (h2 : W ≤ 5) (h3 : 1 ≤ H) (h4 : H ≤ 5) {c : Nat} (hc : c < W * H) (d : Nat) : -1 ≤ nbr W H c d ∧ nbr W H c d < 25 := by
  have := WH_le h2 h4
  have := nbr_rng h1 h2 h3 h4 hc d
  omega
def nbv (f : Nat → Int) (W H c d : Nat) : Int := if nbr W H c d = -1 then 0 else f (nbr W H c d).toNat
theorem beside_s {W H : Nat} {w : Wd} (hg : Gnd W H w) {c d : Nat} (hc : c < W * H) (hd : d < 4) : fX2_beside (iv c) (iv d) w = some (iv (nbr W H c d), w) := by
  have hWH := WH_le hg.1.2.1 hg.1.2.2.2.1
  unfold fX2_beside
  have e : iv c * (4 : Int32) + iv d = iv ((4 * c + d : Nat) : Int) := by
    rw [iv_4, iv_mul, iv_add]; congr 1; omega
  rw [e, gI_iv (by rw [LI_4]; omega) (by rw [LI_4]; omega), bind_s, hg.2.2.2 c hc d hd]
theorem valueBeside_s {W H : Nat} {w : Wd} (hg : Gnd W H w) {k : Nat} (hk : W * H ≤ LI k) (hk2 : LI k ≤ 2000) {f : Nat → Int} (hf : ∀ c, c < W * H → w.1 k c = iv (f c)) {c d : Nat} (hc : c < W * H) (hd : d < 4) : fX7_valueBeside k (iv c) (iv d) w = some (iv (nbv f W H c d), w) := by
  have hr := nbr_rng hg.1.1 hg.1.2.1 hg.1.2.2.1 hg.1.2.2.2.1 hc d
  have hb := nbr_bd hg.1.1 hg.1.2.1 hg.1.2.2.1 hg.1.2.2.2.1 hc d
  unfold fX7_valueBeside nbv
  rw [beside_s hg hc hd, bnd_s]
  by_cases z : nbr W H c d = -1
  · rw [if_pos (by rw [z]; decide), if_pos z]; rfl
  · rw [if_neg (by rw [iv_m1, iv_eq (by omega) (by omega)]; exact z), if_neg z]
    obtain ⟨m, hm⟩ : ∃ m : Nat, nbr W H c d = (m : Int) := ⟨(nbr W H c d).toNat, by omega⟩
    rw [hm] at hr ⊢
    rw [gI_iv (by omega) hk2, bind_s, hf m (by omega)]; rfl
/-- the model's neighbours -/
def mb (z : Int) : Int := if z = -1 then -9 else z
theorem mb51 {W H : Nat} {w : Wd} (hg : MW W H w) (p q : Int32) {X s1 s0 : Int} (hX : -10 ≤ X ∧ X ≤ 10) (hY : -10 ≤ s1 + s0 ∧ s1 + s0 ≤ 10) : jX9_beside_51 p q (iv X) (iv s0) (iv s1) w = some (iv (if (0 ≤ X ∧ X < W) ∧ (0 ≤ s1 + s0 ∧ s1 + s0 < H) then (s1 + s0) * W + X else -9), w) := by
  have hW5 := hg.2.1
  have hH5 := hg.2.2.2.1
  unfold jX9_beside_51
  have e1W : w.1 99 0 - (1 : Int32) = iv ((W : Int) - 1) := by rw [hg.2.2.2.2.1, iv_1, iv_sub]
  have e1H : w.1 99 1 - (1 : Int32) = iv ((H : Int) - 1) := by rw [hg.2.2.2.2.2, iv_1, iv_sub]
  rw [e1W]
  by_cases q1 : 0 ≤ X ∧ X < W
  · rw [in_g w (by rw [L0, toInt_iv (by omega) (by omega)]; omega) (by rw [L_iv (by omega) (by omega), toInt_iv (by omega) (by omega)]; omega), bnd_s, if_neg (by decide), e1H, iv_add]
    by_cases q2 : 0 ≤ s1 + s0 ∧ s1 + s0 < H
    · rw [in_g w (by rw [L0, toInt_iv (by omega) (by omega)]; omega) (by rw [L_iv (by omega) (by omega), toInt_iv (by omega) (by omega)]; omega), bnd_s, if_neg (by decide), if_pos ⟨q1, q2⟩, hg.2.2.2.2.1, iv_mul, iv_add]
    · rw [in_b w (by rw [L0, L_iv (by omega) (by omega), toInt_iv (by omega) (by omega)]; omega), bnd_s, if_pos rfl, if_neg (fun z => q2 z.2)]; rfl
  · rw [in_b w (by rw [L0, L_iv (by omega) (by omega), toInt_iv (by omega) (by omega)]; omega), bnd_s, if_pos rfl, if_neg (fun z => q1 z.1)]; rfl
theorem mbeside_s {W H : Nat} {w : Wd} (hg : MW W H w) {c d : Nat} (hc : c < W * H) (hd : d < 4) : fX9_beside (iv c) (iv d) w = some (iv (mb (nbr W H c ((d + 2) % 4))), w) := by
  have hWH := WH_le hg.2.1 hg.2.2.2.1
  have hx : c % W < W := Nat.mod_lt _ hg.1
  have hy : c / W < H := Nat.div_lt_of_lt_mul hc
  have hcx := Nat.div_add_mod c W
  have hcx' : ((c / W : Nat) : Int) * (W : Int) + ((c % W : Nat) : Int) = (c : Int) := by
    have e : ((W * (c / W) + c % W : Nat) : Int) = (c : Int) := by rw [hcx]
    rw [Int.natCast_add, Int.natCast_mul, Int.mul_comm] at e
    exact e
  have e98 := hg.2.2.2.2.1
  have hW5 := hg.2.1
  have hH5 := hg.2.2.2.1
  have en0 : nbr W H c ((0 + 2) % 4) = if c % W + 1 = W then -1 else (c : Int) + 1 := rfl
  have en1 : nbr W H c ((1 + 2) % 4) = if c / W + 1 = H then -1 else (c : Int) + W := rfl
  have en2 : nbr W H c ((2 + 2) % 4) = if c % W = 0 then -1 else (c : Int) - 1 := rfl
  have en3 : nbr W H c ((3 + 2) % 4) = if c / W = 0 then -1 else (c : Int) - W := rfl
  have hyW : c / W ≠ 0 → W ≤ c := fun q => by
    rcases Nat.lt_or_ge c W with z | z
    · exact absurd (Nat.div_eq_of_lt z) q
    · exact z
  have hx1 : c % W ≠ 0 → 1 ≤ c := fun q => by
    rcases Nat.eq_zero_or_pos c with z | z
    · rw [z, Nat.zero_mod] at q; exact absurd rfl q
    · exact z
  unfold fX9_beside jX9_beside_24
  rw [e98, rm_iv (by omega) hg.1 (by omega), bind_s, dv_iv (by omega) hg.1 (by omega)]
  generalize c % W = x at *
  generalize c / W = y at *
  rcases (show d = 0 ∨ d = 1 ∨ d = 2 ∨ d = 3 by omega) with rfl | rfl | rfl | rfl
  · rw [if_pos (by decide), bind_s, if_neg (by decide), if_neg (by decide), iv_addr, ti1, show (0 : Int32) = iv 0 by decide, mb51 hg _ _ (by omega) (by omega)]
    unfold mb
    rw [en0]
    by_cases q : x + 1 = W
    · rw [if_pos q, if_pos rfl, if_neg (by omega)]
    · rw [if_neg q, if_neg (show ¬ (c : Int) + 1 = -1 by omega), if_pos (by omega), Int.add_zero]
      congr 2
      rw [← Int.add_assoc, hcx']
  · rw [if_neg (by decide), if_neg (by decide), bind_s, if_pos (by decide), iv_addr, ti0, show (1 : Int32) = iv 1 by decide, mb51 hg _ _ (by omega) (by omega)]
    unfold mb
    rw [en1]
    by_cases q : y + 1 = H
    · rw [if_pos q, if_pos rfl, if_neg (by omega)]
    · rw [if_neg q, if_neg (show ¬ (c : Int) + W = -1 by omega), if_pos (by omega), Int.add_zero, Int.add_mul, Int.one_mul, show (y : Int) * W + W + x = (c : Int) + W by omega]
  · rw [if_neg (by decide), if_pos (by decide), bind_s, if_neg (by decide), if_neg (by decide), iv_addr, show (-1 : Int32).toInt = -1 by decide, show (0 : Int32) = iv 0 by decide, mb51 hg _ _ (by omega) (by omega)]
    unfold mb
    rw [en2]
    by_cases q : x = 0
    · rw [if_pos q, if_pos rfl, if_neg (by omega)]
    · have hc1 := hx1 q
      rw [if_neg q, if_neg (show ¬ (c : Int) - 1 = -1 by omega), if_pos (by omega), Int.add_zero, show (y : Int) * W + ((x : Int) + -1) = (c : Int) - 1 by omega]
  · rw [if_neg (by decide), if_neg (by decide), bind_s, if_neg (by decide), if_pos (by decide), iv_addr, ti0, show (-1 : Int32) = iv (-1) by decide, mb51 hg _ _ (by omega) (by omega)]
    unfold mb
    rw [en3]
    by_cases q : y = 0
    · rw [if_pos q, if_pos rfl, if_neg (by omega)]
    · have hc1 := hyW q
      rw [if_neg q, if_neg (show ¬ (c : Int) - W = -1 by omega), if_pos (by omega), Int.add_zero, Int.add_mul, Int.neg_one_mul, show (y : Int) * W + -(W : Int) + x = (c : Int) - W by omega]
def fc (f : Nat → Int) (W H c d : Nat) : Int := max 0 (f c - nbv f W H c d)
def skc (f : Nat → Int) (W H c : Nat) : Int := (if 0 < f c then 1 else 0) + sm (fc f W H c) 4
theorem nbv_H {W H : Nat} (h1 : 1 ≤ W) (h2 : W ≤ 5) (h3 : 1 ≤ H) (h4 : H ≤ 5) {f : Nat → Int} (hf : ∀ c, c < W * H → Hgt (f c)) {c : Nat} (hc : c < W * H) (d : Nat) : Hgt (nbv f W H c d) := by
  have hr := nbr_rng h1 h2 h3 h4 hc d
  unfold nbv
  by_cases z : nbr W H c d = -1
  · rw [if_pos z]; exact ⟨Int.le_refl _, by omega⟩
  · rw [if_neg z]; exact hf _ (by omega)
theorem openFaces_s {W H : Nat} {w : Wd} (hg : Gnd W H w) {k : Nat} (hk : W * H ≤ LI k) (hk2 : LI k ≤ 2000) {f : Nat → Int} (hf : ∀ c, c < W * H → w.1 k c = iv (f c) ∧ Hgt (f c)) : fX7_openFaces k w = some (iv (sm (skc f W H) (W * H)), w) := by
  have hWH := WH_le hg.1.2.1 hg.1.2.2.2.1
  have inner : ∀ (kk : Int32 → Int32 → Wd → Option (Int32 × Wd)) (c : Nat) (_ : c < W * H) (S : Int) (n d : Nat), d ≤ 4 → 4 - d < n → lp (fun _ _ _ _ => none) (bX7_openFaces_27 k kk) n (iv (S + sm (fc f W H c) d)) (iv c) (iv d) w = kk (iv (S + sm (fc f W H c) 4)) (iv c + (1 : Int32)) w := by
    intro kk c hc S n
    induction n with
    | zero => intro d h1 h2; omega
    | succ n ih =>
      intro d h1 h2
      rw [lp_s]
      unfold bX7_openFaces_27
      by_cases z : d = 4
      · rw [if_pos (by rw [iv_4, iv_le (by omega) (by omega)]; omega), z]
      · have hv := nbv_H hg.1.1 hg.1.2.1 hg.1.2.2.1 hg.1.2.2.2.1 (fun c hc => (hf c hc).2) hc d
        have hfc := (hf c hc).2
        unfold Hgt at hv hfc
        have e : (if (0 : Int32) < iv (f c) - iv (nbv f W H c d) then iv (f c) - iv (nbv f W H c d) else (0 : Int32)) = iv (fc f W H c d) := by
          rw [iv_sub, iv_0, iv_max (by omega) (by omega)]; rfl
        rw [if_neg (by rw [iv_4, iv_le (by omega) (by omega)]; omega), gI_iv (by omega) hk2, bind_s, valueBeside_s hg hk hk2 (fun c hc => (hf c hc).1) hc (by omega), bnd_s, (hf c hc).1, e, iv_add, iv_s1, Int.add_assoc]
        exact ih (d + 1) (by omega) (by omega)
  have key : ∀ n i, i ≤ W * H → W * H - i < n → lp (fun _ _ _ => none) (bX7_openFaces_4 k) n (iv (sm (skc f W H) i)) (iv i) w = some (iv (sm (skc f W H) (W * H)), w) := by
    intro n
    induction n with
    | zero => intro i h1 h2; omega
    | succ n ih =>
      intro i h1 h2
      rw [lp_s]
      unfold bX7_openFaces_4 jX7_openFaces_24
      rw [cells_s hg.1, bnd_s]
      by_cases z : i = W * H
      · rw [if_pos (by rw [iv_le (by omega) (by omega)]; omega), z]
      · have hfc := (hf i (by omega)).2
        unfold Hgt at hfc
        have nx := ih (i + 1) (by omega) (by omega)
        rw [sm_s] at nx
        have i0 := inner (lp (fun _ _ _ => none) (bX7_openFaces_4 k) n) i (by omega)
        rw [if_neg (by rw [iv_le (by omega) (by omega)]; omega), gI_iv (by omega) hk2, bind_s, (hf i (by omega)).1]
        have z0 : iv ((0 : Nat) : Int) = (0 : Int32) := by decide
        by_cases q : f i ≤ 0
        · rw [if_pos (by rw [iv_0, iv_le (by omega) (by omega)]; exact q)]
          have i1 := i0 (sm (skc f W H) i) G 0 (by omega) (by have := hG; omega)
          have e : sm (skc f W H) i + sm (fc f W H i) 0 = sm (skc f W H) i := Int.add_zero _
          have e2 : skc f W H i = sm (fc f W H i) 4 := by unfold skc; rw [if_neg (by omega), Int.zero_add]
          rw [e, iv_s1, z0] at i1
          rw [e2] at nx
          exact i1.trans nx
        · rw [if_neg (by rw [iv_0, iv_le (by omega) (by omega)]; exact q)]
          have i1 := i0 (sm (skc f W H) i + 1) G 0 (by omega) (by have := hG; omega)
          have e : sm (skc f W H) i + 1 + sm (fc f W H i) 0 = sm (skc f W H) i + 1 := Int.add_zero _
          have e2 : skc f W H i = 1 + sm (fc f W H i) 4 := by unfold skc; rw [if_pos (by omega)]
          rw [e, iv_s1, z0, ← iv_add, show iv 1 = (1 : Int32) by decide] at i1
          rw [e2, ← Int.add_assoc] at nx
          exact i1.trans nx
  unfold fX7_openFaces
  rw [iv_0]
  exact key G 0 (by omega) (by have := hG; omega)
