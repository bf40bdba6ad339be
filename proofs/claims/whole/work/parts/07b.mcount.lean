/-! ===== count, the model ===== -/
def r9 (o : Option Nat) (f : Nat → Int) : Int := match o with
  | none => -9
  | some u => f u
def stp (T : Int32) (top rest : Int) (v : Nat) : Int := if rest = -9 then top else if top = -9 then rest + v else if T = 0 then (if top ≤ rest + v then top else rest + v) else (if rest + v ≤ top then top else rest + v)
def fo (T : Int32) (f : Nat → Int) : Nat → Int
  | 0 => -9
  | v + 1 => stp T (fo T f v) (f v) v
def Bn (T : Int32) (q : Tl) : Nat → Nat → Int
  | 0, _ => 0
  | n + 1, s => fo T (fun v => r9 (mth (alC q) q (qN q - (n + 1)) s v) (Bn T q n)) 5
def Bc (T : Int32) (q : Tl) (c s : Nat) : Int := Bn T q (qN q - c) s
theorem B_end (T : Int32) (q : Tl) (s : Nat) : Bc T q (qN q) s = 0 := by
  unfold Bc; rw [Nat.sub_self]; rfl
theorem B_step (T : Int32) (q : Tl) {c : Nat} (hc : c < qN q) (s : Nat) : Bc T q c s = fo T (fun v => r9 (mth (alC q) q c s v) (Bc T q (c + 1))) 5 := by
  unfold Bc
  obtain ⟨n, hn⟩ : ∃ n, qN q - c = n + 1 := ⟨qN q - c - 1, by omega⟩
  have e1 : qN q - (n + 1) = c := by omega
  have e2 : qN q - (c + 1) = n := by omega
  rw [hn]
  show fo T (fun v => r9 (mth (alC q) q (qN q - (n + 1)) s v) (Bn T q n)) 5 = fo T (fun v => r9 (mth (alC q) q c s v) (Bn T q (qN q - (c + 1)))) 5
  rw [e1, e2]
theorem stp_bd {T : Int32} {top rest m : Int} {v : Nat} (hv : v < 5) (h1 : top = -9 ∨ (0 ≤ top ∧ top ≤ m + 4)) (h2 : rest = -9 ∨ (0 ≤ rest ∧ rest ≤ m)) : stp T top rest v = -9 ∨ (0 ≤ stp T top rest v ∧ stp T top rest v ≤ m + 4) := by
  unfold stp
  by_cases a : rest = -9
  · rw [if_pos a]; exact h1
  · rw [if_neg a]
    by_cases b : top = -9
    · rw [if_pos b]; omega
    · rw [if_neg b]
      by_cases c : T = 0
      · rw [if_pos c]; split <;> omega
      · rw [if_neg c]; split <;> omega
theorem fo_bd {T : Int32} {f : Nat → Int} {m : Int} (h : ∀ v, v < 5 → f v = -9 ∨ (0 ≤ f v ∧ f v ≤ m)) : ∀ n, n ≤ 5 → fo T f n = -9 ∨ (0 ≤ fo T f n ∧ fo T f n ≤ m + 4)
  | 0, _ => Or.inl rfl
  | n + 1, hn => stp_bd (show n < 5 by omega) (fo_bd h n (by omega)) (h n (by omega))
theorem Bn_bd (T : Int32) (q : Tl) : ∀ n s, Bn T q n s = -9 ∨ (0 ≤ Bn T q n s ∧ Bn T q n s ≤ 4 * n)
  | 0, s => Or.inr ⟨Int.le_refl _, Int.le_refl _⟩
  | n + 1, s => by
    have ih := Bn_bd T q n
    have := fo_bd (T := T) (f := fun v => r9 (mth (alC q) q (qN q - (n + 1)) s v) (Bn T q n)) (m := 4 * n) (fun v _ => by
      show r9 (mth (alC q) q (qN q - (n + 1)) s v) (Bn T q n) = -9 ∨ (0 ≤ r9 (mth (alC q) q (qN q - (n + 1)) s v) (Bn T q n) ∧ r9 (mth (alC q) q (qN q - (n + 1)) s v) (Bn T q n) ≤ 4 * n)
      cases mth (alC q) q (qN q - (n + 1)) s v with
      | none => exact Or.inl rfl
      | some u => exact ih u) 5 (Nat.le_refl _)
    show fo T (fun v => r9 (mth (alC q) q (qN q - (n + 1)) s v) (Bn T q n)) 5 = -9 ∨ (0 ≤ fo T (fun v => r9 (mth (alC q) q (qN q - (n + 1)) s v) (Bn T q n)) 5 ∧ fo T (fun v => r9 (mth (alC q) q (qN q - (n + 1)) s v) (Bn T q n)) 5 ≤ 4 * ((n + 1 : Nat) : Int))
    omega
theorem Bc_bd {T : Int32} {q : Tl} (hN : qN q ≤ 25) (c s : Nat) : -9 ≤ Bc T q c s ∧ Bc T q c s ≤ 100 := by
  have := Bn_bd T q (qN q - c) s
  unfold Bc; omega
theorem ML.kp {q : Tl} {oc ov : Int} {w w1 : Wd} (h : ML q oc ov w) (hk : Kp (fun k => k ≠ 108) w w1) : ML q oc ov w1 := by
  unfold ML MW at *
  rw [(hk 99 (by omega)).1, (hk 101 (by omega)).1, (hk 102 (by omega)).1, (hk 103 (by omega)).1]
  exact h
def BT (T : Int32) (q : Tl) (n : Nat) (w : Wd) : Prop := ∀ c, n ≤ c → c ≤ qN q → ∀ s, s < 64 → w.1 108 (64 * c + s) = iv (Bc T q c s)
theorem mcount_s {q : Tl} {w : Wd} (h : ML q (-9) 0 w) (T : Int32) : ∃ w1, fX9_count T w = some (iv (Bc T q 0 0), w1) ∧ Kp (fun k => k ≠ 108) w w1 := by
  have hN := qN_le h.1
  have hA : alO q (-9) 0 = alC q := alO_no q 0
  let Q : Option (Int32 × Wd) → Prop := fun r => ∃ w1, r = some (iv (Bc T q 0 0), w1) ∧ Kp (fun k => k ≠ 108) w w1
  show Q (fX9_count T w)
  unfold fX9_count
  refine lpA (m := 64) Q (fun i w' => (∀ s, s < i → w'.1 108 (64 * qN q + s) = iv 0) ∧ Kp (fun k => k ≠ 108) w w') ?_ ?_ (hGn (by omega)) ⟨fun s hs => by omega, Kp.rf⟩
  · rintro i w' kk hi ⟨h1, h2⟩
    have h' := h.kp h2
    refine Or.inl ?_
    unfold bX9_count_2
    rw [if_neg (by rw [iv_64, iv_le (by omega) (by omega)]; omega), mcells_q h', bnd_s, iv_64cs, sI_iv (by rw [LI_108]; omega) (by rw [LI_108]; omega), bind_s, iv_s1]
    refine ⟨_, rfl, fun s hs => ?_, h2.trans (Kp.uI (fun z => z rfl))⟩
    by_cases e : s = i
    · rw [e, uI_same, iv_0]
    · rw [uI_other (Or.inr (by omega))]; exact h1 s (by omega)
  · rintro w' kk ⟨h1, h2⟩
    have h' := h.kp h2
    unfold bX9_count_2
    rw [if_pos (by decide), mcells_q h', bnd_s, iv_1, iv_sub]
    refine lpD (qN q) Q (fun n w' => BT T q n w' ∧ Kp (fun k => k ≠ 108) w w') ?_ ?_ (hGn (by omega)) ⟨fun c h0 hc s hs => ?_, h2⟩
    · rintro c w1 k36 hc ⟨g1, g2⟩
      unfold bX9_count_36
      rw [if_neg (by rw [iv_0, iv_lt (by omega) (by omega)]; omega)]
      refine lpB (m := 64) (fun r => ∃ w'', r = k36 (iv ((c : Int) - 1)) w'' ∧ BT T q c w'' ∧ Kp (fun k => k ≠ 108) w w'') (fun i x w'' => x = iv c ∧ (∀ s, s < i → w''.1 108 (64 * c + s) = iv (Bc T q c s)) ∧ BT T q (c + 1) w'' ∧ Kp (fun k => k ≠ 108) w w'') ?_ ?_ (hGn (by omega)) ⟨rfl, fun s hs => by omega, g1, g2⟩
      · rintro i x w2 k42 hi ⟨rfl, f1, f2, f3⟩
        refine Or.inl ?_
        have h2' := h.kp f3
        unfold bX9_count_42
        rw [if_neg (by rw [iv_64, iv_le (by omega) (by omega)]; omega)]
        refine lpT (α := Int32 → Int32 → Int32 → Int32 → Wd → Option (Int32 × Wd)) (τ := Int32) (fun f x v w => f (iv c) (iv i) x v w) (m := 5) (fun r => ∃ x' w', r = k42 x' (iv ((i + 1 : Nat) : Int)) w' ∧ x' = iv c ∧ (∀ s, s < i + 1 → w'.1 108 (64 * c + s) = iv (Bc T q c s)) ∧ BT T q (c + 1) w' ∧ Kp (fun k => k ≠ 108) w w') (fun v x w' => x = iv (fo T (fun v => r9 (mth (alC q) q c i v) (Bc T q (c + 1))) v) ∧ w' = w2) ?_ ?_ (hGn (by omega)) (x := (-9 : Int32)) ⟨rfl, rfl⟩
        · rintro v x w' k55 hv ⟨rfl, rfl⟩
          refine Or.inl ?_
          have hfb : -9 ≤ fo T (fun v => r9 (mth (alC q) q c i v) (Bc T q (c + 1))) v ∧ fo T (fun v => r9 (mth (alC q) q c i v) (Bc T q (c + 1))) v ≤ 104 := by
            have := fo_bd (T := T) (f := fun v => r9 (mth (alC q) q c i v) (Bc T q (c + 1))) (m := 100) (fun v _ => by
              show r9 (mth (alC q) q c i v) (Bc T q (c + 1)) = -9 ∨ (0 ≤ r9 (mth (alC q) q c i v) (Bc T q (c + 1)) ∧ r9 (mth (alC q) q c i v) (Bc T q (c + 1)) ≤ 100)
              cases mth (alC q) q c i v with
              | none => exact Or.inl rfl
              | some u =>
                have := Bn_bd T q (qN q - (c + 1)) u
                show Bn T q (qN q - (c + 1)) u = -9 ∨ (0 ≤ Bn T q (qN q - (c + 1)) u ∧ Bn T q (qN q - (c + 1)) u ≤ 100)
                omega) v (by omega)
            omega
          generalize hX : fo T (fun v => r9 (mth (alC q) q c i v) (Bc T q (c + 1))) v = X at hfb
          show ∃ x' w'', bX9_count_55 T k36 k42 k55 (iv c) (iv i) (iv X) (iv v) w' = k55 (iv c) (iv i) x' (iv ((v + 1 : Nat) : Int)) w'' ∧ x' = iv (stp T (fo T (fun v => r9 (mth (alC q) q c i v) (Bc T q (c + 1))) v) (r9 (mth (alC q) q c i v) (Bc T q (c + 1))) v) ∧ w'' = w'
          rw [hX]
          unfold bX9_count_55
          rw [if_neg (by rw [iv_5, iv_le (by omega) (by omega)]; omega), then_s h2' hc hi hv, bnd_s, hA]
          have j98 : ∀ rest : Int, -9 ≤ rest → rest ≤ 100 → ∃ x' w'', jX9_count_98 T k36 k42 k55 (iv c) (iv i) (iv X) (iv v) (iv rest) w' = k55 (iv c) (iv i) x' (iv ((v + 1 : Nat) : Int)) w'' ∧ x' = iv (stp T X rest v) ∧ w'' = w' := fun rest r1 r2 => by
            unfold jX9_count_98 jX9_count_147 jX9_count_142 jX9_count_149 stp
            rw [iv_s1, iv_add]
            by_cases a : rest = -9
            · rw [if_pos (by rw [a]; rfl), if_pos a]; exact ⟨_, w', rfl, rfl, rfl⟩
            · rw [if_neg (by rw [iv_m9, iv_eq (by omega) (by omega)]; exact a), if_neg a]
              by_cases b : X = -9
              · rw [if_pos (by rw [b]; rfl), if_pos b]; exact ⟨_, w', rfl, rfl, rfl⟩
              · rw [if_neg (by rw [iv_m9, iv_eq (by omega) (by omega)]; exact b), if_neg b]
                by_cases d : T = 0
                · rw [if_pos d, if_pos d]
                  by_cases e : X ≤ rest + v
                  · rw [if_pos (by rw [iv_le (by omega) (by omega)]; exact e), if_pos e]; exact ⟨_, w', rfl, rfl, rfl⟩
                  · rw [if_neg (by rw [iv_le (by omega) (by omega)]; exact e), if_neg e]; exact ⟨_, w', rfl, rfl, rfl⟩
                · rw [if_neg d, if_neg d]
                  by_cases e : rest + v ≤ X
                  · rw [if_pos (by rw [iv_le (by omega) (by omega)]; exact e), if_pos e]; exact ⟨_, w', rfl, rfl, rfl⟩
                  · rw [if_neg (by rw [iv_le (by omega) (by omega)]; exact e), if_neg e]; exact ⟨_, w', rfl, rfl, rfl⟩
          cases hm : mth (alC q) q c i v with
          | none =>
            rw [show s9 none = (-9 : Int32) from rfl, if_pos rfl]
            exact j98 (-9) (by omega) (by omega)
          | some u =>
            have hu := mth_lt h.1 hi hm
            have hb := Bc_bd (T := T) hN (c + 1) u
            rw [show s9 (some u) = iv (u : Nat) from rfl, if_neg (s9_m9 (by omega)), iv_64c1s, gI_iv (by rw [LI_108]; omega) (by rw [LI_108]; omega), bind_s, f2 (c + 1) (Nat.le_refl _) (by omega) u hu]
            exact j98 _ hb.1 hb.2
        · rintro x w' k55 ⟨rfl, rfl⟩
          show ∃ x' w'', bX9_count_55 T k36 k42 k55 (iv c) (iv i) (iv (fo T (fun v => r9 (mth (alC q) q c i v) (Bc T q (c + 1))) 5)) (iv ((5 : Nat) : Int)) w' = _ ∧ _
          unfold bX9_count_55
          rw [if_pos (by decide), iv_64cs, sI_iv (by rw [LI_108]; omega) (by rw [LI_108]; omega), bind_s, iv_s1, ← B_step T q hc]
          refine ⟨_, _, rfl, rfl, fun s hs => ?_, fun c' h0 hc' s hs => ?_, f3.trans (Kp.uI (fun z => z rfl))⟩
          · by_cases e : s = i
            · rw [e, uI_same]
            · rw [uI_other (Or.inr (by omega))]; exact f1 s (by omega)
          · rw [uI_other (Or.inr (by omega))]; exact f2 c' h0 hc' s hs
      · rintro x w2 k42 ⟨rfl, f1, f2, f3⟩
        unfold bX9_count_42
        rw [if_pos (by decide), iv_p1]
        refine ⟨w2, rfl, fun c' h0 hc' s hs => ?_, f3⟩
        by_cases e : c' = c
        · subst e; exact f1 s hs
        · exact f2 c' (by omega) hc' s hs
    · rintro w1 k36 ⟨g1, g2⟩
      unfold bX9_count_36
      rw [if_pos (by decide), iv_0, show iv 0 = iv ((0 : Nat) : Int) from rfl, gI_iv (by rw [LI_108]; omega) (by rw [LI_108]; omega), bind_s]
      have := g1 0 (Nat.le_refl _) (by omega) 0 (by omega)
      exact ⟨w1, by rw [show w1.1 108 0 = w1.1 108 (64 * 0 + 0) from rfl, this], g2⟩
    · have : c = qN q := by omega
      subst this
      rw [h1 s hs, B_end]
/-! what it is: the best of all heaps -/
def OP (T : Int32) (S : Int → Prop) (x : Int) : Prop := (x = -9 ∧ ∀ z, ¬ S z) ∨ (S x ∧ 0 ≤ x ∧ ∀ z, S z → (T = 0 → x ≤ z) ∧ (¬ T = 0 → z ≤ x))
theorem OP.congr {T : Int32} {S S' : Int → Prop} {x : Int} (h : OP T S x) (e : ∀ z, S z ↔ S' z) : OP T S' x := by
  rcases h with ⟨h1, h2⟩ | ⟨h1, h2, h3⟩
  · exact Or.inl ⟨h1, fun z hz => h2 z ((e z).mpr hz)⟩
  · exact Or.inr ⟨(e x).mp h1, h2, fun z hz => h3 z ((e z).mpr hz)⟩
theorem OP.step {T : Int32} {S R : Int → Prop} {x y : Int} {v : Nat} (h1 : OP T S x) (h2 : OP T R y) : OP T (fun z => S z ∨ ∃ z', R z' ∧ z = z' + v) (stp T x y v) := by
  unfold stp
  rcases h2 with ⟨b1, b2⟩ | ⟨b1, b2, b3⟩
  · rw [if_pos b1]
    exact h1.congr (fun z => ⟨Or.inl, fun u => by
      rcases u with u | ⟨z', u1, u2⟩
      · exact u
      · exact absurd u1 (b2 z')⟩)
  · rw [if_neg (by omega)]
    rcases h1 with ⟨a1, a2⟩ | ⟨a1, a2, a3⟩
    · rw [if_pos a1]
      refine Or.inr ⟨Or.inr ⟨y, b1, rfl⟩, by omega, fun z hz => ?_⟩
      rcases hz with hz | ⟨z', u1, u2⟩
      · exact absurd hz (a2 z)
      · have := b3 z' u1
        exact ⟨fun t => by have := this.1 t; omega, fun t => by have := this.2 t; omega⟩
    · rw [if_neg (by omega)]
      by_cases t : T = 0
      · rw [if_pos t]
        by_cases e : x ≤ y + v
        · rw [if_pos e]
          refine Or.inr ⟨Or.inl a1, a2, fun z hz => ⟨fun _ => ?_, fun u => absurd t u⟩⟩
          rcases hz with hz | ⟨z', u1, u2⟩
          · exact (a3 z hz).1 t
          · have := (b3 z' u1).1 t; omega
        · rw [if_neg e]
          refine Or.inr ⟨Or.inr ⟨y, b1, rfl⟩, by omega, fun z hz => ⟨fun _ => ?_, fun u => absurd t u⟩⟩
          rcases hz with hz | ⟨z', u1, u2⟩
          · have := (a3 z hz).1 t; omega
          · have := (b3 z' u1).1 t; omega
      · rw [if_neg t]
        by_cases e : y + v ≤ x
        · rw [if_pos e]
          refine Or.inr ⟨Or.inl a1, a2, fun z hz => ⟨fun u => absurd u t, fun _ => ?_⟩⟩
          rcases hz with hz | ⟨z', u1, u2⟩
          · exact (a3 z hz).2 t
          · have := (b3 z' u1).2 t; omega
        · rw [if_neg e]
          refine Or.inr ⟨Or.inr ⟨y, b1, rfl⟩, by omega, fun z hz => ⟨fun u => absurd u t, fun _ => ?_⟩⟩
          rcases hz with hz | ⟨z', u1, u2⟩
          · have := (a3 z hz).2 t; omega
          · have := (b3 z' u1).2 t; omega
theorem OP.fold {T : Int32} {R : Nat → Int → Prop} {f : Nat → Int} (h : ∀ v, OP T (R v) (f v)) : ∀ n, OP T (fun z => ∃ v, v < n ∧ ∃ z', R v z' ∧ z = z' + v) (fo T f n)
  | 0 => Or.inl ⟨rfl, fun z hz => by obtain ⟨v, hv, _⟩ := hz; omega⟩
  | n + 1 => ((OP.fold h n).step (h n) (v := n)).congr (fun z => by
    constructor
    · rintro (⟨v, hv, u⟩ | ⟨z', u⟩)
      · exact ⟨v, by omega, u⟩
      · exact ⟨n, by omega, z', u⟩
    · rintro ⟨v, hv, u⟩
      by_cases e : v = n
      · subst e; exact Or.inr u
      · exact Or.inl ⟨v, by omega, u⟩)
theorem B_op (T : Int32) {q : Tl} (hq : qOK q) : ∀ n c s, qN q - c = n → c ≤ qN q → okc q c s → OP T (fun z => ∃ h, Sf q h n (nr (c % qW q) s) ∧ z = cs q h n) (Bc T q c s)
  | 0, c, s, hn, hc, ho => by
    have e : c = qN q := by omega
    subst e
    have hW := hq.1.2.1
    have hS := two64 hW
    have h := ec_all (qW q) (by omega) s (by have := ho.1; omega)
    unfold eck at h
    have h := of_decide_eq_true (nimp h (by rw [Bool.and_eq_true, Bool.and_eq_true]; exact ⟨decide_eq_true hq.1.1, decide_eq_true ho.1, ho.2.2 rfl⟩))
    rw [B_end, show qN q % qW q = 0 from Nat.mul_mod_right _ _, h]
    refine Or.inr ⟨⟨fun _ => 0, rfl, rfl⟩, Int.le_refl _, fun z hz => ?_⟩
    obtain ⟨h', _, rfl⟩ := hz
    exact ⟨fun _ => Int.le_refl _, fun _ => Int.le_refl _⟩
  | n + 1, c, s, hn, hc, ho => by
    have hc' : c < qN q := by omega
    have hN := qN_le hq
    rw [B_step T q hc']
    have key : ∀ v, OP T (fun z' => alC q c v = true ∧ ∃ u, tr (qW q) c (nr (c % qW q) s) (kdC q c v) = some u ∧ ∃ h, Sf q h n u ∧ z' = cs q h n) (r9 (mth (alC q) q c s v) (Bc T q (c + 1))) := fun v => by
      unfold mth
      by_cases a : alC q c v = true
      · rw [if_pos a]
        rcases mt_tr (k := kdC q c v) hq hc' (knd_lt _ _ _ : kdC q c v < 4) ho with ⟨u, e1, e2, e3⟩ | ⟨e1, e2 | ⟨u, e2, e3⟩⟩
        · rw [e1, e2]
          refine (B_op T hq n (c + 1) u (by omega) (by omega) e3).congr (fun z => ?_)
          constructor
          · rintro ⟨h, h1, h2⟩
            exact ⟨a, _, rfl, h, h1, h2⟩
          · rintro ⟨_, u', h0, h, h1, h2⟩
            have := Option.some.inj h0
            rw [← this] at h1
            exact ⟨h, h1, h2⟩
        · rw [e1, e2]
          exact Or.inl ⟨rfl, fun z hz => by obtain ⟨_, u', h0, _⟩ := hz; exact absurd h0 (by simp)⟩
        · rw [e1, e2]
          refine Or.inl ⟨rfl, fun z hz => ?_⟩
          obtain ⟨_, u', h0, h, h1, _⟩ := hz
          have := Option.some.inj h0
          rw [← this] at h1
          have h3 := Sf_R hN n u h1
          have h4 := e3 (alC q)
          unfold Rc2 at h4
          rw [show qN q - (c + 1) = n by omega] at h4
          omega
      · rw [if_neg a]
        exact Or.inl ⟨rfl, fun z hz => a hz.1⟩
    refine (OP.fold key 5).congr (fun z => ?_)
    have ec : qN q - (n + 1) = c := by omega
    constructor
    · rintro ⟨v, hv, z', ⟨a, u, h0, h, h1, rfl⟩, rfl⟩
      have hcg : ∀ c', qN q - n ≤ c' → c' < qN q → (fun c' => if c' = c then v else h c') c' = h c' := fun c' h3 h4 => if_neg (by omega)
      have hcv : (fun c' => if c' = c then v else h c') c = v := if_pos rfl
      refine ⟨fun c' => if c' = c then v else h c', ?_, ?_⟩
      · show ((fun c' => if c' = c then v else h c') (qN q - (n + 1)) < 5 ∧ alC q (qN q - (n + 1)) ((fun c' => if c' = c then v else h c') (qN q - (n + 1))) = true) ∧ ∃ u, tr (qW q) (qN q - (n + 1)) (nr (c % qW q) s) (kdC q (qN q - (n + 1)) ((fun c' => if c' = c then v else h c') (qN q - (n + 1)))) = some u ∧ Sf q (fun c' => if c' = c then v else h c') n u
        rw [ec, hcv]
        exact ⟨⟨hv, a⟩, u, h0, Sf_congr n u (by omega) hcg h1⟩
      · show cs q h n + (v : Int) = (((fun c' => if c' = c then v else h c') (qN q - (n + 1)) : Nat) : Int) + cs q (fun c' => if c' = c then v else h c') n
        rw [ec, hcv, cs_congr n (by omega) hcg]; omega
    · rintro ⟨h, hs, rfl⟩
      obtain ⟨g1, u, g2, g3⟩ := hs
      rw [ec] at g1 g2
      refine ⟨h c, g1.1, cs q h n, ⟨g1.2, u, g2, h, g3, rfl⟩, ?_⟩
      show (h (qN q - (n + 1)) : Int) + cs q h n = cs q h n + (h c : Int)
      rw [ec]; omega
theorem B_all (T : Int32) {q : Tl} (hq : qOK q) : OP T (fun z => ∃ h, Sf q h (qN q) 0 ∧ z = cs q h (qN q)) (Bc T q 0 0) := by
  have := B_op T hq (qN q) 0 0 rfl (by omega) (okc_0 hq)
  rw [Nat.zero_mod] at this
  exact this
