/-! ===== sums, the model: a way is searched, and taken ===== -/
theorem LI_109 : LI 109 = 25 := by decide +kernel
theorem LI_110 : LI 110 = 25 := by decide +kernel
theorem LI_111 : LI 111 = 25 := by decide +kernel
theorem LI_112 : LI 112 = 5 := by decide +kernel
theorem LI_113 : LI 113 = 5 := by decide +kernel
theorem LI_114 : LI 114 = 10 := by decide +kernel
theorem iv_ne_m9 {n : Nat} (h : n < 1000000) : iv n ≠ (-9 : Int32) := by rw [iv_m9]; intro z; rw [iv_eq (by omega) (by omega)] at z; omega
/-- ends and flow; what is left -/
def MA (W H : Nat) (lo hi f lc lr : Nat → Int) (w : Wd) : Prop := (∀ c, c < W * H → w.1 109 c = iv (lo c) ∧ w.1 110 c = iv (hi c) ∧ w.1 111 c = iv (f c)) ∧ (∀ x, x < 5 → w.1 112 x = iv (lc x) ∧ -1000 ≤ lc x ∧ lc x ≤ 1000) ∧ (∀ y, y < 5 → w.1 113 y = iv (lr y) ∧ -1000 ≤ lr y ∧ lr y ≤ 1000)
section MSUM
variable {W H : Nat} {lo hi f lc lr : Nat → Int} {w : Wd}
theorem MA.kept {w' : Wd} (h : MA W H lo hi f lc lr w) (hk : Kp (fun k => k ≠ 114) w w') : MA W H lo hi f lc lr w' := by
  refine ⟨fun c hc => ?_, fun n hn => ?_, fun n hn => ?_⟩
  · rw [(hk 109 (by omega)).1, (hk 110 (by omega)).1, (hk 111 (by omega)).1]; exact h.1 c hc
  · rw [(hk 112 (by omega)).1]; exact h.2.1 n hn
  · rw [(hk 113 (by omega)).1]; exact h.2.2 n hn
/-- how the search came to the nodes: columns are 0 to 4, rows 5 to 9 -/
def RT (W H : Nat) (lo hi f lc : Nat → Int) (rk : Nat → Nat) (b : Nat) (w' : Wd) : Prop := ∀ n, n < 10 → w'.1 114 n ≠ -9 → nOK W H n ∧ rk n < b ∧ ((n < 5 ∧ w'.1 114 n = iv (n : Nat) ∧ 0 < lc n) ∨ (∃ m, m < 10 ∧ m ≠ n ∧ w'.1 114 n = iv (m : Nat) ∧ w'.1 114 m ≠ -9 ∧ rk m < rk n ∧ opp m n ∧ ps (eK W) lo hi f m n))
def cam (w : Wd) (n : Nat) : Int := if w.1 114 n = -9 then 0 else 1
theorem cam_bd (w : Wd) (n : Nat) : 0 ≤ cam w n ∧ cam w n ≤ 1 := by unfold cam; split <;> omega
theorem cam_le (w : Wd) : 0 ≤ sm (cam w) 10 ∧ sm (cam w) 10 ≤ 10 := by
  have := sm_bound (f := cam w) (lo := 0) (hi := 1) (n := 10) (fun i _ => cam_bd w i)
  omega
/-- one node more -/
theorem RT.add {rk : Nat → Nat} {b m n : Nat} {w' : Wd} (h : RT W H lo hi f lc rk b w') (hn : n < 10) (hno : nOK W H n) (hm : m < 10) (hm1 : w'.1 114 m ≠ -9) (hn1 : w'.1 114 n = -9) (ho : opp m n) (hp : ps (eK W) lo hi f m n) : RT W H lo hi f lc (fun k => if k = n then b else rk k) (b + 1) (uI w' 114 n (iv m)) ∧ sm (cam (uI w' 114 n (iv m))) 10 = sm (cam w') 10 + 1 ∧ (∀ k, w'.1 114 k ≠ -9 → (uI w' 114 n (iv m)).1 114 k ≠ -9) := by
  have hne : ∀ j, w'.1 114 j ≠ -9 → j ≠ n := fun j hj z => hj (z ▸ hn1)
  have hmn := hne m hm1
  refine ⟨fun k hk hk1 => ?_, ?_, fun k hk1 => ?_⟩
  · by_cases z : k = n
    · subst z
      refine ⟨hno, ?_, Or.inr ⟨m, hm, hmn, uI_same, ?_, ?_, ho, hp⟩⟩
      · show (if k = k then b else rk k) < b + 1
        rw [if_pos rfl]; omega
      · rw [uI_other (Or.inr hmn)]; exact hm1
      · show (if m = k then b else rk m) < (if k = k then b else rk k)
        rw [if_pos rfl, if_neg hmn]; exact (h m hm hm1).2.1
    · rw [uI_other (Or.inr z)] at hk1
      obtain ⟨a1, a2, a3⟩ := h k hk hk1
      refine ⟨a1, ?_, ?_⟩
      · show (if k = n then b else rk k) < b + 1
        rw [if_neg z]; omega
      · rcases a3 with ⟨b1, b2, b3⟩ | ⟨m', b1, b2, b3, b4, b5, b6, b7⟩
        · exact Or.inl ⟨b1, by rw [uI_other (Or.inr z)]; exact b2, b3⟩
        · refine Or.inr ⟨m', b1, b2, by rw [uI_other (Or.inr z)]; exact b3, by rw [uI_other (Or.inr (hne m' b4))]; exact b4, ?_, b6, b7⟩
          show (if m' = n then b else rk m') < (if k = n then b else rk k)
          rw [if_neg z, if_neg (hne m' b4)]; exact b5
  · exact sm_one (m := n) hn (fun c hc hcn => by unfold cam; rw [uI_other (Or.inr hcn)]) (by
      unfold cam
      rw [uI_same, if_neg (iv_ne_m9 (by omega)), if_pos hn1]; rfl)
  · rw [uI_other (Or.inr (hne k hk1))]; exact hk1
/-- what holds while the search goes on -/
def RI (W H : Nat) (lo hi f lc : Nat → Int) (w0 : Wd) (w' : Wd) : Prop := (∃ rk b, b ≤ 20 + (sm (cam w') 10).toNat ∧ RT W H lo hi f lc rk b w') ∧ (∀ x, x < W → 0 < lc x → w'.1 114 x ≠ -9) ∧ Kp (fun k => k ≠ 114) w0 w'
/-- no way leads on from the nodes at a cell -/
def RC (W : Nat) (lo hi f : Nat → Int) (w' : Wd) (c : Nat) : Prop := (w'.1 114 (c % W) ≠ -9 → f c < hi c → w'.1 114 (5 + c / W) ≠ -9) ∧ (w'.1 114 (5 + c / W) ≠ -9 → lo c < f c → w'.1 114 (c % W) ≠ -9)
theorem RI.add {w0 w' : Wd} (h : RI W H lo hi f lc w0 w') {m n : Nat} (hn : n < 10) (hno : nOK W H n) (hm : m < 10) (hm1 : w'.1 114 m ≠ -9) (hn1 : w'.1 114 n = -9) (ho : opp m n) (hp : ps (eK W) lo hi f m n) : RI W H lo hi f lc w0 (uI w' 114 n (iv m)) ∧ sm (cam (uI w' 114 n (iv m))) 10 = sm (cam w') 10 + 1 ∧ (∀ k, w'.1 114 k ≠ -9 → (uI w' 114 n (iv m)).1 114 k ≠ -9) := by
  obtain ⟨⟨rk, b, h1, h2⟩, h3, h4⟩ := h
  obtain ⟨a1, a2, a3⟩ := h2.add hn hno hm hm1 hn1 ho hp
  have := cam_le w'
  exact ⟨⟨⟨_, b + 1, by rw [a2]; omega, a1⟩, fun x hx hl => a3 x (h3 x hx hl), h4.trans (Kp.uI (fun z => z rfl))⟩, a2, a3⟩
theorem reach_in (hg : MW W H w) (hs : MA W H lo hi f lc lr w) (hb : BH (W * H) lo hi f) (Q : Option (Int32 × Wd) → Prop) {k61 : Int32 → Wd → Option (Int32 × Wd)} {w' : Wd} (hR : RI W H lo hi f lc w w') (hk : ∀ v w2, RI W H lo hi f lc w w2 → ((v = 0 ∧ (∀ c, c < W * H → RC W lo hi f w2 c)) ∨ (v = 1 ∧ sm (cam w') 10 < sm (cam w2) 10)) → Q (k61 v w2)) : Q (lp (fun _ _ _ => none) (bX9_reach_69 k61) G (0 : Int32) (0 : Int32) w') := by
  have hN := WH_le hg.2.1 hg.2.2.2.1
  have hW1 := hg.1
  have hW5 := hg.2.1
  have hH5 := hg.2.2.2.1
  refine lpB (m := W * H) Q (fun i v w2 => RI W H lo hi f lc w w2 ∧ ((v = 0 ∧ sm (cam w') 10 = sm (cam w2) 10 ∧ (∀ c, c < i → RC W lo hi f w2 c)) ∨ (v = 1 ∧ sm (cam w') 10 < sm (cam w2) 10))) ?_ ?_ (hGn (by omega)) ⟨hR, Or.inl ⟨rfl, rfl, fun c h => by omega⟩⟩
  · rintro i v w2 k hi' ⟨h1, h2⟩
    left
    have hg2 : MW W H w2 := hg.kept (h1.2.2 99 (by omega)).1
    have hs2 := hs.kept h1.2.2
    obtain ⟨ce, ci, cj⟩ := cell_e hg.1 hi'
    have hyn : (0 : Int) ≤ ((i / W : Nat) : Int) := Int.natCast_nonneg _
    have hx : i % W < 10 := by omega
    have hy : 5 + i / W < 10 := by omega
    have hbi := hb i hi'
    have hsi := hs2.1 i hi'
    have oxy : opp (i % W) (5 + i / W) := Or.inl ⟨by omega, by omega⟩
    have oyx : opp (5 + i / W) (i % W) := Or.inr ⟨by omega, by omega⟩
    have pxy : f i < hi i → ps (eK W) lo hi f (i % W) (5 + i / W) := fun z => by
      unfold ps ec
      rw [if_pos (show i % W < 5 by omega), if_pos (show i % W < 5 by omega), show 5 + i / W - 5 = i / W by omega, show eK W (i % W) (i / W) = i from ce]; exact z
    have pyx : lo i < f i → ps (eK W) lo hi f (5 + i / W) (i % W) := fun z => by
      unfold ps ec
      rw [if_neg (show ¬ 5 + i / W < 5 by omega), if_neg (show ¬ 5 + i / W < 5 by omega), show 5 + i / W - 5 = i / W by omega, show eK W (i % W) (i / W) = i from ce]; exact z
    -- the second half of a step
    have half : ∀ (v : Int32) (w2 : Wd), RI W H lo hi f lc w w2 → ((v = 0 ∧ sm (cam w') 10 = sm (cam w2) 10 ∧ (∀ c, c < i → RC W lo hi f w2 c) ∧ (w2.1 114 (i % W) ≠ -9 → f i < hi i → w2.1 114 (5 + i / W) ≠ -9)) ∨ (v = 1 ∧ sm (cam w') 10 < sm (cam w2) 10)) → ∃ x' w3, jX9_reach_142 k61 k v (iv i) (iv (i % W : Nat)) (iv ((5 + i / W : Nat) : Int)) w2 = k x' (iv ((i + 1 : Nat) : Int)) w3 ∧ RI W H lo hi f lc w w3 ∧ ((x' = 0 ∧ sm (cam w') 10 = sm (cam w3) 10 ∧ (∀ c, c < i + 1 → RC W lo hi f w3 c)) ∨ (x' = 1 ∧ sm (cam w') 10 < sm (cam w3) 10)) := by
      intro v w2 h1 h2
      have hs2 := hs.kept h1.2.2
      have hsi := hs2.1 i hi'
      have stay : (w2.1 114 (5 + i / W) ≠ -9 → lo i < f i → w2.1 114 (i % W) ≠ -9) → ∃ x' w3, k v (iv ((i + 1 : Nat) : Int)) w2 = k x' (iv ((i + 1 : Nat) : Int)) w3 ∧ RI W H lo hi f lc w w3 ∧ ((x' = 0 ∧ sm (cam w') 10 = sm (cam w3) 10 ∧ (∀ c, c < i + 1 → RC W lo hi f w3 c)) ∨ (x' = 1 ∧ sm (cam w') 10 < sm (cam w3) 10)) := fun hst => by
        refine ⟨v, w2, rfl, h1, ?_⟩
        rcases h2 with ⟨q1, q0, q2, q3⟩ | q
        · refine Or.inl ⟨q1, q0, fun c hc => ?_⟩
          by_cases z : c = i
          · subst z; exact ⟨q3, hst⟩
          · exact q2 c (by omega)
        · exact Or.inr q
      unfold jX9_reach_142 jX9_reach_190
      rw [gI_iv (by rw [LI_114]; omega) (by rw [LI_114]; omega), bind_s, iv_s1]
      by_cases e1 : w2.1 114 (5 + i / W) = -9
      · rw [if_pos e1]
        exact stay (fun z => absurd e1 z)
      · rw [if_neg e1, gI_iv (by rw [LI_114]; omega) (by rw [LI_114]; omega), bind_s]
        by_cases e2 : w2.1 114 (i % W) = -9
        · rw [if_pos e2, gI_iv (by rw [LI_111]; omega) (by rw [LI_111]; omega), bind_s, gI_iv (by rw [LI_109]; omega) (by rw [LI_109]; omega), bind_s, hsi.1, hsi.2.2]
          by_cases e3 : lo i < f i
          · obtain ⟨b1, b2, b3⟩ := h1.add hx (Or.inl cj) hy e1 e2 oyx (pyx e3)
            rw [if_neg (by rw [iv_le (by omega) (by omega)]; omega), sI_iv (by rw [LI_114]; omega) (by rw [LI_114]; omega), bind_s]
            refine ⟨1, _, rfl, b1, Or.inr ⟨rfl, ?_⟩⟩
            rcases h2 with ⟨q1, q2, q3⟩ | q <;> omega
          · rw [if_pos (by rw [iv_le (by omega) (by omega)]; omega)]
            exact stay (fun _ z => absurd z e3)
        · rw [if_neg e2]
          exact stay (fun _ _ => e2)
    unfold bX9_reach_69
    rw [mcells_s hg2, bnd_s, if_neg (iv_Nle (by omega) hi'), hg2.2.2.2.2.1, rm_iv (by omega) (by omega) (by omega), bind_s, dv_iv (by omega) (by omega) (by omega), bind_s, gI_iv (by rw [LI_114]; omega) (by rw [LI_114]; omega), bind_s, iv_5, show (5 : Int) = ((5 : Nat) : Int) from rfl, iv_addN]
    have hold : (w2.1 114 (i % W) ≠ -9 → f i < hi i → w2.1 114 (5 + i / W) ≠ -9) → ((v = 0 ∧ sm (cam w') 10 = sm (cam w2) 10 ∧ (∀ c, c < i → RC W lo hi f w2 c) ∧ (w2.1 114 (i % W) ≠ -9 → f i < hi i → w2.1 114 (5 + i / W) ≠ -9)) ∨ (v = 1 ∧ sm (cam w') 10 < sm (cam w2) 10)) := fun z => by
      rcases h2 with ⟨q1, q2, q3⟩ | q
      · exact Or.inl ⟨q1, q2, q3, z⟩
      · exact Or.inr q
    by_cases e1 : w2.1 114 (i % W) = -9
    · rw [if_pos e1]
      exact half v w2 h1 (hold (fun z => absurd e1 z))
    · rw [if_neg e1, gI_iv (by rw [LI_114]; omega) (by rw [LI_114]; omega), bind_s]
      by_cases e2 : w2.1 114 (5 + i / W) = -9
      · rw [if_pos e2, gI_iv (by rw [LI_111]; omega) (by rw [LI_111]; omega), bind_s, gI_iv (by rw [LI_110]; omega) (by rw [LI_110]; omega), bind_s, hsi.2.1, hsi.2.2]
        by_cases e3 : f i < hi i
        · obtain ⟨b1, b2, b3⟩ := h1.add hy (Or.inr ⟨by omega, by omega⟩) hx e1 e2 oxy (pxy e3)
          rw [if_neg (by rw [iv_le (by omega) (by omega)]; omega), sI_iv (by rw [LI_114]; omega) (by rw [LI_114]; omega), bind_s]
          refine half 1 _ b1 (Or.inr ⟨rfl, ?_⟩)
          rcases h2 with ⟨q1, q2, q3⟩ | q <;> omega
        · rw [if_pos (by rw [iv_le (by omega) (by omega)]; omega)]
          exact half v w2 h1 (hold (fun _ z => absurd z e3))
      · rw [if_neg e2]
        exact half v w2 h1 (hold (fun _ _ => e2))
  · rintro v w2 k ⟨h1, h2⟩
    have hg2 : MW W H w2 := hg.kept (h1.2.2 99 (by omega)).1
    unfold bX9_reach_69
    rw [mcells_s hg2, bnd_s, if_pos iv_Nle']
    refine hk v w2 h1 ?_
    rcases h2 with ⟨q1, q2, q3⟩ | q
    · exact Or.inl ⟨q1, q3⟩
    · exact Or.inr q
/-- the search: a row that a way leads to, or no way -/
theorem reach_s (hg : MW W H w) (hs : MA W H lo hi f lc lr w) (hb : BH (W * H) lo hi f) : ∃ x w1, fX9_reach w = some (x, w1) ∧ Kp (fun k => k ≠ 114) w w1 ∧ ((x = -9 ∧ (∀ x, x < W → 0 < lc x → w1.1 114 x ≠ -9) ∧ (∀ c, c < W * H → RC W lo hi f w1 c) ∧ (∀ y, y < H → w1.1 114 (5 + y) ≠ -9 → lr y ≤ 0)) ∨ (∃ y rk b, x = iv ((5 + y : Nat) : Int) ∧ y < H ∧ 0 < lr y ∧ w1.1 114 (5 + y) ≠ -9 ∧ b ≤ 100 ∧ RT W H lo hi f lc rk b w1)) := by
  have hN := WH_le hg.2.1 hg.2.2.2.1
  have hW1 := hg.1
  have hW5 := hg.2.1
  have hH5 := hg.2.2.2.1
  generalize hQQ : (fun r => ∃ x w1, r = some (x, w1) ∧ Kp (fun k => k ≠ 114) w w1 ∧ ((x = -9 ∧ (∀ x, x < W → 0 < lc x → w1.1 114 x ≠ -9) ∧ (∀ c, c < W * H → RC W lo hi f w1 c) ∧ (∀ y, y < H → w1.1 114 (5 + y) ≠ -9 → lr y ≤ 0)) ∨ (∃ y rk b, x = iv ((5 + y : Nat) : Int) ∧ y < H ∧ 0 < lr y ∧ w1.1 114 (5 + y) ≠ -9 ∧ b ≤ 100 ∧ RT W H lo hi f lc rk b w1)) : Option (Int32 × Wd) → Prop) = QQ
  have out : ∀ {r : Option (Int32 × Wd)}, (∃ x w1, r = some (x, w1) ∧ Kp (fun k => k ≠ 114) w w1 ∧ ((x = -9 ∧ (∀ x, x < W → 0 < lc x → w1.1 114 x ≠ -9) ∧ (∀ c, c < W * H → RC W lo hi f w1 c) ∧ (∀ y, y < H → w1.1 114 (5 + y) ≠ -9 → lr y ≤ 0)) ∨ (∃ y rk b, x = iv ((5 + y : Nat) : Int) ∧ y < H ∧ 0 < lr y ∧ w1.1 114 (5 + y) ≠ -9 ∧ b ≤ 100 ∧ RT W H lo hi f lc rk b w1))) ↔ QQ r := by
    intro r; rw [← hQQ]
  rw [out]
  unfold fX9_reach
  -- the rows, once all is closed
  have last : ∀ w2, RI W H lo hi f lc w w2 → (∀ c, c < W * H → RC W lo hi f w2 c) → QQ (lp (fun _ _ => none) bX9_reach_201 G (0 : Int32) w2) := by
    intro w2 h1 h2
    have hg2 : MW W H w2 := hg.kept (h1.2.2 99 (by omega)).1
    have hs2 := hs.kept h1.2.2
    refine lpA (m := H) QQ (fun i w3 => w3 = w2 ∧ ∀ y, y < i → w2.1 114 (5 + y) ≠ -9 → lr y ≤ 0) ?_ ?_ (hGn (by omega)) ⟨rfl, fun y h => by omega⟩
    · rintro i w3 k hi' ⟨rfl, q⟩
      have hlr := hs2.2.2 i (by omega)
      unfold bX9_reach_201 jX9_reach_235
      rw [hg2.2.2.2.2.2, if_neg (iv_Nle (by omega) hi'), iv_5, show (5 : Int) = ((5 : Nat) : Int) from rfl, iv_addN, gI_iv (by rw [LI_114]; omega) (by rw [LI_114]; omega), bind_s]
      by_cases e1 : w3.1 114 (5 + i) = -9
      · left
        rw [if_pos e1, iv_s1]
        refine ⟨w3, rfl, rfl, fun y hy z => ?_⟩
        by_cases u : y = i
        · subst u; exact absurd e1 z
        · exact q y (by omega) z
      · rw [if_neg e1, gI_iv (by rw [LI_113]; omega) (by rw [LI_113]; omega), bind_s, hlr.1]
        by_cases e2 : lr i ≤ 0
        · left
          rw [if_pos (by rw [iv_0, iv_le (by omega) (by omega)]; omega), iv_s1]
          refine ⟨w3, rfl, rfl, fun y hy z => ?_⟩
          by_cases u : y = i
          · subst u; exact e2
          · exact q y (by omega) z
        · right
          rw [if_neg (by rw [iv_0, iv_le (by omega) (by omega)]; omega), ← out]
          obtain ⟨rk, b, r1, r2⟩ := h1.1
          have := cam_le w3
          exact ⟨_, w3, rfl, h1.2.2, Or.inr ⟨i, rk, b, rfl, hi', by omega, e1, by omega, r2⟩⟩
    · rintro w3 k ⟨rfl, q⟩
      unfold bX9_reach_201
      rw [hg2.2.2.2.2.2, if_pos iv_Nle', ← out]
      exact ⟨_, w3, rfl, h1.2.2, Or.inl ⟨rfl, h1.2.1, h2, q⟩⟩
  -- the rounds
  have rounds : ∀ w2, RI W H lo hi f lc w w2 → QQ (lp (fun _ _ => none) bX9_reach_61 G (1 : Int32) w2) := by
    intro w2 h1
    refine lpG (fun (F : Int32 → Wd → Option (Int32 × Wd)) (s : Int32 × Wd) => F s.1 s.2) QQ (fun mm s => RI W H lo hi f lc w s.2 ∧ ((s.1 = 0 ∧ (∀ c, c < W * H → RC W lo hi f s.2 c)) ∨ (s.1 = 1 ∧ sm (cam s.2) 10 + mm = 12))) ?_ G (12 - sm (cam w2) 10).toNat ((1 : Int32), w2) (hGn (by have := cam_le w2; omega)) ⟨h1, Or.inr ⟨rfl, by show sm (cam w2) 10 + ((12 - sm (cam w2) 10).toNat : Nat) = 12; have := cam_le w2; omega⟩⟩
    rintro mm ⟨v, w3⟩ k ⟨q1, q2⟩
    show (∃ (s' : Int32 × Wd) (m' : Nat), m' < mm ∧ bX9_reach_61 k v w3 = k s'.1 s'.2 ∧ _) ∨ QQ (bX9_reach_61 k v w3)
    unfold bX9_reach_61
    rcases q2 with ⟨z, q3⟩ | ⟨z, q3⟩
    · right
      rw [if_pos z]
      exact last w3 q1 q3
    · have z : v = 1 := z
      have q3 : sm (cam w3) 10 + (mm : Int) = 12 := q3
      have z' : ¬ v = 0 := by rw [z]; decide
      rw [if_neg z']
      have hc3 := cam_le w3
      refine reach_in hg hs hb (fun r => (∃ (s' : Int32 × Wd) (m' : Nat), m' < mm ∧ r = k s'.1 s'.2 ∧ (RI W H lo hi f lc w s'.2 ∧ ((s'.1 = 0 ∧ (∀ c, c < W * H → RC W lo hi f s'.2 c)) ∨ (s'.1 = 1 ∧ sm (cam s'.2) 10 + (m' : Nat) = 12)))) ∨ QQ r) q1 (fun v' w4 r1 r2 => ?_)
      left
      rcases r2 with ⟨rfl, r3⟩ | ⟨rfl, r3⟩
      · exact ⟨((0 : Int32), w4), 0, by omega, rfl, r1, Or.inl ⟨rfl, r3⟩⟩
      · have hc4 := cam_le w4
        exact ⟨((1 : Int32), w4), (12 - sm (cam w4) 10).toNat, by omega, rfl, r1, Or.inr ⟨rfl, by show sm (cam w4) 10 + ((12 - sm (cam w4) 10).toNat : Nat) = 12; omega⟩⟩
  -- the sources
  have sources : ∀ w2, Kp (fun k => k ≠ 114) w w2 → (∀ n, n < 10 → w2.1 114 n = -9) → QQ (lp (fun _ _ => none) bX9_reach_24 G (0 : Int32) w2) := by
    intro w2 h1 h2
    refine lpA (m := W) QQ (fun i w3 => Kp (fun k => k ≠ 114) w w3 ∧ (∀ n, n < 10 → w3.1 114 n = if n < i ∧ 0 < lc n then iv (n : Nat) else -9)) ?_ ?_ (hGn (by omega)) ⟨h1, fun n hn => by rw [if_neg (by omega)]; exact h2 n hn⟩
    · rintro i w3 k hi' ⟨q1, q2⟩
      left
      have hg3 : MW W H w3 := hg.kept (q1 99 (by omega)).1
      have hs3 := hs.kept q1
      have hlc := hs3.2.1 i (by omega)
      unfold bX9_reach_24 jX9_reach_52
      rw [hg3.2.2.2.2.1, if_neg (iv_Nle (by omega) hi'), gI_iv (by rw [LI_112]; omega) (by rw [LI_112]; omega), bind_s, hlc.1]
      have fin : ∀ x : Int32, x = (if 0 < lc i then iv (i : Nat) else -9) → ∃ w', k (iv ((i + 1 : Nat) : Int)) (uI w3 114 i x) = k (iv ((i + 1 : Nat) : Int)) w' ∧ Kp (fun k => k ≠ 114) w w' ∧ (∀ n, n < 10 → w'.1 114 n = if n < i + 1 ∧ 0 < lc n then iv (n : Nat) else -9) := fun x hx => ⟨_, rfl, q1.trans (Kp.uI (fun z => z rfl)), fun n hn => by
        by_cases u : n = i
        · subst u
          rw [uI_same, hx]
          by_cases v : 0 < lc n
          · rw [if_pos v, if_pos ⟨by omega, v⟩]
          · rw [if_neg v, if_neg (fun z => v z.2)]
        · rw [uI_other (Or.inr u), q2 n hn]
          by_cases v : n < i ∧ 0 < lc n
          · rw [if_pos v, if_pos ⟨by omega, v.2⟩]
          · rw [if_neg v, if_neg (fun z => v ⟨by omega, z.2⟩)]⟩
      by_cases e1 : lc i ≤ 0
      · rw [if_pos (by rw [iv_0, iv_le (by omega) (by omega)]; omega), sI_iv (by rw [LI_114]; omega) (by rw [LI_114]; omega), bind_s, iv_s1]
        exact fin _ (by rw [if_neg (by omega)])
      · rw [if_neg (by rw [iv_0, iv_le (by omega) (by omega)]; omega), sI_iv (by rw [LI_114]; omega) (by rw [LI_114]; omega), bind_s, iv_s1]
        exact fin _ (by rw [if_pos (by omega)])
    · rintro w3 k ⟨q1, q2⟩
      have hg3 : MW W H w3 := hg.kept (q1 99 (by omega)).1
      unfold bX9_reach_24
      rw [hg3.2.2.2.2.1, if_pos iv_Nle']
      refine rounds w3 ⟨⟨fun _ => 0, 1, by omega, fun n hn h => ?_⟩, fun x hx hl => ?_, q1⟩
      · rw [q2 n hn] at h
        by_cases v : n < W ∧ 0 < lc n
        · exact ⟨Or.inl v.1, by show (0 : Nat) < 1; omega, Or.inl ⟨by omega, by rw [q2 n hn, if_pos v], v.2⟩⟩
        · rw [if_neg v] at h; exact absurd rfl h
      · rw [q2 x (by omega), if_pos ⟨hx, hl⟩]; exact iv_ne_m9 (by omega)
  refine lpA (m := 10) QQ (fun i w3 => Kp (fun k => k ≠ 114) w w3 ∧ (∀ n, n < i → w3.1 114 n = -9)) ?_ ?_ (hGn (by omega)) ⟨Kp.rf, fun n hn => by omega⟩
  · rintro i w3 k hi' ⟨q1, q2⟩
    left
    unfold bX9_reach_2
    rw [if_neg (by rw [iv_10, iv_le (by omega) (by omega)]; omega), sI_iv (by rw [LI_114]; omega) (by rw [LI_114]; omega), bind_s, iv_s1]
    refine ⟨_, rfl, q1.trans (Kp.uI (fun z => z rfl)), fun n hn => ?_⟩
    by_cases u : n = i
    · subst u; rw [uI_same]
    · rw [uI_other (Or.inr u)]; exact q2 n (by omega)
  · rintro w3 k ⟨q1, q2⟩
    unfold bX9_reach_2
    rw [if_pos (by rw [iv_10]; exact Int32.le_refl _)]
    exact sources w3 q1 q2
/-- the way is taken: one cube more -/
theorem take_s (hg : MW W H w) (hs : MA W H lo hi f lc lr w) (hb : BH (W * H) lo hi f) {y b : Nat} {rk : Nat → Nat} (hy : y < H) (hyl : 0 < lr y) (hyr : w.1 114 (5 + y) ≠ -9) (hb1 : b ≤ 100) (hT : RT W H lo hi f lc rk b w) : ∃ w1 f' x0, fX9_take (iv ((5 + y : Nat) : Int)) w = some ((), w1) ∧ Kp (fun k => k ≠ 111 ∧ k ≠ 112 ∧ k ≠ 113) w w1 ∧ x0 < W ∧ 0 < lc x0 ∧ MA W H lo hi f' (pu lc x0 (lc x0 - 1)) (pu lr y (lr y - 1)) w1 ∧ BH (W * H) lo hi f' ∧ (∀ x, x < W → lS H (eK W) f' x = lS H (eK W) f x + (if x0 = x then 1 else 0)) ∧ (∀ j, j < H → hS W (eK W) f' j = hS W (eK W) f j + (if y = j then 1 else 0)) := by
  have hN := WH_le hg.2.1 hg.2.2.2.1
  have hE := eK_ok hg.1 hg.2.1 hg.2.2.2.1
  have hW1 := hg.1
  have hW5 := hg.2.1
  have hH5 := hg.2.2.2.1
  have hlr := hs.2.2 y (by omega)
  unfold fX9_take
  rw [iv_5, iv_sub, show ((5 + y : Nat) : Int) - 5 = ((y : Nat) : Int) by omega, gI_iv (by rw [LI_113]; omega) (by rw [LI_113]; omega), bind_s, sI_iv (by rw [LI_113]; omega) (by rw [LI_113]; omega), bind_s, hlr.1, iv_1, iv_sub]
  have hpar : ∃ par : Nat → Nat, ∀ n, n < 10 → w.1 114 n ≠ -9 → ¬ (n < 5 ∧ w.1 114 n = iv (n : Nat)) → par n < 10 ∧ par n ≠ n ∧ w.1 114 n = iv (par n : Nat) ∧ w.1 114 (par n) ≠ -9 ∧ rk (par n) < rk n ∧ opp (par n) n ∧ ps (eK W) lo hi f (par n) n := by
    have ex : ∀ n, n < 10 ∧ w.1 114 n ≠ -9 ∧ ¬ (n < 5 ∧ w.1 114 n = iv (n : Nat)) → ∃ m, m < 10 ∧ m ≠ n ∧ w.1 114 n = iv (m : Nat) ∧ w.1 114 m ≠ -9 ∧ rk m < rk n ∧ opp m n ∧ ps (eK W) lo hi f m n := fun n h => by
      rcases (hT n h.1 h.2.1).2.2 with z | z
      · exact absurd ⟨z.1, z.2.1⟩ h.2.2
      · exact z
    refine ⟨fun n => if h : n < 10 ∧ w.1 114 n ≠ -9 ∧ ¬ (n < 5 ∧ w.1 114 n = iv (n : Nat)) then (ex n h).choose else 0, fun n h1 h2 h3 => ?_⟩
    have hh : n < 10 ∧ w.1 114 n ≠ -9 ∧ ¬ (n < 5 ∧ w.1 114 n = iv (n : Nat)) := ⟨h1, h2, h3⟩
    simp only [dif_pos hh]
    exact (ex n hh).choose_spec
  obtain ⟨par, hpar⟩ := hpar
  have T : Tre W H (eK W) lo hi f (fun n => n < 10 ∧ w.1 114 n ≠ -9) (fun n => n < 5 ∧ w.1 114 n = iv (n : Nat)) par rk := fun n hn => ⟨(hT n hn.1 hn.2).1, fun hr => by
    obtain ⟨c1, c2, c3, c4, c5, c6, c7⟩ := hpar n hn.1 hn.2 hr
    exact ⟨⟨c1, c4⟩, c5, c6, c7⟩⟩
  have hbf : bdF (W * H) lo hi f := fun c hc => ⟨(hb c hc).2.1, (hb c hc).2.2.1⟩
  have key : ∃ w2 f' x0, lp (fun _ _ => none) (bX9_take_14 (iv ((5 + y : Nat) : Int))) G (iv ((5 + y : Nat) : Int)) (uI w 113 y (iv (lr y - 1))) = some ((), uI w2 112 x0 (iv (lc x0 - 1))) ∧ x0 < W ∧ 0 < lc x0 ∧ Kp (fun k => k ≠ 111) (uI w 113 y (iv (lr y - 1))) w2 ∧ (∀ c, c < W * H → w2.1 111 c = iv (f' c)) ∧ WI W H (W * H) (eK W) lo hi f (fun n => n < 10 ∧ w.1 114 n ≠ -9) (fun n => n < 5 ∧ w.1 114 n = iv (n : Nat)) par rk (5 + y) x0 f' := by
    refine lpG (fun (F : Int32 → Wd → Option (Unit × Wd)) (s : Int32 × Wd) => F s.1 s.2) (fun r => ∃ w2 f' x0, r = some ((), uI w2 112 x0 (iv (lc x0 - 1))) ∧ x0 < W ∧ 0 < lc x0 ∧ Kp (fun k => k ≠ 111) (uI w 113 y (iv (lr y - 1))) w2 ∧ (∀ c, c < W * H → w2.1 111 c = iv (f' c)) ∧ WI W H (W * H) (eK W) lo hi f (fun n => n < 10 ∧ w.1 114 n ≠ -9) (fun n => n < 5 ∧ w.1 114 n = iv (n : Nat)) par rk (5 + y) x0 f') (fun mm s => ∃ v f', s.1 = iv (v : Nat) ∧ v < 10 ∧ w.1 114 v ≠ -9 ∧ mm = rk v ∧ Kp (fun k => k ≠ 111) (uI w 113 y (iv (lr y - 1))) s.2 ∧ (∀ c, c < W * H → s.2.1 111 c = iv (f' c)) ∧ WI W H (W * H) (eK W) lo hi f (fun n => n < 10 ∧ w.1 114 n ≠ -9) (fun n => n < 5 ∧ w.1 114 n = iv (n : Nat)) par rk (5 + y) v f') ?_ G (rk (5 + y)) (iv ((5 + y : Nat) : Int), uI w 113 y (iv (lr y - 1))) (hGn (by have := (hT (5 + y) (by omega) hyr).2.1; omega)) ⟨5 + y, f, rfl, by omega, hyr, rfl, Kp.rf, fun c hc => by rw [uI_row (by omega)]; exact (hs.1 c hc).2.2, WI0 T hbf (5 + y)⟩
    rintro mm ⟨x, w2⟩ k ⟨v, f', rfl, c1, c2, rfl, c4, c5, c6⟩
    have k113 : w2.1 114 = w.1 114 := by rw [(c4 114 (by omega)).1, uI_row (by omega)]
    have k98 : w2.1 99 0 = iv W := by rw [(c4 99 (by omega)).1, uI_row (by omega)]; exact hg.2.2.2.2.1
    have k111 : w2.1 112 = w.1 112 := by rw [(c4 112 (by omega)).1, uI_row (by omega)]
    show (∃ (s' : Int32 × Wd) (m' : Nat), m' < rk v ∧ bX9_take_14 (iv ((5 + y : Nat) : Int)) k (iv v) w2 = k s'.1 s'.2 ∧ _) ∨ (∃ w2' f' x0, bX9_take_14 (iv ((5 + y : Nat) : Int)) k (iv v) w2 = some ((), uI w2' 112 x0 (iv (lc x0 - 1))) ∧ _)
    have go : ¬ (v < 5 ∧ w.1 114 v = iv (v : Nat)) → ∃ (s' : Int32 × Wd) (m' : Nat), m' < rk v ∧ jX9_take_29 (iv ((5 + y : Nat) : Int)) k (iv v) w2 = k s'.1 s'.2 ∧ ∃ v f', s'.1 = iv (v : Nat) ∧ v < 10 ∧ w.1 114 v ≠ -9 ∧ m' = rk v ∧ Kp (fun k => k ≠ 111) (uI w 113 y (iv (lr y - 1))) s'.2 ∧ (∀ c, c < W * H → s'.2.1 111 c = iv (f' c)) ∧ WI W H (W * H) (eK W) lo hi f (fun n => n < 10 ∧ w.1 114 n ≠ -9) (fun n => n < 5 ∧ w.1 114 n = iv (n : Nat)) par rk (5 + y) v f' := by
      intro hnr
      obtain ⟨d1, d2, d3, d4, d5, d6, d7⟩ := hpar v c1 c2 hnr
      obtain ⟨hN', hW⟩ := walk1 hE T (v := v) ⟨c1, c2⟩ hnr c6
      have hfb := c6.1 _ hN'
      have hbb := hb _ hN'
      have hvo := (hT v c1 c2).1
      have hpo := (hT (par v) d1 d4).1
      unfold nOK at hvo hpo
      have d6' := d6
      unfold opp at d6'
      refine ⟨(iv (par v : Nat), uI w2 111 (ec (eK W) (par v) v) (iv (f' (ec (eK W) (par v) v) + (if 5 ≤ v then 1 else -1)))), rk (par v), d5, ?_, par v, _, rfl, d1, d4, rfl, c4.trans (Kp.uI (fun z => z rfl)), fun c hc => ?_, hW⟩
      · unfold jX9_take_29 jX9_take_82
        rw [gI_iv (by rw [LI_114]; omega) (by rw [LI_114]; omega), bind_s, k113, d3, k98]
        by_cases z : v < 5
        · have e1 : ec (eK W) (par v) v = (par v - 5) * W + v := by
            unfold ec eK
            rw [if_neg (by omega)]
          have e2 : (iv (par v : Nat) - (5 : Int32)) * iv W + iv v = iv ((ec (eK W) (par v) v : Nat) : Int) := by
            rw [e1, iv_5, iv_sub, show ((par v : Nat) : Int) - 5 = ((par v - 5 : Nat) : Int) by omega, iv_mul, iv_add, Int.natCast_add, Int.natCast_mul]
          rw [if_pos (by rw [iv_4, iv_le (by omega) (by omega)]; omega), e2, gI_iv (by rw [LI_111]; omega) (by rw [LI_111]; omega), bind_s, sI_iv (by rw [LI_111]; omega) (by rw [LI_111]; omega), bind_s, c5 _ hN', iv_1, iv_sub, if_neg (show ¬ 5 ≤ v by omega)]
          rfl
        · have e1 : ec (eK W) (par v) v = (v - 5) * W + par v := by
            unfold ec eK
            rw [if_pos (by omega)]
          have e2 : (iv v - (5 : Int32)) * iv W + iv (par v : Nat) = iv ((ec (eK W) (par v) v : Nat) : Int) := by
            rw [e1, iv_5, iv_sub, show ((v : Nat) : Int) - 5 = ((v - 5 : Nat) : Int) by omega, iv_mul, iv_add, Int.natCast_add, Int.natCast_mul]
          rw [if_neg (by rw [iv_4, iv_le (by omega) (by omega)]; omega), e2, gI_iv (by rw [LI_111]; omega) (by rw [LI_111]; omega), bind_s, sI_iv (by rw [LI_111]; omega) (by rw [LI_111]; omega), bind_s, c5 _ hN', iv_1, iv_add, if_pos (show 5 ≤ v by omega)]
      · show (uI w2 111 (ec (eK W) (par v) v) (iv (f' (ec (eK W) (par v) v) + (if 5 ≤ v then 1 else -1)))).1 111 c = iv (pu f' (ec (eK W) (par v) v) (f' (ec (eK W) (par v) v) + (if 5 ≤ v then 1 else -1)) c)
        by_cases y : c = ec (eK W) (par v) v
        · subst y; rw [uI_same, pu_at]
        · rw [uI_other (Or.inr y), pu_ne y]; exact c5 c hc
    unfold bX9_take_14
    by_cases z : v < 5
    · rw [if_neg (by rw [iv_4, iv_lt (by omega) (by omega)]; omega), gI_iv (by rw [LI_114]; omega) (by rw [LI_114]; omega), bind_s, k113]
      by_cases z2 : w.1 114 v = iv v
      · right
        have hl := hs.2.1 v z
        have hvs : v < W ∧ 0 < lc v := by
          obtain ⟨q1, _, q3⟩ := hT v c1 c2
          unfold nOK at q1
          rcases q3 with q | ⟨m', m1, m2, m3, _⟩
          · exact ⟨by omega, q.2.2⟩
          · rw [z2, iv_eq (by omega) (by omega)] at m3; omega
        rw [if_pos z2, gI_iv (by rw [LI_112]; omega) (by rw [LI_112]; omega), bind_s, sI_iv (by rw [LI_112]; omega) (by rw [LI_112]; omega), bind_s, k111, hl.1, iv_1, iv_sub]
        exact ⟨w2, f', v, rfl, hvs.1, hvs.2, c4, c5, c6⟩
      · left
        rw [if_neg z2]
        exact go (fun q => z2 q.2)
    · left
      rw [if_pos (by rw [iv_4, iv_lt (by omega) (by omega)]; omega)]
      exact go (fun q => z q.1)
  obtain ⟨w2, f', x0, e1, e2, e3, e4, e5, e6⟩ := key
  refine ⟨_, f', x0, e1, ?_, e2, e3, ⟨fun c hc => ⟨?_, ?_, ?_⟩, fun n hn => ?_, fun n hn => ?_⟩, fun c hc => ?_, fun x hx => ?_, fun j hj => ?_⟩
  · exact (Kp.uI (fun z => z.2.2 rfl)).trans ((e4.weak fun k z => z.1).trans (Kp.uI (fun z => z.2.1 rfl)))
  · rw [uI_row (by omega), (e4 109 (by omega)).1, uI_row (by omega)]; exact (hs.1 c hc).1
  · rw [uI_row (by omega), (e4 110 (by omega)).1, uI_row (by omega)]; exact (hs.1 c hc).2.1
  · rw [uI_row (by omega)]; exact e5 c hc
  · have hl := hs.2.1 x0 (by omega)
    by_cases u : n = x0
    · subst u; rw [uI_same, pu_at]; exact ⟨rfl, by omega, by omega⟩
    · rw [uI_other (Or.inr u), pu_ne u, (e4 112 (by omega)).1, uI_row (by omega)]; exact hs.2.1 n hn
  · rw [uI_row (by omega), (e4 113 (by omega)).1]
    by_cases u : n = y
    · subst u; rw [uI_same, pu_at]; exact ⟨rfl, by omega, by omega⟩
    · rw [uI_other (Or.inr u), pu_ne u]; exact hs.2.2 n hn
  · have h1 := hb c hc
    have h2 := e6.1 c hc
    omega
  · rw [e6.2.1 x hx, if_neg (show ¬ 5 + y = x by omega)]; omega
  · rw [e6.2.2.1 j hj, if_neg (show ¬ x0 = 5 + j by omega)]
    by_cases u : y = j
    · rw [if_pos u, if_pos (by omega)]; omega
    · rw [if_neg u, if_neg (by omega)]; omega
end MSUM
