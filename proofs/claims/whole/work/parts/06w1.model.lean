/-! ===== counting: the model's step and its table ===== -/
/-- one cell alone may be bound to one height -/
def bdO (oc ov : Int) (c v : Nat) : Bool := !decide (oc = (c : Int)) || decide (ov = (v : Int))
def alO (q : Tl) (oc ov : Int) (c v : Nat) : Bool := alC q c v && bdO oc ov c v
def mt (W x : Nat) (last : Bool) (s k : Nat) : Option Nat :=
  if (x + 1 = W ∧ ((if x = 0 then 0 else s % 2) ||| (if k / 2 = 1 then 1 else 0)) = 0) ∨ (last = true ∧ (s / 2 ||| (if k % 2 = 1 then 2 ^ x else 0)) / 2 ^ x % 2 = 0) then none
  else some (2 * (s / 2 ||| (if k % 2 = 1 then 2 ^ x else 0)) + ((if x = 0 then 0 else s % 2) ||| (if k / 2 = 1 then 1 else 0)))
def mtq (q : Tl) (c s k : Nat) : Option Nat := mt (qW q) (c % qW q) (decide (c / qW q + 1 = qH q)) s k
def mth (A : Nat → Nat → Bool) (q : Tl) (c s v : Nat) : Option Nat := if A c v = true then mtq q c s (kdC q c v) else none
def s9 (o : Option Nat) : Int32 := match o with
  | none => iv (-9)
  | some u => iv (u : Nat)
/-- what the model's counting reads -/
def ML (q : Tl) (oc ov : Int) (w : Wd) : Prop := qOK q ∧ MW (qW q) (qH q) w ∧ (∀ x, x < qW q → w.1 101 x = iv (qF q x)) ∧ (∀ y, y < qH q → w.1 102 y = iv (qS q y)) ∧ (∀ c, c < qN q → w.1 103 c = iv (qT q c)) ∧ (w.1 99 11 = iv oc ∧ -9 ≤ oc ∧ oc < 25) ∧ (oc ≠ -9 → w.1 99 12 = iv ov ∧ 0 ≤ ov ∧ ov ≤ 4)
theorem ML.kept {q : Tl} {oc ov : Int} {w w1 : Wd} (h : ML q oc ov w) (e : w1.1 = w.1) : ML q oc ov w1 := by
  unfold ML MW at *; rw [e]; exact h
theorem mcells_q {q : Tl} {oc ov : Int} {w : Wd} (h : ML q oc ov w) : fX9_cells w = some (iv ((qN q : Nat) : Int), w) := mcells_s h.2.1
theorem sh_all : ∀ C, C < 32 → ∀ x, x < 5 → ((iv (C : Nat) >>> (iv (x : Nat) &&& 31)) &&& (1 : Int32)) = iv ((C / 2 ^ x % 2 : Nat) : Int) := by decide +kernel
theorem sl_all : ∀ x, x < 5 → (1 : Int32) <<< (iv (x : Nat) &&& 31) = iv ((2 ^ x : Nat) : Int) := by decide +kernel
theorem or2 : ∀ r, r < 2 → ∀ d, d < 2 → r ||| d < 2 := by decide
theorem or32 {C e : Nat} (h1 : C < 32) (h2 : e < 32) : C ||| e < 32 := Nat.or_lt_two_pow (n := 5) h1 h2
theorem p2x {x : Nat} (h : x < 5) : 2 ^ x < 32 := (Nat.pow_lt_pow_right (a := 2) (n := 5) (by omega) h : 2 ^ x < 2 ^ 5)
section MODEL
variable {q : Tl} {oc ov : Int} {w : Wd}
theorem j207_s (h : ML q oc ov w) (p1 p2 p3 : Int32) {x y C d r : Nat} (hx : x < qW q) (hy : y < qH q) (hC : C < 32) (hd : d < 2) (hr : r < 2) : jX9_then_207 p1 p2 p3 (iv x) (iv y) (iv C) (iv d) (iv r) w = some (s9 (if (x + 1 = qW q ∧ (r ||| d) = 0) ∨ (decide (y + 1 = qH q) = true ∧ C / 2 ^ x % 2 = 0) then none else some (2 * C + (r ||| d))), w) := by
  have hW := h.2.1.2.1
  have hH := h.2.1.2.2.2.1
  have hrd := or2 r hr d hd
  have e252 : ∀ D : Nat, some (((2 : Int32) * iv C) + iv D, w) = some (s9 (some (2 * C + D)), w) := fun D => by
    show some (_, w) = some (iv ((2 * C + D : Nat) : Int), w)
    rw [iv_2, iv_mul, iv_add, Int.natCast_add, Int.natCast_mul]; rfl
  unfold jX9_then_207 jX9_then_226 jX9_then_247 jX9_then_251 jX9_then_252
  rw [or_all r (by omega) d (by omega), h.2.1.2.2.2.2.1, h.2.1.2.2.2.2.2, iv_1, iv_sub, iv_sub, ← iv_1, sh_all C hC x (by omega), if_neg (show ¬ (1 : Int32) = 0 by decide), if_pos (show (0 : Int32) = 0 from rfl), e252]
  have cx : (iv (x : Nat) = iv ((qW q : Int) - 1)) ↔ x + 1 = qW q := by rw [iv_eq (by omega) (by omega)]; omega
  have cy : (iv (y : Nat) = iv ((qH q : Int) - 1)) ↔ y + 1 = qH q := by rw [iv_eq (by omega) (by omega)]; omega
  have cr : (iv ((r ||| d : Nat) : Int) = 0) ↔ (r ||| d) = 0 := by rw [iv_0, iv_eq (by omega) (by omega)]; omega
  have cc : (iv ((C / 2 ^ x % 2 : Nat) : Int) = 0) ↔ C / 2 ^ x % 2 = 0 := by
    have : C / 2 ^ x % 2 < 2 := Nat.mod_lt _ (by omega)
    rw [iv_0, iv_eq (by omega) (by omega)]; omega
  have last : (if iv (y : Nat) = iv ((qH q : Int) - 1) then if iv ((C / 2 ^ x % 2 : Nat) : Int) = 0 then some ((-9 : Int32), w) else some (s9 (some (2 * C + (r ||| d))), w) else some (s9 (some (2 * C + (r ||| d))), w)) = some (s9 (if (decide (y + 1 = qH q) = true ∧ C / 2 ^ x % 2 = 0) then none else some (2 * C + (r ||| d))), w) := by
    by_cases a : y + 1 = qH q
    · rw [if_pos (cy.mpr a)]
      by_cases b : C / 2 ^ x % 2 = 0
      · rw [if_pos (cc.mpr b), if_pos ⟨decide_eq_true a, b⟩]; rfl
      · rw [if_neg (fun z => b (cc.mp z)), if_neg (fun z => b z.2)]
    · rw [if_neg (fun z => a (cy.mp z)), if_neg (fun z => a (of_decide_eq_true z.1))]
  rw [last]
  by_cases a : x + 1 = qW q
  · rw [if_pos (cx.mpr a)]
    by_cases b : (r ||| d) = 0
    · rw [if_pos (cr.mpr b), if_pos (Or.inl ⟨a, b⟩)]; rfl
    · rw [if_neg (fun z => b (cr.mp z))]
      by_cases l : decide (y + 1 = qH q) = true ∧ C / 2 ^ x % 2 = 0
      · rw [if_pos l, if_pos (Or.inr l)]
      · rw [if_neg l, if_neg (fun z => z.elim (fun z => b z.2) l)]
  · rw [if_neg (fun z => a (cx.mp z))]
    by_cases l : decide (y + 1 = qH q) = true ∧ C / 2 ^ x % 2 = 0
    · rw [if_pos l, if_pos (Or.inr l)]
    · rw [if_neg l, if_neg (fun z => z.elim (fun z => a z.1) l)]
theorem tol_v {f : Int} (hf : Tol f) {v : Nat} (hv : v < 5) : ((iv f = (-9 : Int32)) ↔ f = -9) ∧ ((iv f = iv v) ↔ f = v) ∧ ((iv f < iv v) ↔ f < v) := by
  have := hf.rg
  exact ⟨by rw [iv_m9, iv_eq (by omega) (by omega)], iv_eq (by omega) (by omega), iv_lt (by omega) (by omega)⟩
theorem j174_s (h : ML q oc ov w) (p1 p2 : Int32) {x y C e r v : Nat} (hx : x < qW q) (hy : y < qH q) (hC : C < 32) (he : e < 32) (hr : r < 2) (hv : v < 5) : jX9_then_174 p1 p2 (iv v) (iv x) (iv y) (iv r) (iv e) (iv C) w = some (s9 (if (x + 1 = qW q ∧ (r ||| (if qS q y = -9 ∨ qS q y = (v : Int) then 1 else 0)) = 0) ∨ (decide (y + 1 = qH q) = true ∧ (C ||| e) / 2 ^ x % 2 = 0) then none else some (2 * (C ||| e) + (r ||| (if qS q y = -9 ∨ qS q y = (v : Int) then 1 else 0)))), w) := by
  have hH := h.2.1.2.2.2.1
  have hg := tol_v (h.1.2.2.1 y hy) hv
  unfold jX9_then_174 jX9_then_202
  rw [gI_iv (by rw [LI_102]; omega) (by rw [LI_102]; omega), bind_s, bind_s, h.2.2.2.1 y hy, or_all C (by omega) e (by omega), iv_0, iv_1, show iv 1 = iv ((1 : Nat) : Int) from rfl, show iv 0 = iv ((0 : Nat) : Int) from rfl, j207_s h _ _ _ hx hy (or32 hC he) (by omega) hr, j207_s h _ _ _ hx hy (or32 hC he) (by omega) hr]
  by_cases a : qS q y = -9
  · rw [if_pos (hg.1.mpr a), if_pos (show qS q y = -9 ∨ qS q y = (v : Int) from Or.inl a)]
  · rw [if_neg (fun z => a (hg.1.mp z))]
    by_cases b : qS q y = (v : Int)
    · rw [if_pos (hg.2.1.mpr b), if_pos (show qS q y = -9 ∨ qS q y = (v : Int) from Or.inr b)]
    · rw [if_neg (fun z => b (hg.2.1.mp z)), if_neg (show ¬ (qS q y = -9 ∨ qS q y = (v : Int)) from fun z => z.elim a b)]
theorem j139_s (h : ML q oc ov w) (p1 p2 : Int32) {x y C r v : Nat} (hx : x < qW q) (hy : y < qH q) (hC : C < 32) (hr : r < 2) (hv : v < 5) : jX9_then_139 p1 p2 (iv v) (iv x) (iv y) (iv C) (iv r) w = some (s9 (if (x + 1 = qW q ∧ (r ||| (if qS q y = -9 ∨ qS q y = (v : Int) then 1 else 0)) = 0) ∨ (decide (y + 1 = qH q) = true ∧ (C ||| (if qF q x = -9 ∨ qF q x = (v : Int) then 2 ^ x else 0)) / 2 ^ x % 2 = 0) then none else some (2 * (C ||| (if qF q x = -9 ∨ qF q x = (v : Int) then 2 ^ x else 0)) + (r ||| (if qS q y = -9 ∨ qS q y = (v : Int) then 1 else 0)))), w) := by
  have hW := h.2.1.2.1
  have hf := tol_v (h.1.2.1 x hx) hv
  unfold jX9_then_139 jX9_then_166
  rw [gI_iv (by rw [LI_101]; omega) (by rw [LI_101]; omega), bind_s, bind_s, h.2.2.1 x hx, sl_all x (by omega), iv_0, show iv 0 = iv ((0 : Nat) : Int) from rfl, j174_s h _ _ hx hy hC (p2x (by omega)) hr hv, j174_s h _ _ hx hy hC (by omega) hr hv]
  by_cases a : qF q x = -9
  · rw [if_pos (hf.1.mpr a), if_pos (show qF q x = -9 ∨ qF q x = (v : Int) from Or.inl a)]
  · rw [if_neg (fun z => a (hf.1.mp z))]
    by_cases b : qF q x = (v : Int)
    · rw [if_pos (hf.2.1.mpr b), if_pos (show qF q x = -9 ∨ qF q x = (v : Int) from Or.inr b)]
    · rw [if_neg (fun z => b (hf.2.1.mp z)), if_neg (show ¬ (qF q x = -9 ∨ qF q x = (v : Int)) from fun z => z.elim a b)]
theorem knd_1 (f g : Int) (v : Nat) : (knd f g v % 2 = 1) ↔ (f = -9 ∨ f = (v : Int)) := by
  unfold knd
  by_cases a : f = -9 ∨ f = (v : Int)
  · rw [if_pos a]; exact ⟨fun _ => a, fun _ => by split <;> omega⟩
  · rw [if_neg a]; exact ⟨fun z => by split at z <;> omega, fun z => absurd z a⟩
theorem knd_2 (f g : Int) (v : Nat) : (knd f g v / 2 = 1) ↔ (g = -9 ∨ g = (v : Int)) := by
  unfold knd
  by_cases a : g = -9 ∨ g = (v : Int)
  · rw [if_pos a]; exact ⟨fun _ => a, fun _ => by split <;> omega⟩
  · rw [if_neg a]; exact ⟨fun z => by split at z <;> omega, fun z => absurd z a⟩
theorem j107_s (h : ML q oc ov w) (p1 : Int32) {c s v : Nat} (hc : c < qN q) (hs : s < 64) (hv : v < 5) : jX9_then_112 p1 (iv s) (iv v) (iv (c % qW q : Nat)) (iv (c / qW q : Nat)) 1 w = some (s9 (mtq q c s (kdC q c v)), w) := by
  have hx : c % qW q < qW q := Nat.mod_lt _ h.1.1.1
  have hy : c / qW q < qH q := Nat.div_lt_of_lt_mul hc
  have hW := h.2.1.2.1
  unfold jX9_then_112
  rw [if_neg (by decide), iv_2, show iv 2 = iv ((2 : Nat) : Int) from rfl, dv_iv (by omega) (by omega) (by omega), bind_s, rm_iv (by omega) (by omega) (by omega), bind_s, iv_0, show iv 0 = iv ((0 : Nat) : Int) from rfl, j139_s h _ _ hx hy (by omega) (by omega) hv, j139_s h _ _ hx hy (by omega) (by omega) hv]
  unfold mtq mt kdC
  have e1 := knd_1 (qF q (c % qW q)) (qS q (c / qW q)) v
  have e2 := knd_2 (qF q (c % qW q)) (qS q (c / qW q)) v
  have f1 : (if knd (qF q (c % qW q)) (qS q (c / qW q)) v % 2 = 1 then 2 ^ (c % qW q) else 0) = (if qF q (c % qW q) = -9 ∨ qF q (c % qW q) = (v : Int) then 2 ^ (c % qW q) else 0) := by
    by_cases a : qF q (c % qW q) = -9 ∨ qF q (c % qW q) = (v : Int)
    · rw [if_pos a, if_pos (e1.mpr a)]
    · rw [if_neg a, if_neg (fun z => a (e1.mp z))]
  have f2 : (if knd (qF q (c % qW q)) (qS q (c / qW q)) v / 2 = 1 then 1 else 0) = (if qS q (c / qW q) = -9 ∨ qS q (c / qW q) = (v : Int) then 1 else 0) := by
    by_cases a : qS q (c / qW q) = -9 ∨ qS q (c / qW q) = (v : Int)
    · rw [if_pos a, if_pos (e2.mpr a)]
    · rw [if_neg a, if_neg (fun z => a (e2.mp z))]
  rw [f1, f2]
  by_cases a : c % qW q = 0
  · rw [if_pos (by rw [a]), if_pos a]
  · rw [if_neg (by rw [iv_eq (by omega) (by omega)]; omega), if_neg a]
theorem then_s (h : ML q oc ov w) {c s v : Nat} (hc : c < qN q) (hs : s < 64) (hv : v < 5) : fX9_then (iv c) (iv s) (iv v) w = some (s9 (mth (alO q oc ov) q c s v), w) := by
  have hx : c % qW q < qW q := Nat.mod_lt _ h.1.1.1
  have hy : c / qW q < qH q := Nat.div_lt_of_lt_mul hc
  have hN := qN_le h.1
  have hW := h.2.1.2.1
  have hW1 := h.2.1.1
  have hH := h.2.1.2.2.2.1
  have hf := tol_v (h.1.2.1 _ hx) hv
  have hg := tol_v (h.1.2.2.1 _ hy) hv
  have htT := h.1.2.2.2 c hc
  have no : jX9_then_111 (iv c) (iv s) (iv v) (iv (c % qW q : Nat)) (iv (c / qW q : Nat)) w = some (s9 none, w) := by
    unfold jX9_then_111 jX9_then_112; rw [if_pos rfl]; rfl
  have ye : jX9_then_107 (iv c) (iv s) (iv v) (iv (c % qW q : Nat)) (iv (c / qW q : Nat)) w = some (s9 (mtq q c s (kdC q c v)), w) := j107_s h _ hc hs hv
  generalize hR : mtq q c s (kdC q c v) = R at ye
  have h91 : jX9_then_91 (iv c) (iv s) (iv v) (iv (c % qW q : Nat)) (iv (c / qW q : Nat)) w = some (s9 (if bdO oc ov c v = true then R else none), w) := by
    unfold jX9_then_91 bdO
    rw [no, ye, h.2.2.2.2.2.1.1]
    have hoc := h.2.2.2.2.2.1.2
    by_cases a : oc = (c : Int)
    · obtain ⟨b1, b2⟩ := h.2.2.2.2.2.2 (by omega)
      rw [if_pos (by rw [a]), b1, decide_eq_true a]
      by_cases b : ov = (v : Int)
      · rw [if_pos (by rw [b]), decide_eq_true b]; rfl
      · rw [if_neg (by rw [iv_eq (by omega) (by omega)]; exact b), decide_eq_false b]; rfl
    · rw [if_neg (by rw [iv_eq (by omega) (by omega)]; exact a), decide_eq_false a]; rfl
  have h62 : jX9_then_62 (iv c) (iv s) (iv v) (iv (c % qW q : Nat)) (iv (c / qW q : Nat)) w = some (s9 (if ((decide (qT q c = -9) || decide (qT q c = tpO v)) && bdO oc ov c v) = true then R else none), w) := by
    unfold jX9_then_62 jX9_then_88
    rw [gI_iv (by rw [LI_103]; omega) (by rw [LI_103]; omega), bind_s, bind_s, h.2.2.2.2.1 c hc, h91, no]
    by_cases a : qT q c = -9
    · rw [if_pos (by rw [a]; rfl), decide_eq_true a, Bool.true_or, Bool.true_and]
    · rw [if_neg (ne_m9 (by rw [htT.ti]; exact a)), decide_eq_false a, Bool.false_or]
      have e1 : (iv v ≤ (0 : Int32)) ↔ v = 0 := by rw [iv_0, iv_le (by omega) (by omega)]; omega
      by_cases b : v = 0
      · rw [if_pos (e1.mpr b)]
        have et : tpO (v : Int) = 0 := by rw [b]; rfl
        rw [et]
        by_cases d : qT q c = 0
        · rw [if_pos (by rw [d]; rfl), decide_eq_true d, Bool.true_and]
        · rw [if_neg (by rw [iv_0, iv_eq htT.rg (by omega)]; exact d), decide_eq_false d, Bool.false_and]; rfl
      · rw [if_neg (fun z => b (e1.mp z))]
        have et : tpO (v : Int) = 1 := if_pos (by omega)
        rw [et]
        by_cases d : qT q c = 1
        · rw [if_pos (by rw [d]; rfl), decide_eq_true d, Bool.true_and]
        · rw [if_neg (by rw [iv_1, iv_eq htT.rg (by omega)]; exact d), decide_eq_false d, Bool.false_and]; rfl
  have h39 : jX9_then_39 (iv c) (iv s) (iv v) (iv (c % qW q : Nat)) (iv (c / qW q : Nat)) w = some (s9 (if ((decide (qS q (c / qW q) = -9) || decide ((v : Int) ≤ qS q (c / qW q))) && ((decide (qT q c = -9) || decide (qT q c = tpO v)) && bdO oc ov c v)) = true then R else none), w) := by
    unfold jX9_then_39
    rw [gI_iv (by rw [LI_102]; omega) (by rw [LI_102]; omega), bind_s, bind_s, h.2.2.2.1 _ hy, h62, no]
    by_cases a : qS q (c / qW q) = -9
    · rw [if_pos (hg.1.mpr a), decide_eq_true a, Bool.true_or, Bool.true_and]
    · rw [if_neg (fun z => a (hg.1.mp z)), decide_eq_false a, Bool.false_or]
      by_cases b : (v : Int) ≤ qS q (c / qW q)
      · rw [if_neg (fun z => by have := hg.2.2.mp z; omega), decide_eq_true b, Bool.true_and]
      · rw [if_pos (hg.2.2.mpr (by omega)), decide_eq_false b, Bool.false_and]; rfl
  unfold fX9_then
  rw [h.2.1.2.2.2.2.1, rm_iv (by omega) hW1 (by omega), bind_s, dv_iv (by omega) hW1 (by omega), bind_s, gI_iv (by rw [LI_101]; omega) (by rw [LI_101]; omega), bind_s, bind_s, h.2.2.1 _ hx, h39, no]
  unfold mth alO alC alw
  rw [hR]
  by_cases a : qF q (c % qW q) = -9
  · rw [if_pos (hf.1.mpr a), decide_eq_true a, Bool.true_or, Bool.true_and, Bool.and_assoc]
  · rw [if_neg (fun z => a (hf.1.mp z)), decide_eq_false a, Bool.false_or]
    by_cases b : (v : Int) ≤ qF q (c % qW q)
    · rw [if_neg (fun z => by have := hf.2.2.mp z; omega), decide_eq_true b, Bool.true_and, Bool.and_assoc]
    · rw [if_pos (hf.2.2.mpr (by omega)), decide_eq_false b, Bool.false_and, Bool.false_and]; rfl
end MODEL
