/-! ===== sums, the class: a way is searched, and a cube moved along it ===== -/
theorem LI_83 : LI 83 = 25 := by decide +kernel
theorem LI_84 : LI 84 = 25 := by decide +kernel
theorem LI_85 : LI 85 = 25 := by decide +kernel
theorem LI_86 : LI 86 = 10 := by decide +kernel
theorem LI_87 : LI 87 = 10 := by decide +kernel
theorem LI_88 : LI 88 = 10 := by decide +kernel
theorem LI_89 : LI 89 = 10 := by decide +kernel
theorem iv_addN (a b : Nat) : iv a + iv b = iv ((a + b : Nat) : Int) := by rw [iv_add, Int.natCast_add]
theorem iv_ne_m1 {n : Nat} (h : n < 1000000) : iv n ≠ (-1 : Int32) := by rw [iv_m1]; intro z; rw [iv_eq (by omega) (by omega)] at z; omega
def SA (W H : Nat) (lo hi f op : Nat → Int) (w : Wd) : Prop := (∀ c, c < W * H → w.1 83 c = iv (f c) ∧ w.1 84 c = iv (lo c) ∧ w.1 85 c = iv (hi c)) ∧ (∀ n, n < 10 → w.1 86 n = iv (op n) ∧ -1000 ≤ op n ∧ op n ≤ 1000)
def BH (N : Nat) (lo hi f : Nat → Int) : Prop := ∀ c, c < N → 0 ≤ lo c ∧ lo c ≤ f c ∧ f c ≤ hi c ∧ hi c ≤ 4
theorem isColumn_s {n : Nat} (h : n < 10) (w : Wd) : fX4_isColumn (iv n) w = some ((if n < 5 then 0 else 1), w) := by
  unfold fX4_isColumn
  by_cases z : n < 5
  · rw [if_pos (by rw [iv_5, iv_lt (by omega) (by omega)]; omega), if_pos z]; exact zr_0
  · rw [if_neg (by rw [iv_5, iv_lt (by omega) (by omega)]; omega), if_neg z]; exact zr_1
/-- a node: what its line is -/
def nd (W H m : Nat) (col : Int32) (line first : Nat) : Prop := (m < 5 ∧ m < H ∧ col = 0 ∧ line = m ∧ first = 5) ∨ (5 ≤ m ∧ m < 5 + W ∧ col = 1 ∧ line + 5 = m ∧ first = 0)
section CSUM
variable {W H : Nat} {lo hi f op : Nat → Int} {w : Wd}
theorem nd_line {m : Nat} {col : Int32} {line first : Nat} (h : nd W H m col line first) : line < nL W H col := by
  rcases h with ⟨_, h2, rfl, rfl, _⟩ | ⟨_, h2, rfl, h3, _⟩
  · exact h2
  · show line < W; omega
theorem nd_far (h2 : W ≤ 5) (h4 : H ≤ 5) {m : Nat} {col : Int32} {line first : Nat} (h : nd W H m col line first) {far : Nat} (hf : far < lL W H col) : nOK H W (first + far) ∧ first + far < 10 ∧ onL W col line far = ec (eR W) m (first + far) ∧ opp m (first + far) := by
  unfold nOK opp ec eR
  rcases h with ⟨h1, h2', rfl, rfl, rfl⟩ | ⟨h1, h2', rfl, h3, rfl⟩
  · have hf' : far < W := hf
    refine ⟨Or.inr ⟨by omega, by omega⟩, by omega, ?_, Or.inl ⟨h1, by omega⟩⟩
    rw [if_pos h1, show 5 + far - 5 = far by omega]; rfl
  · have hf' : far < H := hf
    refine ⟨Or.inl (by omega), by omega, ?_, Or.inr ⟨h1, by omega⟩⟩
    rw [if_neg (by omega), show 0 + far = far by omega, show m - 5 = line by omega]; rfl
theorem nd_all {m : Nat} {col : Int32} {line first : Nat} (h4 : H ≤ 5) (h : nd W H m col line first) {n : Nat} (hn : nOK H W n) (ho : opp m n) : ∃ far, far < lL W H col ∧ n = first + far := by
  unfold nOK at hn
  unfold opp at ho
  rcases h with ⟨h1, h2', rfl, rfl, rfl⟩ | ⟨h1, h2', rfl, h3, rfl⟩
  · exact ⟨n - 5, by show n - 5 < W; omega, by omega⟩
  · exact ⟨n, by show n < H; omega, by omega⟩
theorem nd_ok {m : Nat} {col : Int32} {line first : Nat} (h : nd W H m col line first) : nOK H W m := by
  unfold nOK
  rcases h with ⟨h1, h2', _⟩ | ⟨h1, h2', _⟩
  · exact Or.inl h2'
  · exact Or.inr ⟨h1, h2'⟩
theorem passes_s (hN : W * H ≤ 25) (hs : SA W H lo hi f op w) (hb : BH (W * H) lo hi f) {m : Nat} {col : Int32} {line first : Nat} (hn : nd W H m col line first) {n : Nat} (hc : ec (eR W) m n < W * H) : (ps (eR W) lo hi f m n → fX4_passes col (iv (ec (eR W) m n : Nat)) w = some (1, w)) ∧ (¬ ps (eR W) lo hi f m n → fX4_passes col (iv (ec (eR W) m n : Nat)) w = some (0, w)) := by
  have hb' := hb _ hc
  have hs' := hs.1 _ hc
  unfold fX4_passes ps
  rcases hn with ⟨h1, _, rfl, _⟩ | ⟨h1, _, rfl, _⟩
  · rw [if_pos rfl, gI_iv (by rw [LI_83]; omega) (by rw [LI_83]; omega), bind_s, gI_iv (by rw [LI_85]; omega) (by rw [LI_85]; omega), bind_s, hs'.1, hs'.2.2, if_pos h1]
    refine ⟨fun z => ?_, fun z => ?_⟩
    · rw [if_neg (by rw [iv_le (by omega) (by omega)]; omega)]; exact zr_1
    · rw [if_pos (by rw [iv_le (by omega) (by omega)]; omega)]; exact zr_0
  · rw [if_neg (show ¬ (1 : Int32) = 0 by decide), gI_iv (by rw [LI_83]; omega) (by rw [LI_83]; omega), bind_s, gI_iv (by rw [LI_84]; omega) (by rw [LI_84]; omega), bind_s, hs'.1, hs'.2.1, if_neg (by omega)]
    refine ⟨fun z => ?_, fun z => ?_⟩
    · rw [if_neg (by rw [iv_le (by omega) (by omega)]; omega)]; exact zr_1
    · rw [if_pos (by rw [iv_le (by omega) (by omega)]; omega)]; exact zr_0
/-- how the search came to a node -/
def TC (W : Nat) (lo hi f : Nat → Int) (st : Nat) (rk : Nat → Nat) (w' : Wd) (n : Nat) : Prop := n ≠ st → ∃ m, m < 10 ∧ w'.1 87 n = iv (m : Nat) ∧ w'.1 87 m ≠ -1 ∧ rk m < rk n ∧ opp m n ∧ w'.1 88 n = iv (ec (eR W) m n : Nat) ∧ ps (eR W) lo hi f m n
def TW (W H : Nat) (lo hi f : Nat → Int) (st : Nat) (rk : Nat → Nat) (w' : Wd) (b : Nat) : Prop := ∀ n, n < 10 → w'.1 87 n ≠ -1 → nOK H W n ∧ rk n < b ∧ TC W lo hi f st rk w' n
def BI (W H : Nat) (lo hi f op : Nat → Int) (st : Nat) (w0 : Wd) (fd : Nat) (q rk : Nat → Nat) (w' : Wd) : Prop := (1 ≤ fd ∧ fd ≤ 10) ∧ (∀ i, i < fd → w'.1 89 i = iv (q i : Nat) ∧ q i < 10 ∧ w'.1 87 (q i) ≠ -1) ∧ TW W H lo hi f st rk w' fd ∧ (∀ n, n < 10 → w'.1 87 n ≠ -1 → (∃ i, i < fd ∧ q i = n) ∧ (n ≠ st → op n ≤ 0)) ∧ w'.1 87 st ≠ -1 ∧ sm (fun n => if w'.1 87 n = -1 then (0 : Int) else 1) 10 = fd ∧ Kp (fun k => k ≠ 87 ∧ k ≠ 88 ∧ k ≠ 89) w0 w'
/-- all that may be come to from a node is come to -/
def PRC (W H : Nat) (lo hi f : Nat → Int) (w' : Wd) (m : Nat) : Prop := ∀ n, nOK H W n → opp m n → ps (eR W) lo hi f m n → w'.1 87 n ≠ -1
theorem add_tree {st : Nat} {rk : Nat → Nat} {w' w2 : Wd} {fd m n : Nat} (h : TW W H lo hi f st rk w' fd) (hst : w'.1 87 st ≠ -1) (hm : m < 10) (hm1 : w'.1 87 m ≠ -1) (hmr : rk m < fd) (hn : nOK H W n) (hn1 : w'.1 87 n = -1) (ho : opp m n) (hp : ps (eR W) lo hi f m n) (e7 : ∀ k, w2.1 87 k = if k = n then iv (m : Nat) else w'.1 87 k) (e8 : ∀ k, w2.1 88 k = if k = n then iv (ec (eR W) m n : Nat) else w'.1 88 k) : TW W H lo hi f st (fun k => if k = n then fd else rk k) w2 (fd + 1) := by
  intro k hk hk1
  have hne : ∀ j, w'.1 87 j ≠ -1 → j ≠ n := fun j hj z => hj (z ▸ hn1)
  by_cases z : k = n
  · subst z
    refine ⟨hn, ?_, fun _ => ⟨m, hm, ?_, ?_, ?_, ho, ?_, hp⟩⟩
    · show (if k = k then fd else rk k) < fd + 1
      rw [if_pos rfl]; omega
    · rw [e7, if_pos rfl]
    · rw [e7, if_neg (hne m hm1)]; exact hm1
    · show (if m = k then fd else rk m) < (if k = k then fd else rk k)
      rw [if_pos rfl, if_neg (hne m hm1)]; exact hmr
    · rw [e8, if_pos rfl]
  · rw [e7, if_neg z] at hk1
    obtain ⟨a1, a2, a3⟩ := h k hk hk1
    refine ⟨a1, ?_, fun hs => ?_⟩
    · show (if k = n then fd else rk k) < fd + 1
      rw [if_neg z]; omega
    · obtain ⟨m', b1, b2, b3, b4, b5, b6, b7⟩ := a3 hs
      refine ⟨m', b1, ?_, ?_, ?_, b5, ?_, b7⟩
      · rw [e7, if_neg z]; exact b2
      · rw [e7, if_neg (hne m' b3)]; exact b3
      · show (if m' = n then fd else rk m') < (if k = n then fd else rk k)
        rw [if_neg z, if_neg (hne m' b3)]; exact b4
      · rw [e8, if_neg z]; exact b6
theorem SA.kept {w' : Wd} (h : SA W H lo hi f op w) (hk : Kp (fun k => k ≠ 87 ∧ k ≠ 88 ∧ k ≠ 89) w w') : SA W H lo hi f op w' := by
  refine ⟨fun c hc => ?_, fun n hn => ?_⟩
  · rw [(hk 83 (by omega)).1, (hk 84 (by omega)).1, (hk 85 (by omega)).1]; exact h.1 c hc
  · rw [(hk 86 (by omega)).1]; exact h.2 n hn
theorem BI.room {st : Nat} {w0 w' : Wd} {fd : Nat} {q rk : Nat → Nat} (h : BI W H lo hi f op st w0 fd q rk w') {n : Nat} (hn : n < 10) (h1 : w'.1 87 n = -1) : fd < 10 := by
  have hlt : sm (fun n => if w'.1 87 n = -1 then (0 : Int) else 1) 10 < sm (fun _ => (1 : Int)) 10 := sm_lt (fun c _ => by
    show (if w'.1 87 c = -1 then (0 : Int) else 1) ≤ 1
    split <;> omega) ⟨n, hn, by show (if w'.1 87 n = -1 then (0 : Int) else 1) < 1; rw [if_pos h1]; omega⟩
  rw [h.2.2.2.2.2.1] at hlt
  have : sm (fun _ => (1 : Int)) 10 = 10 := by decide
  omega
theorem findOpen_in (hg : Gnd W H w) (hs : SA W H lo hi f op w) (hb : BH (W * H) lo hi f) {st : Nat} {p1 : Int32} (Q : Option (Int32 × Wd) → Prop) {k26 : Int32 → Int32 → Wd → Option (Int32 × Wd)} {i fd : Nat} {q rk : Nat → Nat} {w' : Wd} (hif : i < fd) (hB : BI W H lo hi f op st w fd q rk w') (hpr : ∀ i', i' < i → PRC W H lo hi f w' (q i')) {col : Int32} {line first : Nat} (hn : nd W H (q i) col line first) (hk : ∀ fd' q' rk' w'', BI W H lo hi f op st w fd' q' rk' w'' → (∀ i', i' < i + 1 → i' < fd' → PRC W H lo hi f w'' (q' i')) → Q (k26 (iv (fd' : Nat)) (iv ((i + 1 : Nat) : Int)) w'')) (hfnd : ∀ en rk' w'', en < 10 → en ≠ st → 0 < op en → w''.1 87 en ≠ -1 → TW W H lo hi f st rk' w'' 11 → Kp (fun k => k ≠ 87 ∧ k ≠ 88 ∧ k ≠ 89) w w'' → Q (some (iv (en : Nat), w''))) : Q (lp (fun _ _ _ _ _ _ _ _ => none) (bX4_findOpen_83 p1 k26) G (iv fd) (iv i) (iv (q i : Nat)) col (iv line) (iv first) (0 : Int32) w') := by
  have hN := WH_le hg.1.2.1 hg.1.2.2.2.1
  have hL := lL_le hg.1.2.1 hg.1.2.2.2.1 col
  have hln := nd_line hn
  generalize hm : q i = m at hn ⊢
  refine lpG (fun (F : Int32 → Int32 → Int32 → Int32 → Int32 → Int32 → Int32 → Wd → Option (Int32 × Wd)) (s : Int32 × Int32 × Wd) => F s.1 (iv i) (iv m) col (iv line) (iv first) s.2.1 s.2.2) Q (fun mm s => ∃ far fd q rk, s.2.1 = iv (far : Nat) ∧ mm = lL W H col - far ∧ far ≤ lL W H col ∧ s.1 = iv (fd : Nat) ∧ i < fd ∧ q i = m ∧ BI W H lo hi f op st w fd q rk s.2.2 ∧ (∀ i', i' < i → PRC W H lo hi f s.2.2 (q i')) ∧ (∀ far', far' < far → ps (eR W) lo hi f m (first + far') → s.2.2.1 87 (first + far') ≠ -1)) ?_ G (lL W H col) (iv fd, (0 : Int32), w') (hGn (by omega)) ⟨0, fd, q, rk, rfl, by omega, by omega, rfl, hif, hm, hB, hpr, fun far' h => by omega⟩
  rintro mm ⟨x, y, w1⟩ k ⟨far, fd, q, rk, rfl, rfl, hfar, rfl, hif, hm, hB, hpr, hdn⟩
  have hg' : Gnd W H w1 := hg.kept (hB.2.2.2.2.2.2.weak fun k z => by omega)
  have hs' : SA W H lo hi f op w1 := hs.kept hB.2.2.2.2.2.2
  show (∃ (s' : Int32 × Int32 × Wd) (m' : Nat), m' < lL W H col - far ∧ bX4_findOpen_83 p1 k26 k (iv fd) (iv i) (iv m) col (iv line) (iv first) (iv far) w1 = k s'.1 (iv i) (iv m) col (iv line) (iv first) s'.2.1 s'.2.2 ∧ _) ∨ Q (bX4_findOpen_83 p1 k26 k (iv fd) (iv i) (iv m) col (iv line) (iv first) (iv far) w1)
  unfold bX4_findOpen_83 jX4_findOpen_192
  rw [length_s hg'.1, bnd_s]
  by_cases z : far = lL W H col
  · right
    rw [if_pos (by rw [iv_le (by omega) (by omega)]; omega), iv_s1]
    refine hk fd q rk w1 hB (fun i' h1 h2 => ?_)
    by_cases y : i' = i
    · subst y
      rw [hm]
      intro n a1 a2 a3
      obtain ⟨far', b1, rfl⟩ := nd_all hg.1.2.2.2.1 hn a1 a2
      exact hdn far' (by omega) a3
    · exact hpr i' (by omega)
  · have hlt : far < lL W H col := by omega
    obtain ⟨n1, n2, n3, n4⟩ := nd_far hg.1.2.1 hg.1.2.2.2.1 hn hlt
    have ho := onL_lt hln hlt
    rw [if_neg (by rw [iv_le (by omega) (by omega)]; omega), onLine_s hg'.1, bnd_s, n3, iv_addN]
    rw [n3] at ho
    generalize hnn : first + far = n at n1 n2 n3 n4 ho ⊢
    have stay : ∀ W2 : Wd, W2 = w1 → (ps (eR W) lo hi f m n → w1.1 87 n ≠ -1) → ∃ (s' : Int32 × Int32 × Wd) (m' : Nat), m' < lL W H col - far ∧ k (iv fd) (iv i) (iv m) col (iv line) (iv first) (iv ((far + 1 : Nat) : Int)) w1 = k s'.1 (iv i) (iv m) col (iv line) (iv first) s'.2.1 s'.2.2 ∧ ∃ far fd q rk, s'.2.1 = iv (far : Nat) ∧ m' = lL W H col - far ∧ far ≤ lL W H col ∧ s'.1 = iv (fd : Nat) ∧ i < fd ∧ q i = m ∧ BI W H lo hi f op st w fd q rk s'.2.2 ∧ (∀ i', i' < i → PRC W H lo hi f s'.2.2 (q i')) ∧ (∀ far', far' < far → ps (eR W) lo hi f m (first + far') → s'.2.2.1 87 (first + far') ≠ -1) := fun _ _ hp => ⟨(iv fd, iv ((far + 1 : Nat) : Int), w1), lL W H col - (far + 1), by omega, rfl, far + 1, fd, q, rk, rfl, rfl, by omega, rfl, hif, hm, hB, hpr, fun far' h1 h2 => by
      by_cases y : far' = far
      · subst y; rw [hnn] at h2 ⊢; exact hp h2
      · exact hdn far' (by omega) h2⟩
    rw [gI_iv (by rw [LI_87]; omega) (by rw [LI_87]; omega), bind_s]
    by_cases e1 : w1.1 87 n = -1
    · have hfd0 := hB.room n2 e1
      rw [if_pos e1, if_neg (by rw [iv_10, iv_le (by omega) (by omega)]; omega)]
      by_cases hp : ps (eR W) lo hi f m n
      · have hfd := hB.room n2 e1
        have hq := hB.2.1 i hif
        rw [hm] at hq
        have r7 : ∀ k, (uI (uI w1 87 n (iv m)) 88 n (iv (ec (eR W) m n : Nat))).1 87 k = if k = n then iv m else w1.1 87 k := fun k => by
          rw [uI_row (by omega)]
          by_cases y : k = n
          · subst y; rw [if_pos rfl, uI_same]
          · rw [if_neg y, uI_other (Or.inr y)]
        have r8 : ∀ k, (uI (uI w1 87 n (iv m)) 88 n (iv (ec (eR W) m n : Nat))).1 88 k = if k = n then iv (ec (eR W) m n : Nat) else w1.1 88 k := fun k => by
          by_cases y : k = n
          · subst y; rw [if_pos rfl, uI_same]
          · rw [if_neg y, uI_other (Or.inr y), uI_row (by omega)]
        have hmr := (hB.2.2.1 m hq.2.1 hq.2.2).2.1
        have hns : n ≠ st := fun y => hB.2.2.2.2.1 (y ▸ e1)
        rw [(passes_s hN hs' hb hn ho).1 hp, bnd_s, if_neg (by decide), sI_iv (by rw [LI_87]; omega) (by rw [LI_87]; omega), bind_s, sI_iv (by rw [LI_88]; omega) (by rw [LI_88]; omega), bind_s, gI_iv (by rw [LI_86]; omega) (by rw [LI_86]; omega), bind_s, uI_row (by omega), uI_row (by omega), (hs'.2 n n2).1]
        have hop := (hs'.2 n n2).2
        by_cases e2 : 0 < op n
        · right
          rw [if_neg (by rw [iv_0, iv_le (by omega) (by omega)]; omega)]
          refine hfnd n (fun k => if k = n then fd else rk k) _ n2 hns e2 ?_ (fun k h1 h2 => ?_) (hB.2.2.2.2.2.2.trans ((Kp.uI (fun z => z.1 rfl)).trans (Kp.uI (fun z => z.2.1 rfl))))
          · rw [r7, if_pos rfl]; exact iv_ne_m1 (by omega)
          · have := add_tree hB.2.2.1 hB.2.2.2.2.1 hq.2.1 hq.2.2 hmr n1 e1 n4 hp r7 r8 k h1 h2
            exact ⟨this.1, by have := this.2.1; omega, this.2.2⟩
        · left
          rw [if_pos (by rw [iv_0, iv_le (by omega) (by omega)]; omega), sI_iv (by rw [LI_89]; omega) (by rw [LI_89]; omega), bind_s, iv_s1, iv_s1]
          have s7 : ∀ k, (uI (uI (uI w1 87 n (iv m)) 88 n (iv (ec (eR W) m n : Nat))) 89 fd (iv n)).1 87 k = if k = n then iv m else w1.1 87 k := fun k => by rw [uI_row (by omega)]; exact r7 k
          have s8 : ∀ k, (uI (uI (uI w1 87 n (iv m)) 88 n (iv (ec (eR W) m n : Nat))) 89 fd (iv n)).1 88 k = if k = n then iv (ec (eR W) m n : Nat) else w1.1 88 k := fun k => by rw [uI_row (by omega)]; exact r8 k
          have s9' : ∀ k, (uI (uI (uI w1 87 n (iv m)) 88 n (iv (ec (eR W) m n : Nat))) 89 fd (iv n)).1 89 k = if k = fd then iv n else w1.1 89 k := fun k => by
            by_cases y : k = fd
            · subst y; rw [if_pos rfl, uI_same]
            · rw [if_neg y, uI_other (Or.inr y), uI_row (by omega), uI_row (by omega)]
          have kp2 : Kp (fun k => k ≠ 87 ∧ k ≠ 88 ∧ k ≠ 89) w1 (uI (uI (uI w1 87 n (iv m)) 88 n (iv (ec (eR W) m n : Nat))) 89 fd (iv n)) := (Kp.uI (fun z => z.1 rfl)).trans ((Kp.uI (fun z => z.2.1 rfl)).trans (Kp.uI (fun z => z.2.2 rfl)))
          generalize hW2 : uI (uI (uI w1 87 n (iv m)) 88 n (iv (ec (eR W) m n : Nat))) 89 fd (iv n) = W2 at s7 s8 s9' kp2 ⊢
          have keep : ∀ k, w1.1 87 k ≠ -1 → W2.1 87 k ≠ -1 := fun k hk' => by
            have hkn : ¬ k = n := fun y => hk' (by rw [y]; exact e1)
            rw [s7, if_neg hkn]; exact hk'
          have new : W2.1 87 n ≠ -1 := by
            rw [s7, if_pos rfl]; exact iv_ne_m1 (by omega)
          refine ⟨(iv ((fd + 1 : Nat) : Int), iv ((far + 1 : Nat) : Int), W2), lL W H col - (far + 1), by omega, rfl, far + 1, fd + 1, fun i' => if i' = fd then n else q i', fun k => if k = n then fd else rk k, rfl, rfl, by omega, rfl, by omega, by show (if i = fd then n else q i) = m; rw [if_neg (by omega)]; exact hm, ⟨⟨by omega, by omega⟩, fun i' hi' => ?_, add_tree hB.2.2.1 hB.2.2.2.2.1 hq.2.1 hq.2.2 hmr n1 e1 n4 hp s7 s8, fun k h1 h2 => ?_, keep st hB.2.2.2.2.1, ?_, hB.2.2.2.2.2.2.trans kp2⟩, fun i' hi' n' a1 a2 a3 => ?_, fun far' h1 h2 => ?_⟩
          · show W2.1 89 i' = iv ((if i' = fd then n else q i' : Nat) : Int) ∧ (if i' = fd then n else q i') < 10 ∧ W2.1 87 (if i' = fd then n else q i') ≠ -1
            by_cases y : i' = fd
            · rw [if_pos y, s9', if_pos y]
              exact ⟨rfl, n2, new⟩
            · rw [if_neg y, s9', if_neg y]
              have hb' := hB.2.1 i' (by omega)
              exact ⟨hb'.1, hb'.2.1, keep _ hb'.2.2⟩
          · by_cases y : k = n
            · subst y
              exact ⟨⟨fd, by omega, if_pos rfl⟩, fun _ => by omega⟩
            · have h2' : W2.1 87 k ≠ -1 := h2
              rw [s7, if_neg y] at h2'
              obtain ⟨⟨i', c1, c2⟩, c3⟩ := hB.2.2.2.1 k h1 h2'
              exact ⟨⟨i', by omega, by show (if i' = fd then n else q i') = k; rw [if_neg (by omega)]; exact c2⟩, c3⟩
          · have e9 : sm (fun k => if W2.1 87 k = -1 then (0 : Int) else 1) 10 = sm (fun k => if w1.1 87 k = -1 then (0 : Int) else 1) 10 + 1 := sm_one (m := n) n2 (fun c hc hne => by
              show (if W2.1 87 c = -1 then (0 : Int) else 1) = (if w1.1 87 c = -1 then (0 : Int) else 1)
              rw [s7, if_neg hne]) (by
              show (if W2.1 87 n = -1 then (0 : Int) else 1) = (if w1.1 87 n = -1 then (0 : Int) else 1) + 1
              rw [if_neg new, if_pos e1]; rfl)
            have e8 : sm (fun k => if w1.1 87 k = -1 then (0 : Int) else 1) 10 = fd := hB.2.2.2.2.2.1
            show sm (fun k => if W2.1 87 k = -1 then (0 : Int) else 1) 10 = ((fd + 1 : Nat) : Int)
            rw [e9, e8]; omega
          · have hne : (if i' = fd then n else q i') = q i' := if_neg (by omega)
            have a2' : opp (if i' = fd then n else q i') n' := a2
            have a3' : ps (eR W) lo hi f (if i' = fd then n else q i') n' := a3
            rw [hne] at a2' a3'
            exact keep n' (hpr i' hi' n' a1 a2' a3')
          · by_cases y : far' = far
            · subst y; rw [hnn]; exact new
            · exact keep _ (hdn far' (by omega) h2)
      · rw [(passes_s hN hs' hb hn ho).2 hp, bnd_s, if_pos rfl, iv_s1]
        exact Or.inl (stay w1 rfl (fun z => absurd z hp))
    · rw [if_neg e1, iv_s1]
      exact Or.inl (stay w1 rfl (fun _ => e1))
end CSUM
section CSUM2
variable {W H : Nat} {lo hi f op : Nat → Int} {w : Wd}
theorem nOK_lt (h2 : W ≤ 5) (h4 : H ≤ 5) {n : Nat} (h : nOK H W n) : n < 10 := by unfold nOK at h; omega
/-- what the search says where it ends in nothing -/
def CL (W H : Nat) (lo hi f op : Nat → Int) (st : Nat) (S : Nat → Prop) : Prop := S st ∧ (∀ n, S n → n ≠ st → op n ≤ 0) ∧ (∀ m n, S m → nOK H W n → opp m n → ps (eR W) lo hi f m n → S n)
theorem findOpen_s (hg : Gnd W H w) (hs : SA W H lo hi f op w) (hb : BH (W * H) lo hi f) {st : Nat} (hst : nOK H W st) : ∃ x w1, fX4_findOpen (iv st) w = some (x, w1) ∧ Kp (fun k => k ≠ 87 ∧ k ≠ 88 ∧ k ≠ 89) w w1 ∧ ((x = -1 ∧ ∃ S, CL W H lo hi f op st S) ∨ (∃ en rk, x = iv (en : Nat) ∧ en < 10 ∧ en ≠ st ∧ 0 < op en ∧ w1.1 87 en ≠ -1 ∧ TW W H lo hi f st rk w1 11)) := by
  have h10 := nOK_lt hg.1.2.1 hg.1.2.2.2.1 hst
  obtain ⟨wa, a1, a2, a3⟩ := fill_s (k := 87) (by rw [LI_87]; omega) (by rw [LI_87]; omega) (-1) w
  unfold fX4_findOpen
  rw [a1, bnd_s, sI_iv (by rw [LI_87]; omega) (by rw [LI_87]; omega), bind_s, iv_0, show iv 0 = iv ((0 : Nat) : Int) from rfl, sI_iv (by rw [LI_89]; omega) (by rw [LI_89]; omega), bind_s]
  have r7 : ∀ k, k < 10 → (uI (uI wa 87 st (iv st)) 89 0 (iv st)).1 87 k = if k = st then iv st else -1 := fun k hk => by
    rw [uI_row (by omega)]
    by_cases y : k = st
    · subst y; rw [if_pos rfl, uI_same]
    · rw [if_neg y, uI_other (Or.inr y)]; exact a2 k (by rw [LI_87]; omega)
  have only : ∀ k, k < 10 → (uI (uI wa 87 st (iv st)) 89 0 (iv st)).1 87 k ≠ -1 → k = st := fun k hk h => by
    rw [r7 k hk] at h
    by_cases y : k = st
    · exact y
    · rw [if_neg y] at h; exact absurd rfl h
  have hs1 : (uI (uI wa 87 st (iv st)) 89 0 (iv st)).1 87 st ≠ -1 := by
    rw [r7 st h10, if_pos rfl]; exact iv_ne_m1 (by omega)
  have none_ : ∀ fd q rk w', BI W H lo hi f op st w fd q rk w' → (∀ i', i' < fd → PRC W H lo hi f w' (q i')) → ∃ S, CL W H lo hi f op st S := fun fd q rk w' hB hp => ⟨fun n => n < 10 ∧ w'.1 87 n ≠ -1, ⟨h10, hB.2.2.2.2.1⟩, fun n hn hne => (hB.2.2.2.1 n hn.1 hn.2).2 hne, fun m n hm hn ho hpp => by
    obtain ⟨⟨i', c1, c2⟩, _⟩ := hB.2.2.2.1 m hm.1 hm.2
    exact ⟨nOK_lt hg.1.2.1 hg.1.2.2.2.1 hn, hp i' c1 n hn (by rw [c2]; exact ho) (by rw [c2]; exact hpp)⟩⟩
  refine lpB (m := 10) (fun r => ∃ x w1, r = some (x, w1) ∧ Kp (fun k => k ≠ 87 ∧ k ≠ 88 ∧ k ≠ 89) w w1 ∧ ((x = -1 ∧ ∃ S, CL W H lo hi f op st S) ∨ (∃ en rk, x = iv (en : Nat) ∧ en < 10 ∧ en ≠ st ∧ 0 < op en ∧ w1.1 87 en ≠ -1 ∧ TW W H lo hi f st rk w1 11))) (fun i x w' => ∃ fd q rk, x = iv (fd : Nat) ∧ BI W H lo hi f op st w fd q rk w' ∧ (∀ i', i' < i → i' < fd → PRC W H lo hi f w' (q i'))) ?_ ?_ (hGn (by omega)) ⟨1, fun _ => st, fun _ => 0, rfl, ⟨⟨by omega, by omega⟩, fun i hi => ?_, fun n hn h1 => ?_, fun n hn h1 => ?_, hs1, ?_, ?_⟩, fun i' h => by omega⟩
  · rintro i x w' k hi10 ⟨fd, q, rk, rfl, hB, hp⟩
    have hfd := hB.1
    unfold bX4_findOpen_26
    by_cases z : fd ≤ i
    · right
      rw [if_pos (by rw [iv_le (by omega) (by omega)]; omega)]
      exact ⟨_, w', rfl, hB.2.2.2.2.2.2, Or.inl ⟨rfl, none_ fd q rk w' hB (fun i' h => hp i' (by omega) h)⟩⟩
    · have hq := hB.2.1 i (by omega)
      have hqo := (hB.2.2.1 (q i) hq.2.1 hq.2.2).1
      rw [if_neg (by rw [iv_le (by omega) (by omega)]; omega), if_neg (by rw [iv_10, iv_le (by omega) (by omega)]; omega), gI_iv (by rw [LI_89]; omega) (by rw [LI_89]; omega), bind_s, hq.1, isColumn_s hq.2.1, bnd_s]
      have fin : ∀ (col : Int32) (line first : Nat), nd W H (q i) col line first → (∃ x' w'', lp (fun _ _ _ _ _ _ _ _ => none) (bX4_findOpen_83 (iv st) k) G (iv fd) (iv i) (iv (q i : Nat)) col (iv line) (iv first) (0 : Int32) w' = k x' (iv ((i + 1 : Nat) : Int)) w'' ∧ ∃ fd q rk, x' = iv (fd : Nat) ∧ BI W H lo hi f op st w fd q rk w'' ∧ (∀ i', i' < i + 1 → i' < fd → PRC W H lo hi f w'' (q i'))) ∨ (∃ x w1, lp (fun _ _ _ _ _ _ _ _ => none) (bX4_findOpen_83 (iv st) k) G (iv fd) (iv i) (iv (q i : Nat)) col (iv line) (iv first) (0 : Int32) w' = some (x, w1) ∧ Kp (fun k => k ≠ 87 ∧ k ≠ 88 ∧ k ≠ 89) w w1 ∧ ((x = -1 ∧ ∃ S, CL W H lo hi f op st S) ∨ (∃ en rk, x = iv (en : Nat) ∧ en < 10 ∧ en ≠ st ∧ 0 < op en ∧ w1.1 87 en ≠ -1 ∧ TW W H lo hi f st rk w1 11))) := fun col line first hn =>
        findOpen_in hg hs hb (fun r => (∃ x' w'', r = k x' (iv ((i + 1 : Nat) : Int)) w'' ∧ ∃ fd q rk, x' = iv (fd : Nat) ∧ BI W H lo hi f op st w fd q rk w'' ∧ (∀ i', i' < i + 1 → i' < fd → PRC W H lo hi f w'' (q i'))) ∨ (∃ x w1, r = some (x, w1) ∧ Kp (fun k => k ≠ 87 ∧ k ≠ 88 ∧ k ≠ 89) w w1 ∧ ((x = -1 ∧ ∃ S, CL W H lo hi f op st S) ∨ (∃ en rk, x = iv (en : Nat) ∧ en < 10 ∧ en ≠ st ∧ 0 < op en ∧ w1.1 87 en ≠ -1 ∧ TW W H lo hi f st rk w1 11)))) (show i < fd by omega) hB (fun i' h => hp i' h (by omega)) hn (fun fd' q' rk' w'' hB' hp' => Or.inl ⟨_, w'', rfl, fd', q', rk', rfl, hB', hp'⟩) (fun en rk' w'' b1 b2 b3 b4 b5 b6 => Or.inr ⟨_, w'', rfl, b6, Or.inr ⟨en, rk', rfl, b1, b2, b3, b4, b5⟩⟩)
      have hH5 := hg.1.2.2.2.1
      unfold jX4_findOpen_66 jX4_findOpen_78
      unfold nOK at hqo
      by_cases y : q i < 5
      · rw [if_pos y, if_pos rfl, if_pos rfl, iv_5]
        exact fin 0 (q i) 5 (Or.inl ⟨y, by omega, rfl, rfl, rfl⟩)
      · rw [if_neg y, if_neg (by decide), if_neg (by decide), iv_5, iv_sub, show ((q i : Nat) : Int) - 5 = ((q i - 5 : Nat) : Int) by omega]
        exact fin 1 (q i - 5) 0 (Or.inr ⟨by omega, by omega, rfl, by omega, rfl⟩)
  · rintro x w' k ⟨fd, q, rk, rfl, hB, hp⟩
    have hfd := hB.1
    unfold bX4_findOpen_26
    rw [if_pos (by rw [iv_le (by omega) (by omega)]; omega)]
    exact ⟨_, w', rfl, hB.2.2.2.2.2.2, Or.inl ⟨rfl, none_ fd q rk w' hB (fun i' h => hp i' (by omega) h)⟩⟩
  · have : i = 0 := by omega
    subst this
    exact ⟨uI_same, h10, hs1⟩
  · have := only n hn h1
    subst this
    exact ⟨hst, by show (0 : Nat) < 1; omega, fun y => absurd rfl y⟩
  · have := only n hn h1
    subst this
    exact ⟨⟨0, by omega, rfl⟩, fun y => absurd rfl y⟩
  · have e1 : sm (fun n => if (uI (uI wa 87 st (iv st)) 89 0 (iv st)).1 87 n = -1 then (0 : Int) else 1) 10 = sm (fun n => if st = n then (1 : Int) else 0) 10 := sm_congr (fun n hn => by
      rw [r7 n hn]
      by_cases y : n = st
      · rw [if_pos y, if_pos y.symm, if_neg (iv_ne_m1 (by omega))]
      · rw [if_neg y, if_pos rfl, if_neg (fun q => y q.symm)])
    rw [e1, sm_pick (fun _ => 1) h10]; rfl
  · exact (a3.weak fun k z => z.1).trans ((Kp.uI (fun z => z.1 rfl)).trans (Kp.uI (fun z => z.2.2 rfl)))
/-- a cube is moved along a way from a node to one that is open; or no way is there -/
theorem push_s (hg : Gnd W H w) (hs : SA W H lo hi f op w) (hb : BH (W * H) lo hi f) {st : Nat} (hst : nOK H W st) : ∃ w1, Kp (fun k => k ≠ 83 ∧ k ≠ 86 ∧ k ≠ 87 ∧ k ≠ 88 ∧ k ≠ 89) w w1 ∧ ((fX4_push (iv st) w = some (0, w1) ∧ SA W H lo hi f op w1 ∧ ∃ S, CL W H lo hi f op st S) ∨ (∃ en f', fX4_push (iv st) w = some (1, w1) ∧ nOK H W en ∧ en ≠ st ∧ 0 < op en ∧ SA W H lo hi f' (pu op en (op en - 1)) w1 ∧ BH (W * H) lo hi f' ∧ (∀ i, i < H → lS W (eR W) f' i = lS W (eR W) f i + (if st = i then 1 else 0) - (if en = i then 1 else 0)) ∧ (∀ j, j < W → hS H (eR W) f' j = hS H (eR W) f j - (if st = 5 + j then 1 else 0) + (if en = 5 + j then 1 else 0)))) := by
  have hN := WH_le hg.1.2.1 hg.1.2.2.2.1
  have hE := eR_ok hg.1.1 hg.1.2.1 hg.1.2.2.2.1
  have h10 := nOK_lt hg.1.2.1 hg.1.2.2.2.1 hst
  obtain ⟨x, w1, a1, a2, a3⟩ := findOpen_s hg hs hb hst
  have hs1 := hs.kept a2
  unfold fX4_push
  rw [a1, bnd_s]
  rcases a3 with ⟨rfl, hS⟩ | ⟨en, rk, rfl, b1, b2, b3, b4, b5⟩
  · refine ⟨w1, a2.weak fun k z => z.2.2, Or.inl ⟨?_, hs1, hS⟩⟩
    rw [if_pos rfl]; exact zr_0
  · have hop := (hs1.2 en b1)
    rw [if_neg (iv_ne_m1 (by omega)), gI_iv (by rw [LI_86]; omega) (by rw [LI_86]; omega), bind_s, sI_iv (by rw [LI_86]; omega) (by rw [LI_86]; omega), bind_s, hop.1, iv_1, iv_sub]
    -- the tree
    have hpar : ∃ par : Nat → Nat, ∀ n, n < 10 → w1.1 87 n ≠ -1 → n ≠ st → par n < 10 ∧ w1.1 87 n = iv (par n : Nat) ∧ w1.1 87 (par n) ≠ -1 ∧ rk (par n) < rk n ∧ opp (par n) n ∧ w1.1 88 n = iv (ec (eR W) (par n) n : Nat) ∧ ps (eR W) lo hi f (par n) n := by
      refine ⟨fun n => if h : n < 10 ∧ w1.1 87 n ≠ -1 ∧ n ≠ st then ((b5 n h.1 h.2.1).2.2 h.2.2).choose else 0, fun n h1 h2 h3 => ?_⟩
      have hh : n < 10 ∧ w1.1 87 n ≠ -1 ∧ n ≠ st := ⟨h1, h2, h3⟩
      simp only [dif_pos hh]
      exact ((b5 n h1 h2).2.2 h3).choose_spec
    obtain ⟨par, hpar⟩ := hpar
    have T : Tre H W (eR W) lo hi f (fun n => n < 10 ∧ w1.1 87 n ≠ -1) (fun n => n = st) par rk := fun n hn => ⟨(b5 n hn.1 hn.2).1, fun hr => by
      obtain ⟨c1, c2, c3, c4, c5, c6, c7⟩ := hpar n hn.1 hn.2 hr
      exact ⟨⟨c1, c3⟩, c4, c5, c7⟩⟩
    have hbf : bdF (W * H) lo hi f := fun c hc => ⟨(hb c hc).2.1, (hb c hc).2.2.1⟩
    have key : ∃ w2 f', lp (fun _ _ _ => none) (bX4_push_28 (iv st)) G (iv en) (0 : Int32) (uI w1 86 en (iv (op en - 1))) = some (1, w2) ∧ Kp (fun k => k ≠ 83) (uI w1 86 en (iv (op en - 1))) w2 ∧ (∀ c, c < W * H → w2.1 83 c = iv (f' c)) ∧ WI H W (W * H) (eR W) lo hi f (fun n => n < 10 ∧ w1.1 87 n ≠ -1) (fun n => n = st) par rk en st f' := by
      refine lpG (fun (F : Int32 → Int32 → Wd → Option (Int32 × Wd)) (s : Int32 × Int32 × Wd) => F s.1 s.2.1 s.2.2) (fun r => ∃ w2 f', r = some (1, w2) ∧ Kp (fun k => k ≠ 83) (uI w1 86 en (iv (op en - 1))) w2 ∧ (∀ c, c < W * H → w2.1 83 c = iv (f' c)) ∧ WI H W (W * H) (eR W) lo hi f (fun n => n < 10 ∧ w1.1 87 n ≠ -1) (fun n => n = st) par rk en st f') (fun mm s => ∃ v j f', s.1 = iv (v : Nat) ∧ s.2.1 = iv (j : Nat) ∧ v < 10 ∧ w1.1 87 v ≠ -1 ∧ rk v + j ≤ 10 ∧ mm = rk v ∧ Kp (fun k => k ≠ 83) (uI w1 86 en (iv (op en - 1))) s.2.2 ∧ (∀ c, c < W * H → s.2.2.1 83 c = iv (f' c)) ∧ WI H W (W * H) (eR W) lo hi f (fun n => n < 10 ∧ w1.1 87 n ≠ -1) (fun n => n = st) par rk en v f') ?_ G (rk en) (iv en, (0 : Int32), uI w1 86 en (iv (op en - 1))) (hGn (by have := (b5 en b1 b4).2.1; omega)) ⟨en, 0, f, rfl, rfl, b1, b4, by have := (b5 en b1 b4).2.1; omega, rfl, Kp.rf, fun c hc => by rw [uI_row (by omega)]; exact (hs1.1 c hc).1, WI0 T hbf en⟩
      rintro mm ⟨x, y, w2⟩ k ⟨v, j, f', rfl, rfl, c1, c2, c3, rfl, c4, c5, c6⟩
      show (∃ (s' : Int32 × Int32 × Wd) (m' : Nat), m' < rk v ∧ bX4_push_28 (iv st) k (iv v) (iv j) w2 = k s'.1 s'.2.1 s'.2.2 ∧ _) ∨ (∃ w2' f', bX4_push_28 (iv st) k (iv v) (iv j) w2 = some (1, w2') ∧ _)
      by_cases z : v = st
      · right
        subst z
        refine ⟨w2, f', ?_, c4, c5, c6⟩
        unfold bX4_push_28
        by_cases y : 10 ≤ j
        · rw [if_pos (by rw [iv_10, iv_le (by omega) (by omega)]; omega)]; exact zr_1
        · rw [if_neg (by rw [iv_10, iv_le (by omega) (by omega)]; omega), if_pos rfl]; exact zr_1
      · left
        obtain ⟨d1, d2, d3, d4, d5, d6, d7⟩ := hpar v c1 c2 z
        obtain ⟨hN', hW⟩ := walk1 hE T (v := v) ⟨c1, c2⟩ z c6
        have k87 : w2.1 87 = w1.1 87 := by rw [(c4 87 (by omega)).1, uI_row (by omega)]
        have k88 : w2.1 88 = w1.1 88 := by rw [(c4 88 (by omega)).1, uI_row (by omega)]
        have hfb := c6.1 _ hN'
        have hbb := hb _ hN'
        unfold bX4_push_28 jX4_push_69
        rw [if_neg (by rw [iv_10, iv_le (by omega) (by omega)]; omega), if_neg (by rw [iv_eq (by omega) (by omega)]; omega), if_neg (iv_ne_m1 (by omega)), gI_iv (by rw [LI_88]; omega) (by rw [LI_88]; omega), bind_s, k88, d6, gI_iv (by rw [LI_83]; omega) (by rw [LI_83]; omega), bind_s, isColumn_s c1, bnd_s, c5 _ hN']
        refine ⟨(iv (par v : Nat), iv ((j + 1 : Nat) : Int), uI w2 83 (ec (eR W) (par v) v) (iv (f' (ec (eR W) (par v) v) + (if 5 ≤ v then 1 else -1)))), rk (par v), d4, ?_, par v, j + 1, _, rfl, rfl, d1, d3, by omega, rfl, c4.trans (Kp.uI (fun z => z rfl)), fun c hc => ?_, hW⟩
        · by_cases y : v < 5
          · rw [if_pos y, if_pos rfl, if_neg (show ¬ 5 ≤ v by omega), iv_m1, iv_add, sI_iv (by rw [LI_83]; omega) (by rw [LI_83]; omega), bind_s, gI_iv (by rw [LI_87]; omega) (by rw [LI_87]; omega), bind_s, uI_row (by omega), k87, d2, iv_s1]
          · rw [if_neg y, if_neg (by decide), if_pos (show 5 ≤ v by omega), iv_1, iv_add, sI_iv (by rw [LI_83]; omega) (by rw [LI_83]; omega), bind_s, gI_iv (by rw [LI_87]; omega) (by rw [LI_87]; omega), bind_s, uI_row (by omega), k87, d2, ← iv_1, iv_s1]
        · show (uI w2 83 (ec (eR W) (par v) v) (iv (f' (ec (eR W) (par v) v) + (if 5 ≤ v then 1 else -1)))).1 83 c = iv (pu f' (ec (eR W) (par v) v) (f' (ec (eR W) (par v) v) + (if 5 ≤ v then 1 else -1)) c)
          by_cases y : c = ec (eR W) (par v) v
          · subst y; rw [uI_same, pu_at]
          · rw [uI_other (Or.inr y), pu_ne y]; exact c5 c hc
    obtain ⟨w2, f', e1, e2, e3, e4⟩ := key
    refine ⟨w2, ?_, Or.inr ⟨en, f', e1, (b5 en b1 b4).1, b2, b3, ⟨fun c hc => ⟨e3 c hc, ?_, ?_⟩, fun n hn => ?_⟩, fun c hc => ?_, e4.2.1, e4.2.2.1⟩⟩
    · exact (a2.weak fun k z => z.2.2).trans ((Kp.uI (fun z => z.2.1 rfl)).trans (e2.weak fun k z => z.1))
    · rw [(e2 84 (by omega)).1, uI_row (by omega)]; exact (hs1.1 c hc).2.1
    · rw [(e2 85 (by omega)).1, uI_row (by omega)]; exact (hs1.1 c hc).2.2
    · rw [(e2 86 (by omega)).1]
      by_cases y : n = en
      · subst y; rw [uI_same, pu_at]; exact ⟨rfl, by omega, by omega⟩
      · rw [uI_other (Or.inr y), pu_ne y]; exact hs1.2 n hn
    · have h1 := hb c hc
      have h2 := e4.1 c hc
      omega
end CSUM2
