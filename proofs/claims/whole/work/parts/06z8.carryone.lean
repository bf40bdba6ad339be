/-! ===== carrying, the model: one cube along a way ===== -/
def anM (sr : Nat → Nat) (e : Nat) : Nat → Nat
  | 0 => e
  | n + 1 => sr (anM sr e n)
theorem anM_s (sr : Nat → Nat) (e : Nat) : ∀ n, anM sr e (n + 1) = anM sr (sr e) n
  | 0 => rfl
  | n + 1 => by
    show sr (anM sr e (n + 1)) = sr (anM sr (sr e) n)
    rw [anM_s sr e n]
theorem anM_chain {B : Nat} {hp : Nat → Prop} {sr rk : Nat → Nat} (h : ∀ v, v < B → hp v → sr v < B ∧ rk (sr v) < rk v) : ∀ k e, e < B → rk e < k → ∃ l, l ≤ rk e ∧ anM sr e l < B ∧ ¬ hp (anM sr e l) ∧ ∀ n, n < l → anM sr e n < B ∧ hp (anM sr e n)
  | 0, e, _, h2 => by omega
  | k + 1, e, h1, h2 => by
    by_cases z : hp e
    · obtain ⟨a4, a6⟩ := h e h1 z
      obtain ⟨l, b1, b2, b3, b4⟩ := anM_chain h k (sr e) a4 (by omega)
      refine ⟨l + 1, by omega, by rw [anM_s]; exact b2, by rw [anM_s]; exact b3, fun n hn => ?_⟩
      cases n with
      | zero => exact ⟨h1, z⟩
      | succ n => rw [anM_s]; exact b4 n (by omega)
    · exact ⟨0, by omega, h1, z, fun n hn => by omega⟩
theorem anM_lt {B : Nat} {hp : Nat → Prop} {sr rk : Nat → Nat} (h : ∀ v, v < B → hp v → sr v < B ∧ rk (sr v) < rk v) {e l : Nat} (hl : ∀ n, n < l → anM sr e n < B ∧ hp (anM sr e n)) : ∀ d n, n + d + 1 ≤ l → rk (anM sr e (n + d + 1)) < rk (anM sr e n)
  | 0, n, hn => (h _ (hl n (by omega)).1 (hl n (by omega)).2).2
  | d + 1, n, hn => by
    have h1 := anM_lt h hl d n (by omega)
    have h2 : rk (anM sr e (n + (d + 1) + 1)) < rk (anM sr e (n + (d + 1))) := (h _ (hl (n + (d + 1)) (by omega)).1 (hl (n + (d + 1)) (by omega)).2).2
    have e1 : n + (d + 1) = n + d + 1 := by omega
    rw [e1] at h2 ⊢
    omega
theorem anM_apart {B : Nat} {hp : Nat → Prop} {sr rk : Nat → Nat} (h : ∀ v, v < B → hp v → sr v < B ∧ rk (sr v) < rk v) {e l : Nat} (hl : ∀ n, n < l → anM sr e n < B ∧ hp (anM sr e n)) {n m : Nat} (hnm : n < m) (hm : m ≤ l) : rk (anM sr e m) < rk (anM sr e n) := by
  have := anM_lt h hl (m - n - 1) n (by omega)
  rw [show n + (m - n - 1) + 1 = m by omega] at this
  exact this
def cw (M W : Nat) (K : Nat → Int) : Int := sm (fun j => K j * dM W (j / 25) (j % 25)) M
theorem cw_pu {M W : Nat} {K : Nat → Int} {j : Nat} (hj : j < M) (x : Int) : cw M W (pu K j x) = cw M W K + (x - K j) * dM W (j / 25) (j % 25) := sm_at (m := j) hj (fun i _ hne => by rw [pu_ne hne]) (by rw [pu_at, Int.sub_mul]; omega)
theorem arcM {N j : Nat} (h1 : 1 ≤ N) (hN : N ≤ 25) (hj : j < 2 * (N * N)) : aM N j < N ∧ bM N j < N ∧ clM N j < 625 ∧ clM N j / 25 = aM N j ∧ clM N j % 25 = bM N j := by
  obtain ⟨ha, hb⟩ := ab_lt h1 hj
  unfold clM
  exact ⟨ha, hb, by omega, by omega, by omega⟩
theorem arcE (W N : Nat) {j : Nat} (h : j % 2 = 0) : sM N j = 1 + aM N j ∧ tM N j = 26 + bM N j ∧ cM W N j = dM W (aM N j) (bM N j) := by
  unfold sM tM cM
  exact ⟨if_pos h, if_pos h, if_pos h⟩
theorem arcO (W N : Nat) {j : Nat} (h : ¬ j % 2 = 0) : sM N j = 26 + bM N j ∧ tM N j = 1 + aM N j ∧ cM W N j = - dM W (aM N j) (bM N j) := by
  unfold sM tM cM
  exact ⟨if_neg h, if_neg h, if_neg h⟩
theorem kd_y (a : Nat) : kd a a = 1 := if_pos rfl
theorem kd_n {a b : Nat} (h : a ≠ b) : kd a b = 0 := if_neg h
theorem kd_1 (k a b : Nat) : kd (k + a) (k + b) = kd a b := by
  by_cases z : a = b
  · rw [z, kd_y, kd_y]
  · rw [kd_n z, kd_n (by omega)]
/-- labels at their end are tight where cubes are carried -/
theorem WM.tight {W N : Nat} {L sp p p' st : Nat → Int} {hp : Nat → Prop} {q rk : Nat → Nat} {w : Wd} (h1 : 1 ≤ N) (hN : N ≤ 25) (h : WM W N L sp p p' st hp q rk w) {a b : Nat} (ha : a < N) (hb : b < N) : st (26 + b) ≤ st (1 + a) + dM W a b ∧ (0 < L (25 * a + b) → st (26 + b) = st (1 + a) + dM W a b) := by
  have xy := xy_of (W := N) (x := b) (y := a) hb
  have hlt : a * N + b < N * N := yx_lt hb ha
  have e0 : aM N (2 * (a * N + b)) = a := by unfold aM; rw [show 2 * (a * N + b) / 2 = a * N + b by omega]; exact xy.2
  have f0 : bM N (2 * (a * N + b)) = b := by unfold bM; rw [show 2 * (a * N + b) / 2 = a * N + b by omega]; exact xy.1
  have e1 : aM N (2 * (a * N + b) + 1) = a := by unfold aM; rw [show (2 * (a * N + b) + 1) / 2 = a * N + b by omega]; exact xy.2
  have f1 : bM N (2 * (a * N + b) + 1) = b := by unfold bM; rw [show (2 * (a * N + b) + 1) / 2 = a * N + b by omega]; exact xy.1
  obtain ⟨s1, s2, s3⟩ := arcE W N (j := 2 * (a * N + b)) (by omega)
  obtain ⟨t1, t2, t3⟩ := arcO W N (j := 2 * (a * N + b) + 1) (by omega)
  rw [e0, f0] at s3
  rw [e0] at s1
  rw [f0] at s2
  rw [e1, f1] at t3
  rw [f1] at t1
  rw [e1] at t2
  have g1 := h.2.2.2.2.1 (2 * (a * N + b)) (by omega) (Or.inl (by omega))
  rw [s1, s2, s3] at g1
  refine ⟨g1, fun hl => ?_⟩
  have g2 := h.2.2.2.2.1 (2 * (a * N + b) + 1) (by omega) (Or.inr (by unfold clM; rw [e1, f1]; exact hl))
  rw [t1, t2, t3] at g2
  omega
section ONE
variable {W H : Nat} {L sp lk p p' st : Nat → Int} {hp : Nat → Prop} {q rk : Nat → Nat} {w : Wd}
theorem carryOne_s (hg : MW W H w) (hL : ∀ j, j < 625 → w.1 117 j = iv (L j) ∧ 0 ≤ L j ∧ L j ≤ 900) (hLo : ∀ j, j < 625 → L j ≠ 0 → j / 25 < W * H ∧ j % 25 < W * H) (hP : PM W (W * H) L p p') (hsp : ∀ a, a < W * H → w.1 115 a = iv (sp a) ∧ 0 ≤ sp a ∧ sp a ≤ 1000) (hlk : ∀ a, a < W * H → w.1 116 a = iv (lk a) ∧ 0 ≤ lk a ∧ lk a ≤ 1000) (hW : WM W (W * H) L sp p p' st hp q rk w) {to : Nat} (hto : to < W * H) (hlt : 0 < lk to) (hst : st (26 + to) ≤ 8) : ∃ w1 L' s, fX9_carryOne (iv to) w = some ((), w1) ∧ s < W * H ∧ 0 < sp s ∧ Kp (fun k => k ≠ 115 ∧ k ≠ 116 ∧ k ≠ 117) w w1 ∧ (∀ j, j < 625 → w1.1 117 j = iv (L' j) ∧ 0 ≤ L' j ∧ L' j ≤ L j + 1 ∧ (L' j ≠ 0 → j / 25 < W * H ∧ j % 25 < W * H)) ∧ (∀ a, a < W * H → w1.1 115 a = iv (pu sp s (sp s - 1) a)) ∧ (∀ b, b < W * H → w1.1 116 b = iv (pu lk to (lk to - 1) b)) ∧ (∀ c, c < W * H → flw 625 (fun j => j / 25) L' c = flw 625 (fun j => j / 25) L c + kd s c ∧ flw 625 (fun j => j % 25) L' c = flw 625 (fun j => j % 25) L c + kd to c) ∧ (∀ a b, a < W * H → b < W * H → 0 < L' (25 * a + b) → st (26 + b) = st (1 + a) + dM W a b) ∧ cw 625 W L' = cw 625 W L + st (26 + to) := by
  have hN := WH_le hg.2.1 hg.2.2.2.1
  have hN1 : 1 ≤ W * H := WH_pos hg.1 hg.2.2.1
  have hd8 : ∀ a b, a < W * H → b < W * H → dM W a b ≤ 8 := fun a b ha hb => dM_le hg.1 hg.2.1 hg.2.2.2.1 ha hb
  generalize hNN : W * H = N at *
  have hsr : ∀ v, v < 52 → hp v → sM N (q v) < 52 ∧ rk (sM N (q v)) < rk v := fun v hv hh => by
    obtain ⟨a1, a2, a3, a4, a5, a6, _⟩ := hW.2.2.1 v hv hh
    exact ⟨a4, a6⟩
  obtain ⟨l, l1, l2, l3, l4⟩ := anM_chain (sr := fun v => sM N (q v)) hsr (rk (26 + to) + 1) (26 + to) (by omega) (by omega)
  have hl52 := hW.2.1 (26 + to) (by omega)
  generalize hAN : anM (fun v => sM N (q v)) (26 + to) = AN at l2 l3 l4
  have an0 : AN 0 = 26 + to := by rw [← hAN]; rfl
  have anS : ∀ n, AN (n + 1) = sM N (q (AN n)) := fun n => by rw [← hAN]; rfl
  have apart : ∀ {n m}, n < m → m ≤ l → rk (AN m) < rk (AN n) := fun {n m} h1 h2 => by
    have := anM_apart (sr := fun v => sM N (q v)) hsr (e := 26 + to) (l := l) (by rw [hAN]; exact l4) h1 h2
    rw [hAN] at this; exact this
  have pb : ∀ u, -100 ≤ pM p p' u ∧ pM p p' u ≤ 100 := fun u => by
    unfold pM
    split
    · exact hP.1 _
    · exact hP.2.1 _
  -- all labels of the way are small
  have small : ∀ n, n ≤ l → st (AN n) - pM p p' (AN n) ≤ st (26 + to) - pM p p' (26 + to) := by
    intro n
    induction n with
    | zero => intro _; rw [an0]; omega
    | succ n ih =>
      intro hn
      have h1 := ih (by omega)
      obtain ⟨hv, hh⟩ := l4 n (by omega)
      obtain ⟨_, _, _, _, _, _, _, a8⟩ := hW.2.2.1 _ hv hh
      rw [anS]; omega
  -- its start
  obtain ⟨s, s1, s2, s3, s4, s5⟩ := hW.2.2.2.1 _ l2 l3 (by
    have := small l (Nat.le_refl _)
    have := pb (AN l)
    have := pb (26 + to)
    omega)
  -- cells of different arcs of the way
  have oth : ∀ n m, n < m → m < l → clM N (q (AN m)) ≠ clM N (q (AN n)) := fun n m h1 h2 hc => by
    obtain ⟨hv, hh⟩ := l4 n (by omega)
    obtain ⟨hv2, hh2⟩ := l4 m h2
    obtain ⟨a1, a2, a3, _⟩ := hW.2.2.1 _ hv hh
    obtain ⟨b1, b2, b3, _⟩ := hW.2.2.1 _ hv2 hh2
    obtain ⟨_, _, _, c4, c5⟩ := arcM hN1 hN a1
    obtain ⟨_, _, _, d4, d5⟩ := arcM hN1 hN b1
    rw [hc] at d4 d5
    have ea : aM N (q (AN m)) = aM N (q (AN n)) := by omega
    have eb : bM N (q (AN m)) = bM N (q (AN n)) := by omega
    have k1 := apart h1 (by omega)
    have k2 : rk (AN (m + 1)) < rk (AN n) := apart (show n < m + 1 by omega) (by omega)
    rw [anS] at k2
    by_cases z : q (AN n) % 2 = 0
    · obtain ⟨t1, t2, _⟩ := arcE W N z
      by_cases y : q (AN m) % 2 = 0
      · obtain ⟨u1, u2, _⟩ := arcE W N y
        have : AN m = AN n := by rw [← b3, u2, eb, ← t2, a3]
        rw [this] at k1; omega
      · obtain ⟨u1, u2, _⟩ := arcO W N y
        have : sM N (q (AN m)) = AN n := by rw [u1, eb, ← t2, a3]
        rw [this] at k2; omega
    · obtain ⟨t1, t2, _⟩ := arcO W N z
      by_cases y : q (AN m) % 2 = 0
      · obtain ⟨u1, u2, _⟩ := arcE W N y
        have : sM N (q (AN m)) = AN n := by rw [u1, ea, ← t2, a3]
        rw [this] at k2; omega
      · obtain ⟨u1, u2, _⟩ := arcO W N y
        have : AN m = AN n := by rw [← b3, u2, ea, ← t2, a3]
        rw [this] at k1; omega
  have hlto := hlk to hto
  unfold fX9_carryOne
  rw [gI_iv (by rw [LI_116]; omega) (by rw [LI_116]; omega), bind_s, sI_iv (by rw [LI_116]; omega) (by rw [LI_116]; omega), bind_s, hlto.1, iv_1, iv_sub, iv_26, show (26 : Int) = ((26 : Nat) : Int) from rfl, iv_addN]
  have key : ∃ w1 L', lp (fun _ _ => none) (bX9_carryOne_15 (iv to)) G (iv ((26 + to : Nat) : Int)) (uI w 116 to (iv (lk to - 1))) = some ((), uI w1 115 s (iv (sp s - 1))) ∧ Kp (fun k => k ≠ 117) (uI w 116 to (iv (lk to - 1))) w1 ∧ (∀ j, j < 625 → w1.1 117 j = iv (L' j) ∧ 0 ≤ L' j ∧ L' j ≤ L j + 1 ∧ (L' j ≠ 0 → j / 25 < N ∧ j % 25 < N)) ∧ (∀ c, c < N → flw 625 (fun j => j / 25) L' c = flw 625 (fun j => j / 25) L c + kd (AN l) (1 + c) ∧ flw 625 (fun j => j % 25) L' c = flw 625 (fun j => j % 25) L c + kd to c - kd (AN l) (26 + c)) ∧ (∀ a b, a < N → b < N → 0 < L' (25 * a + b) → st (26 + b) = st (1 + a) + dM W a b) ∧ cw 625 W L' + st (AN l) = cw 625 W L + st (26 + to) := by
    refine lpG (fun (F : Int32 → Wd → Option (Unit × Wd)) (s : Int32 × Wd) => F s.1 s.2) (fun r => ∃ w1 L', r = some ((), uI w1 115 s (iv (sp s - 1))) ∧ Kp (fun k => k ≠ 117) (uI w 116 to (iv (lk to - 1))) w1 ∧ (∀ j, j < 625 → w1.1 117 j = iv (L' j) ∧ 0 ≤ L' j ∧ L' j ≤ L j + 1 ∧ (L' j ≠ 0 → j / 25 < N ∧ j % 25 < N)) ∧ (∀ c, c < N → flw 625 (fun j => j / 25) L' c = flw 625 (fun j => j / 25) L c + kd (AN l) (1 + c) ∧ flw 625 (fun j => j % 25) L' c = flw 625 (fun j => j % 25) L c + kd to c - kd (AN l) (26 + c)) ∧ (∀ a b, a < N → b < N → 0 < L' (25 * a + b) → st (26 + b) = st (1 + a) + dM W a b) ∧ cw 625 W L' + st (AN l) = cw 625 W L + st (26 + to)) (fun mm z => ∃ n L', mm + n = l ∧ z.1 = iv (AN n : Nat) ∧ Kp (fun k => k ≠ 117) (uI w 116 to (iv (lk to - 1))) z.2 ∧ (∀ j, j < 625 → z.2.1 117 j = iv (L' j) ∧ 0 ≤ L' j ∧ L' j ≤ L j + 1 ∧ (L' j ≠ 0 → j / 25 < N ∧ j % 25 < N)) ∧ (∀ c, c < N → flw 625 (fun j => j / 25) L' c = flw 625 (fun j => j / 25) L c + kd (AN n) (1 + c) ∧ flw 625 (fun j => j % 25) L' c = flw 625 (fun j => j % 25) L c + kd to c - kd (AN n) (26 + c)) ∧ (∀ a b, a < N → b < N → 0 < L' (25 * a + b) → st (26 + b) = st (1 + a) + dM W a b) ∧ cw 625 W L' + st (AN n) = cw 625 W L + st (26 + to) ∧ (∀ m, n ≤ m → m < l → L' (clM N (q (AN m))) = L (clM N (q (AN m))))) ?_ G l (iv ((26 + to : Nat) : Int), uI w 116 to (iv (lk to - 1))) (hGn (by omega)) ⟨0, L, by omega, by rw [an0], Kp.rf, fun j hj => ?_, fun c hc => ?_, fun a b ha hb => (hW.tight hN1 hN ha hb).2, by rw [an0], fun m _ _ => rfl⟩
    · rintro mm ⟨x, w2⟩ k ⟨n, L', e1, e2, e3, e4, e5, e6, e7, e8⟩
      have e2 : x = iv (AN n : Nat) := e2
      show (∃ (s' : Int32 × Wd) (m' : Nat), m' < mm ∧ bX9_carryOne_15 (iv to) k x w2 = k s'.1 s'.2 ∧ _) ∨ (∃ w1 L', bX9_carryOne_15 (iv to) k x w2 = some ((), uI w1 115 s (iv (sp s - 1))) ∧ _)
      have k118 : w2.1 119 = w.1 119 := by rw [(e3 119 (by omega)).1, uI_row (by omega)]
      have k114 : w2.1 115 = w.1 115 := by rw [(e3 115 (by omega)).1, uI_row (by omega)]
      rw [e2]
      unfold bX9_carryOne_15 jX9_carryOne_80
      by_cases z : n = l
      · right
        subst z
        have hsps := hsp s s1
        rw [gI_iv (by rw [LI_119]; omega) (by rw [LI_119]; omega), bind_s, k118, s5, if_pos rfl, s2, iv_1, iv_sub, show ((1 + s : Nat) : Int) - 1 = ((s : Nat) : Int) by omega, gI_iv (by rw [LI_115]; omega) (by rw [LI_115]; omega), bind_s, sI_iv (by rw [LI_115]; omega) (by rw [LI_115]; omega), bind_s, k114, hsps.1, iv_sub]
        exact ⟨w2, L', rfl, e3, e4, by rw [← s2]; exact e5, e6, by rw [← s2]; exact e7⟩
      · left
        obtain ⟨hv, hh⟩ := l4 n (by omega)
        obtain ⟨a1, a2, a3, a4, a5, a6, a7, a8⟩ := hW.2.2.1 _ hv hh
        obtain ⟨c1, c2, c3, c4, c5⟩ := arcM hN1 hN a1
        have hcl : clM N (q (AN n)) = 25 * aM N (q (AN n)) + bM N (q (AN n)) := rfl
        have unm := e8 n (Nat.le_refl _) (by omega)
        have hLc := hL _ c3
        have hne0 : ¬ iv (sM N (q (AN n)) : Nat) = (0 : Int32) := by
          rw [iv_0, iv_eq (by omega) (by omega)]
          unfold sM; split <;> omega
        have fin : ∀ x : Int, 0 ≤ x → x ≤ L (clM N (q (AN n))) + 1 → (0 < x → st (26 + bM N (q (AN n))) = st (1 + aM N (q (AN n))) + dM W (aM N (q (AN n))) (bM N (q (AN n)))) → (x - L (clM N (q (AN n)))) * dM W (aM N (q (AN n))) (bM N (q (AN n))) = cM W N (q (AN n)) → (∀ c, c < N → (x - L (clM N (q (AN n)))) * kd (aM N (q (AN n))) c = kd (sM N (q (AN n))) (1 + c) - kd (AN n) (1 + c) ∧ (x - L (clM N (q (AN n)))) * kd (bM N (q (AN n))) c = kd (AN n) (26 + c) - kd (sM N (q (AN n))) (26 + c)) → ∃ (s' : Int32 × Wd) (m' : Nat), m' < mm ∧ k (iv (sM N (q (AN n)) : Nat)) (uI w2 117 (clM N (q (AN n))) (iv x)) = k s'.1 s'.2 ∧ ∃ n L', m' + n = l ∧ s'.1 = iv (AN n : Nat) ∧ Kp (fun k => k ≠ 117) (uI w 116 to (iv (lk to - 1))) s'.2 ∧ (∀ j, j < 625 → s'.2.1 117 j = iv (L' j) ∧ 0 ≤ L' j ∧ L' j ≤ L j + 1 ∧ (L' j ≠ 0 → j / 25 < N ∧ j % 25 < N)) ∧ (∀ c, c < N → flw 625 (fun j => j / 25) L' c = flw 625 (fun j => j / 25) L c + kd (AN n) (1 + c) ∧ flw 625 (fun j => j % 25) L' c = flw 625 (fun j => j % 25) L c + kd to c - kd (AN n) (26 + c)) ∧ (∀ a b, a < N → b < N → 0 < L' (25 * a + b) → st (26 + b) = st (1 + a) + dM W a b) ∧ cw 625 W L' + st (AN n) = cw 625 W L + st (26 + to) ∧ (∀ m, n ≤ m → m < l → L' (clM N (q (AN m))) = L (clM N (q (AN m)))) := by
          intro x f1 f2 f3 f4 f5
          refine ⟨(iv (sM N (q (AN n)) : Nat), uI w2 117 (clM N (q (AN n))) (iv x)), mm - 1, by omega, rfl, n + 1, pu L' (clM N (q (AN n))) x, by omega, by rw [anS], e3.trans (Kp.uI (fun z => z rfl)), fun j hj => ?_, fun c hc => ?_, fun a b ha hb hk => ?_, ?_, fun m m1 m2 => ?_⟩
          · show (uI w2 117 (clM N (q (AN n))) (iv x)).1 117 j = iv (pu L' (clM N (q (AN n))) x j) ∧ 0 ≤ pu L' (clM N (q (AN n))) x j ∧ pu L' (clM N (q (AN n))) x j ≤ L j + 1 ∧ (pu L' (clM N (q (AN n))) x j ≠ 0 → j / 25 < N ∧ j % 25 < N)
            by_cases u : j = clM N (q (AN n))
            · rw [u, uI_same, pu_at]
              exact ⟨rfl, f1, f2, fun _ => by rw [c4, c5]; exact ⟨c1, c2⟩⟩
            · rw [uI_other (Or.inr u), pu_ne u]; exact e4 j hj
          · obtain ⟨g1, g2⟩ := e5 c hc
            obtain ⟨g3, g4⟩ := f5 c hc
            rw [flw_pu c3, flw_pu c3, unm, g1, g2, anS]
            rw [c4, c5]
            constructor <;> omega
          · by_cases u : 25 * a + b = clM N (q (AN n))
            · rw [u, pu_at] at hk
              have ea : aM N (q (AN n)) = a := by omega
              have eb : bM N (q (AN n)) = b := by omega
              have := f3 hk
              rw [ea, eb] at this
              exact this
            · rw [pu_ne u] at hk
              exact e6 a b ha hb hk
          · rw [cw_pu c3, unm, c4, c5, f4, anS]
            omega
          · rw [pu_ne (oth n m (by omega) m2)]
            exact e8 m (by omega) m2
        rw [gI_iv (by rw [LI_119]; omega) (by rw [LI_119]; omega), bind_s, k118, a7, if_neg hne0, bind_s]
        by_cases y : q (AN n) % 2 = 0
        · obtain ⟨t1, t2, t3⟩ := arcE W N y
          rw [a3] at t2
          have ei : (25 : Int32) * (iv (sM N (q (AN n)) : Nat) - (1 : Int32)) + iv (AN n : Nat) - (26 : Int32) = iv ((clM N (q (AN n)) : Nat) : Int) := by
            rw [iv_1, iv_26, iv_25, iv_sub, iv_mul, iv_add, iv_sub]
            refine congrArg iv ?_; omega
          rw [if_neg (by rw [iv_25, iv_le (by omega) (by omega)]; omega), ei, gI_iv (by rw [LI_117]; omega) (by rw [LI_117]; omega), bind_s, sI_iv (by rw [LI_117]; omega) (by rw [LI_117]; omega), bind_s, (e4 _ c3).1, unm, iv_1, iv_add]
          refine fin _ (by omega) (by omega) (fun _ => ?_) ?_ (fun c hc => ⟨?_, ?_⟩)
          · have e9 : st (AN n) = st (26 + bM N (q (AN n))) := congrArg st t2
            rw [t1, t3] at a5
            rw [← e9]; exact a5
          · rw [t3, show L (clM N (q (AN n))) + 1 - L (clM N (q (AN n))) = 1 by omega, Int.one_mul]
          · have k1 : kd (AN n) (1 + c) = 0 := kd_n (by omega)
            have k2 : kd (sM N (q (AN n))) (1 + c) = kd (aM N (q (AN n))) c := by rw [t1, kd_1]
            rw [k1, k2, show L (clM N (q (AN n))) + 1 - L (clM N (q (AN n))) = 1 by omega, Int.one_mul]; omega
          · have k1 : kd (AN n) (26 + c) = kd (bM N (q (AN n))) c := by rw [← kd_1 26 (bM N (q (AN n))) c]; exact congrArg (fun u => kd u (26 + c)) t2
            have k2 : kd (sM N (q (AN n))) (26 + c) = 0 := kd_n (by omega)
            rw [k1, k2, show L (clM N (q (AN n))) + 1 - L (clM N (q (AN n))) = 1 by omega, Int.one_mul]; omega
        · obtain ⟨t1, t2, t3⟩ := arcO W N y
          rw [a3] at t2
          have hpos : 0 < L (clM N (q (AN n))) := a2.resolve_left y
          have ei : (25 : Int32) * (iv (AN n : Nat) - (1 : Int32)) + iv (sM N (q (AN n)) : Nat) - (26 : Int32) = iv ((clM N (q (AN n)) : Nat) : Int) := by
            rw [iv_1, iv_26, iv_25, iv_sub, iv_mul, iv_add, iv_sub]
            refine congrArg iv ?_; omega
          rw [if_pos (by rw [iv_25, iv_le (by omega) (by omega)]; omega), ei, gI_iv (by rw [LI_117]; omega) (by rw [LI_117]; omega), bind_s, sI_iv (by rw [LI_117]; omega) (by rw [LI_117]; omega), bind_s, (e4 _ c3).1, unm, iv_1, iv_sub]
          refine fin _ (by omega) (by omega) (fun _ => ?_) ?_ (fun c hc => ⟨?_, ?_⟩)
          · exact (hW.tight hN1 hN c1 c2).2 hpos
          · rw [t3, show L (clM N (q (AN n))) - 1 - L (clM N (q (AN n))) = -1 by omega, Int.neg_mul, Int.one_mul]
          · have k1 : kd (AN n) (1 + c) = kd (aM N (q (AN n))) c := by rw [← kd_1 1 (aM N (q (AN n))) c]; exact congrArg (fun u => kd u (1 + c)) t2
            have k2 : kd (sM N (q (AN n))) (1 + c) = 0 := kd_n (by omega)
            rw [k1, k2, show L (clM N (q (AN n))) - 1 - L (clM N (q (AN n))) = -1 by omega, Int.neg_mul, Int.one_mul]; omega
          · have k1 : kd (AN n) (26 + c) = 0 := kd_n (by omega)
            have k2 : kd (sM N (q (AN n))) (26 + c) = kd (bM N (q (AN n))) c := by rw [t1, kd_1]
            rw [k1, k2, show L (clM N (q (AN n))) - 1 - L (clM N (q (AN n))) = -1 by omega, Int.neg_mul, Int.one_mul]; omega
    · rw [uI_row (by omega)]
      have := hL j hj
      exact ⟨this.1, this.2.1, by omega, hLo j hj⟩
    · rw [an0, kd_n (show 26 + to ≠ 1 + c by omega), kd_1]
      constructor <;> omega
  obtain ⟨w1, L', g1, g2, g3, g4, g5, g6⟩ := key
  refine ⟨_, L', s, g1, s1, s3, (Kp.uI (fun z => z.2.1 rfl)).trans ((g2.weak fun k z => z.2.2).trans (Kp.uI (fun z => z.1 rfl))), fun j hj => by rw [uI_row (by omega)]; exact g3 j hj, fun a ha => ?_, fun b hb => ?_, fun c hc => ?_, g5, by rw [s4] at g6; omega⟩
  · by_cases u : a = s
    · rw [u, uI_same, pu_at]
    · rw [uI_other (Or.inr u), pu_ne u, (g2 115 (by omega)).1, uI_row (by omega)]; exact (hsp a ha).1
  · rw [uI_row (by omega), (g2 116 (by omega)).1]
    by_cases u : b = to
    · rw [u, uI_same, pu_at]
    · rw [uI_other (Or.inr u), pu_ne u]; exact (hlk b hb).1
  · obtain ⟨h1, h2⟩ := g4 c hc
    rw [h1, h2, s2, kd_1, kd_n (show 1 + s ≠ 26 + c by omega)]
    constructor <;> omega
end ONE
