/-! ===== carrying, the model: its answer; the step ===== -/
theorem newPM {W H : Nat} (h1 : 1 ≤ W) (h2 : W ≤ 5) (h3 : 1 ≤ H) (h4 : H ≤ 5) {L' st : Nat → Int} (hle : ∀ a b, a < W * H → b < W * H → st (26 + b) ≤ st (1 + a) + dM W a b) (hpar : ∀ b, b < W * H → ∃ a, a < W * H ∧ st (26 + b) = st (1 + a) + dM W a b) (hsl : ∀ a b, a < W * H → b < W * H → 0 < L' (25 * a + b) → st (26 + b) = st (1 + a) + dM W a b) : ∃ p p', PM W (W * H) L' p p' := by
  have hN1 : 1 ≤ W * H := WH_pos h1 h3
  have lipB : ∀ b b', b < W * H → b' < W * H → st (26 + b') ≤ st (26 + b) + 8 := fun b b' hb hb' => by
    obtain ⟨a, a1, a2⟩ := hpar b hb
    have e1 := hle a b' a1 hb'
    have e2 := dM_tri W a b b'
    have e3 := dM_le h1 h2 h4 hb hb'
    omega
  have hgr : ∃ g : Nat → Int, ∀ a, (∀ b, b < W * H → st (26 + b) - st 26 - dM W a b ≤ g a) ∧ ∃ b, b < W * H ∧ g a = st (26 + b) - st 26 - dM W a b := by
    refine ⟨fun a => -((least_of (f := fun b => -(st (26 + b) - st 26 - dM W a b)) hN1).choose), fun a => ?_⟩
    obtain ⟨q1, b, q2, q3⟩ := (least_of (f := fun b => -(st (26 + b) - st 26 - dM W a b)) hN1).choose_spec
    refine ⟨fun b hb => ?_, b, q2, ?_⟩
    · have := q1 b hb
      show st (26 + b) - st 26 - dM W a b ≤ -((least_of (f := fun b => -(st (26 + b) - st 26 - dM W a b)) hN1).choose)
      omega
    · show -((least_of (f := fun b => -(st (26 + b) - st 26 - dM W a b)) hN1).choose) = st (26 + b) - st 26 - dM W a b
      omega
  obtain ⟨g, hg⟩ := hgr
  refine ⟨fun a => if a < W * H then g a else 0, fun b => if b < W * H then st (26 + b) - st 26 else 0, fun a => ?_, fun b => ?_, fun a b ha hb => ?_, fun a b ha hb hk => ?_⟩
  · show -100 ≤ (if a < W * H then g a else 0) ∧ (if a < W * H then g a else 0) ≤ 100
    by_cases z : a < W * H
    · obtain ⟨_, b, b1, b2⟩ := hg a
      have e1 := lipB 0 b (by omega) b1
      have e2 := lipB b 0 b1 (by omega)
      have e3 := dM_le h1 h2 h4 z b1
      have e4 := dM_nn W a b
      rw [if_pos z]
      rw [show 26 + 0 = 26 from rfl] at e1 e2
      omega
    · rw [if_neg z]; omega
  · show -100 ≤ (if b < W * H then st (26 + b) - st 26 else 0) ∧ (if b < W * H then st (26 + b) - st 26 else 0) ≤ 100
    by_cases z : b < W * H
    · have e1 := lipB 0 b (by omega) z
      have e2 := lipB b 0 z (by omega)
      rw [if_pos z]
      rw [show 26 + 0 = 26 from rfl] at e1 e2
      omega
    · rw [if_neg z]; omega
  · show (if b < W * H then st (26 + b) - st 26 else 0) ≤ (if a < W * H then g a else 0) + dM W a b
    rw [if_pos ha, if_pos hb]
    have := (hg a).1 b hb
    omega
  · show (if b < W * H then st (26 + b) - st 26 else 0) = (if a < W * H then g a else 0) + dM W a b
    rw [if_pos ha, if_pos hb]
    obtain ⟨q1, b0, q2, q3⟩ := hg a
    have e1 := q1 b hb
    have e2 := hsl a b ha hb hk
    have e3 := hle a b0 ha q2
    omega
def CMI (W H : Nat) (s0 L sp lk p p' : Nat → Int) (w : Wd) : Prop := (∀ j, j < 625 → w.1 117 j = iv (L j) ∧ 0 ≤ L j ∧ L j + sm lk (W * H) ≤ 100 ∧ (L j ≠ 0 → j / 25 < W * H ∧ j % 25 < W * H)) ∧ (∀ a, a < W * H → w.1 115 a = iv (sp a) ∧ 0 ≤ sp a ∧ sp a ≤ 4) ∧ (∀ b, b < W * H → w.1 116 b = iv (lk b) ∧ 0 ≤ lk b ∧ lk b ≤ 4) ∧ (∀ c, c < W * H → flw 625 (fun j => j / 25) L c + sp c = max 0 (s0 c) ∧ flw 625 (fun j => j % 25) L c + lk c = max 0 (-(s0 c))) ∧ PM W (W * H) L p p'
def mcar (k : Nat) : Prop := k < 115 ∨ 119 < k
section MCARRY
variable {W H : Nat} {s0 L sp lk p p' : Nat → Int} {w : Wd}
theorem flow_tot {M N : Nat} {e : Nat → Nat} {K : Nat → Int} (h : ∀ j, j < M → K j ≠ 0 → e j < N) : sm (flw M e K) N = sm K M := by
  have e1 := flw_sum (f := fun _ => 1) h
  have e2 : sm (fun v => 1 * flw M e K v) N = sm (flw M e K) N := sm_congr (fun v _ => Int.one_mul _)
  have e3 : sm (fun j => K j * 1) M = sm K M := sm_congr (fun j _ => Int.mul_one _)
  rw [e2, e3] at e1
  exact e1
theorem CMI.even (h : CMI W H s0 L sp lk p p' w) (hz : sm s0 (W * H) = 0) : sm sp (W * H) = sm lk (W * H) := by
  obtain ⟨c1, c2, c3, c4, c5⟩ := h
  have e1 := flow_tot (M := 625) (N := W * H) (e := fun j => j / 25) (K := L) (fun j hj hk => ((c1 j hj).2.2.2 hk).1)
  have e2 := flow_tot (M := 625) (N := W * H) (e := fun j => j % 25) (K := L) (fun j hj hk => ((c1 j hj).2.2.2 hk).2)
  have e3 : sm (fun c => flw 625 (fun j => j / 25) L c + sp c) (W * H) = sm (fun c => max 0 (s0 c)) (W * H) := sm_congr (fun c hc => (c4 c hc).1)
  have e4 : sm (fun c => flw 625 (fun j => j % 25) L c + lk c) (W * H) = sm (fun c => max 0 (-(s0 c))) (W * H) := sm_congr (fun c hc => (c4 c hc).2)
  have e5 : sm (fun c => max 0 (s0 c) - max 0 (-(s0 c))) (W * H) = sm s0 (W * H) := sm_congr (fun c _ => by show max 0 (s0 c) - max 0 (-(s0 c)) = s0 c; omega)
  rw [sm_add (flw 625 (fun j => j / 25) L)] at e3
  rw [sm_add (flw 625 (fun j => j % 25) L)] at e4
  rw [sm_sub (fun c => max 0 (s0 c))] at e5
  omega
/-- where a cell lacks cubes, its label is small -/
theorem CMI.near (hg : MW W H w) (h : CMI W H s0 L sp lk p p' w) (hz : sm s0 (W * H) = 0) {st : Nat → Int} {hp : Nat → Prop} {q rk : Nat → Nat} {w1 : Wd} (hW : WM W (W * H) L sp p p' st hp q rk w1) {b0 : Nat} (hb0 : b0 < W * H) (hl : 0 < lk b0) : ∀ b, b < W * H → st (26 + b) ≤ 8 := by
  have hN := WH_le hg.2.1 hg.2.2.2.1
  have hN1 : 1 ≤ W * H := WH_pos hg.1 hg.2.2.1
  have e1 := h.even hz
  have e2 := sm_mem (f := lk) (n := W * H) (fun j hj => (h.2.2.1 j hj).2.1) hb0
  obtain ⟨a, a1, a2⟩ := sm_ex (f := sp) (n := W * H) (by omega)
  intro b hb
  have e3 := hW.2.2.2.2.2 a a1 a2
  have e4 := (hW.tight hN1 hN a1 hb).1
  have e5 := dM_le hg.1 hg.2.1 hg.2.2.2.1 a1 hb
  omega
theorem mcarry_lp (hg : MW W H w) (hz : sm s0 (W * H) = 0) (hC : CMI W H s0 L sp lk p p' w) (hc0 : cw 625 W L = 0) (p1 p2 : Int32) : ∃ Y w1, (bnd (fX9_layFar w) fun x13 w14 => lp (fun _ _ _ => none) (bX9_carry_148 p1 p2) G (0 : Int32) x13 w14) = some (iv Y, w1) ∧ Kp mcar w w1 ∧ OptM W H s0 Y := by
  have hN := WH_le hg.2.1 hg.2.2.2.1
  have hN1 : 1 ≤ W * H := WH_pos hg.1 hg.2.2.1
  have far : ∀ {L sp lk p p' : Nat → Int} {w2 : Wd}, MW W H w2 → CMI W H s0 L sp lk p p' w2 → ∃ x w3 st hp q rk, fX9_layFar w2 = some (x, w3) ∧ Kp (fun k => k ≠ 118 ∧ k ≠ 119) w2 w3 ∧ WM W (W * H) L sp p p' st hp q rk w3 ∧ ((x = -9 ∧ ∀ b, b < W * H → 0 < lk b → 1000000 ≤ st (26 + b)) ∨ (∃ b, b < W * H ∧ x = iv (b : Nat) ∧ 0 < lk b ∧ st (26 + b) < 1000000)) := fun {L sp lk p p' w2} hg2 h => by
    have hnn : 0 ≤ sm lk (W * H) := sm_nonneg (fun j hj => (h.2.2.1 j hj).2.1)
    exact layFar_s hg2 (fun j hj => ⟨(h.1 j hj).1, (h.1 j hj).2.1, by have := (h.1 j hj).2.2.1; omega⟩) h.2.2.2.2 (fun a ha => ⟨(h.2.1 a ha).1, (h.2.1 a ha).2.1, by have := (h.2.1 a ha).2.2; omega⟩) (fun a ha => ⟨(h.2.2.1 a ha).1, (h.2.2.1 a ha).2.1, by have := (h.2.2.1 a ha).2.2; omega⟩)
  have kep : ∀ {L sp lk p p' : Nat → Int} {w2 w3 : Wd}, CMI W H s0 L sp lk p p' w2 → Kp (fun k => k ≠ 118 ∧ k ≠ 119) w2 w3 → CMI W H s0 L sp lk p p' w3 := fun {L sp lk p p' w2 w3} h k => by
    refine ⟨fun j hj => ?_, fun a ha => ?_, fun b hb => ?_, h.2.2.2⟩
    · rw [(k 117 (by omega)).1]; exact h.1 j hj
    · rw [(k 115 (by omega)).1]; exact h.2.1 a ha
    · rw [(k 116 (by omega)).1]; exact h.2.2.1 b hb
  obtain ⟨x, wa, st, hp, q, rk, a1, a2, a3, a4⟩ := far hg hC
  rw [a1, bnd_s]
  have lkb : ∀ {lk : Nat → Int}, (∀ b, b < W * H → 0 ≤ lk b ∧ lk b ≤ 4) → 0 ≤ sm lk (W * H) ∧ sm lk (W * H) ≤ 100 := fun {lk} h => by
    have := sm_bound (f := lk) (lo := 0) (hi := 4) (n := W * H) h
    omega
  have hb0 := lkb (fun b hb => (hC.2.2.1 b hb).2)
  refine lpG (fun (F : Int32 → Int32 → Wd → Option (Int32 × Wd)) (s : Int32 × Int32 × Wd) => F s.1 s.2.1 s.2.2) (fun r => ∃ Y w1, r = some (iv Y, w1) ∧ Kp mcar w w1 ∧ OptM W H s0 Y) (fun mm s => ∃ L sp lk p p' st hp q rk, CMI W H s0 L sp lk p p' s.2.2 ∧ s.1 = iv (cw 625 W L) ∧ mm = (sm lk (W * H)).toNat ∧ Kp mcar w s.2.2 ∧ WM W (W * H) L sp p p' st hp q rk s.2.2 ∧ ((s.2.1 = -9 ∧ ∀ b, b < W * H → 0 < lk b → 1000000 ≤ st (26 + b)) ∨ (∃ b, b < W * H ∧ s.2.1 = iv (b : Nat) ∧ 0 < lk b ∧ st (26 + b) < 1000000))) ?_ G (sm lk (W * H)).toNat ((0 : Int32), x, wa) (hGn (by omega)) ⟨L, sp, lk, p, p', st, hp, q, rk, kep hC a2, by rw [hc0]; rfl, rfl, a2.weak fun k z => by unfold mcar at z; omega, a3, a4⟩
  rintro mm ⟨v3, v4, w2⟩ k ⟨L, sp, lk, p, p', st, hp, q, rk, b1, b2, rfl, b4, b5, b6⟩
  have b1 : CMI W H s0 L sp lk p p' w2 := b1
  have b2 : v3 = iv (cw 625 W L) := b2
  have b4 : Kp mcar w w2 := b4
  have b5 : WM W (W * H) L sp p p' st hp q rk w2 := b5
  show (∃ (s' : Int32 × Int32 × Wd) (m' : Nat), m' < (sm lk (W * H)).toNat ∧ bX9_carry_148 p1 p2 k v3 v4 w2 = k s'.1 s'.2.1 s'.2.2 ∧ _) ∨ (∃ Y w1, bX9_carry_148 p1 p2 k v3 v4 w2 = some (iv Y, w1) ∧ _)
  have hg2 : MW W H w2 := hg.kept (b4 99 (by unfold mcar; omega)).1
  have hb := lkb (fun b hb => (b1.2.2.1 b hb).2)
  unfold bX9_carry_148
  rcases b6 with ⟨z, b7⟩ | ⟨b, b7, z, b8, b9⟩
  · right
    have z : v4 = -9 := z
    rw [if_pos z, b2]
    refine ⟨cw 625 W L, w2, rfl, b4, L, p, p', fun j hj => ⟨(b1.1 j hj).2.1, (b1.1 j hj).2.2.2⟩, ?_, b1.2.2.2.2.2.2.1, fun j hj hk => ?_, rfl⟩
    · have l0 : ∀ b, b < W * H → lk b = 0 := fun b hb' => by
        have := (b1.2.2.1 b hb').2.1
        by_cases y : 0 < lk b
        · have e1 := b1.near hg2 hz b5 hb' y b hb'
          have e2 := b7 b hb' y
          omega
        · omega
      have e1 : sm lk (W * H) = 0 := by rw [sm_congr l0, sm_zero]
      have e2 := b1.even hz
      intro v hv
      have e3 := sm_all0 (f := sp) (fun a ha => (b1.2.1 a ha).2.1) (by omega) hv
      have e4 := b1.2.2.2.1 v hv
      have e5 := l0 v hv
      omega
    · have hne : L j ≠ 0 := by omega
      obtain ⟨q1, q2⟩ := (b1.1 j hj).2.2.2 hne
      have := b1.2.2.2.2.2.2.2 (j / 25) (j % 25) q1 q2
      rw [show 25 * (j / 25) + j % 25 = j by omega] at this
      exact this hk
  · left
    have z : v4 = iv (b : Nat) := z
    have hsm := b1.near hg2 hz b5 b7 b8
    obtain ⟨w3, L', s, d1, d2, d3, d4, d5, d6, d7, d8, d9, d10⟩ := carryOne_s hg2 (fun j hj => ⟨(b1.1 j hj).1, (b1.1 j hj).2.1, by have := (b1.1 j hj).2.2.1; omega⟩) (fun j hj => (b1.1 j hj).2.2.2) b1.2.2.2.2 (fun a ha => ⟨(b1.2.1 a ha).1, (b1.2.1 a ha).2.1, by have := (b1.2.1 a ha).2.2; omega⟩) (fun a ha => ⟨(b1.2.2.1 a ha).1, (b1.2.2.1 a ha).2.1, by have := (b1.2.2.1 a ha).2.2; omega⟩) b5 b7 b8 (hsm b b7)
    have hpar : ∀ b, b < W * H → ∃ a, a < W * H ∧ st (26 + b) = st (1 + a) + dM W a b := fun b hb' => by
      have hs8 := hsm b hb'
      by_cases hh : hp (26 + b)
      · obtain ⟨t1, t2, t3, t4, t5, _⟩ := b5.2.2.1 (26 + b) (by omega) hh
        obtain ⟨u1, u2, _⟩ := arcM hN1 hN t1
        by_cases y : q (26 + b) % 2 = 0
        · obtain ⟨v1, v2, v3⟩ := arcE W (W * H) y
          have eb : bM (W * H) (q (26 + b)) = b := by omega
          rw [v1, v3, eb] at t5
          exact ⟨aM (W * H) (q (26 + b)), u1, t5⟩
        · obtain ⟨v1, v2, v3⟩ := arcO W (W * H) y
          omega
      · obtain ⟨a, r1, r2, _⟩ := b5.2.2.2.1 (26 + b) (by omega) hh (by omega)
        omega
    obtain ⟨pn, pn', hpn⟩ := newPM hg2.1 hg2.2.1 hg2.2.2.1 hg2.2.2.2.1 (L' := L') (st := st) (fun a b ha hb => (b5.tight hN1 hN ha hb).1) hpar d9
    have hg3 : MW W H w3 := hg2.kept (d4 99 (by omega)).1
    have slk : sm (pu lk b (lk b - 1)) (W * H) = sm lk (W * H) + -1 := sm_at (m := b) b7 (fun i _ hne => pu_ne hne) (by rw [pu_at]; omega)
    have hC' : CMI W H s0 L' (pu sp s (sp s - 1)) (pu lk b (lk b - 1)) pn pn' w3 := by
      refine ⟨fun j hj => ?_, fun a ha => ⟨d6 a ha, ?_⟩, fun c hc => ⟨d7 c hc, ?_⟩, fun c hc => ?_, hpn⟩
      · obtain ⟨g1, g2, g3, g4⟩ := d5 j hj
        have := (b1.1 j hj).2.2.1
        exact ⟨g1, g2, by rw [slk]; omega, g4⟩
      · have := (b1.2.1 a ha).2
        by_cases y : a = s
        · rw [y, pu_at]; rw [y] at this; omega
        · rw [pu_ne y]; exact this
      · have := (b1.2.2.1 c hc).2
        by_cases y : c = b
        · rw [y, pu_at]; rw [y] at this; omega
        · rw [pu_ne y]; exact this
      · obtain ⟨g1, g2⟩ := d8 c hc
        obtain ⟨g3, g4⟩ := b1.2.2.2.1 c hc
        rw [g1, g2]
        constructor
        · by_cases y : c = s
          · rw [y, pu_at, kd_y]; rw [y] at g3; omega
          · rw [pu_ne y, kd_n (fun u => y u.symm)]; omega
        · by_cases y : c = b
          · rw [y, pu_at, kd_y]; rw [y] at g4; omega
          · rw [pu_ne y, kd_n (fun u => y u.symm)]; omega
    obtain ⟨x', w4, st', hp', q', rk', f1, f2, f3, f4⟩ := far hg3 hC'
    have i26 : (26 : Int32) + v4 = iv ((26 + b : Nat) : Int) := by rw [z, iv_26, iv_add, Int.natCast_add]; rfl
    have hne : ¬ v4 = -9 := by rw [z]; exact iv_ne_m9 (by omega)
    rw [if_neg hne, i26, gI_iv (by rw [LI_118]; omega) (by rw [LI_118]; omega), bind_s, (b5.1 (26 + b) (by omega)).2.2, z, d1, bnd_s, f1, bnd_s, b2, iv_add, ← d10]
    have hlt : (sm (pu lk b (lk b - 1)) (W * H)).toNat < (sm lk (W * H)).toNat := by
      have e1 := lkb (lk := pu lk b (lk b - 1)) (fun b hb => (hC'.2.2.1 b hb).2)
      rw [slk] at e1 ⊢
      omega
    exact ⟨(iv (cw 625 W L'), x', w4), (sm (pu lk b (lk b - 1)) (W * H)).toNat, hlt, rfl, L', pu sp s (sp s - 1), pu lk b (lk b - 1), pn, pn', st', hp', q', rk', kep hC' f2, rfl, rfl, b4.trans ((d4.weak fun k z => by unfold mcar at z; omega).trans (f2.weak fun k z => by unfold mcar at z; omega)), f3, f4⟩
end MCARRY
