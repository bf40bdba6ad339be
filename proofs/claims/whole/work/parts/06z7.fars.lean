/-! ===== carrying, the model: the labels at their end ===== -/
def st0M (N : Nat) (sp : Nat → Int) (v : Nat) : Int := if 1 ≤ v ∧ v ≤ N ∧ 0 < sp (v - 1) then 0 else 1000000
def WM (W N : Nat) (L sp p p' st : Nat → Int) (hp : Nat → Prop) (q rk : Nat → Nat) (w : Wd) : Prop := (∀ v, v < 52 → -200 ≤ st v ∧ st v ≤ 1000000 ∧ w.1 118 v = iv (st v)) ∧ (∀ v, v < 52 → rk v < 52) ∧ (∀ v, v < 52 → hp v → q v < 2 * (N * N) ∧ oM N L (q v) ∧ tM N (q v) = v ∧ sM N (q v) < 52 ∧ st v = st (sM N (q v)) + cM W N (q v) ∧ rk (sM N (q v)) < rk v ∧ w.1 119 v = iv (sM N (q v) : Nat) ∧ st (sM N (q v)) - pM p p' (sM N (q v)) ≤ st v - pM p p' v) ∧ (∀ v, v < 52 → ¬ hp v → st v < 1000000 → ∃ a, a < N ∧ v = 1 + a ∧ 0 < sp a ∧ st v = 0 ∧ w.1 119 v = 0) ∧ (∀ j, j < 2 * (N * N) → oM N L j → st (tM N j) ≤ st (sM N j) + cM W N j) ∧ (∀ a, a < N → 0 < sp a → st (1 + a) ≤ 0)
section FARS3
variable {W H : Nat} {L sp lk p p' : Nat → Int} {w : Wd}
theorem layFar_s (hg : MW W H w) (hL : ∀ j, j < 625 → w.1 117 j = iv (L j) ∧ 0 ≤ L j ∧ L j ≤ 1000) (hP : PM W (W * H) L p p') (hsp : ∀ a, a < W * H → w.1 115 a = iv (sp a) ∧ 0 ≤ sp a ∧ sp a ≤ 1000) (hlk : ∀ a, a < W * H → w.1 116 a = iv (lk a) ∧ 0 ≤ lk a ∧ lk a ≤ 1000) : ∃ x w1 st hp q rk, fX9_layFar w = some (x, w1) ∧ Kp (fun k => k ≠ 118 ∧ k ≠ 119) w w1 ∧ WM W (W * H) L sp p p' st hp q rk w1 ∧ ((x = -9 ∧ ∀ b, b < W * H → 0 < lk b → 1000000 ≤ st (26 + b)) ∨ (∃ b, b < W * H ∧ x = iv (b : Nat) ∧ 0 < lk b ∧ st (26 + b) < 1000000)) := by
  have hN := WH_le hg.2.1 hg.2.2.2.1
  have hN1 : 1 ≤ W * H := WH_pos hg.1 hg.2.2.1
  have hs0 : ∀ v, v < 52 → 0 ≤ st0M (W * H) sp v ∧ st0M (W * H) sp v ≤ 1000000 := fun v _ => by unfold st0M; split <;> omega
  generalize hQQ : (fun z => ∃ x w1 st hp q rk, z = some (x, w1) ∧ Kp (fun k => k ≠ 118 ∧ k ≠ 119) w w1 ∧ WM W (W * H) L sp p p' st hp q rk w1 ∧ ((x = -9 ∧ ∀ b, b < W * H → 0 < lk b → 1000000 ≤ st (26 + b)) ∨ (∃ b, b < W * H ∧ x = iv (b : Nat) ∧ 0 < lk b ∧ st (26 + b) < 1000000)) : Option (Int32 × Wd) → Prop) = QQ
  have out : ∀ {z : Option (Int32 × Wd)}, (∃ x w1 st hp q rk, z = some (x, w1) ∧ Kp (fun k => k ≠ 118 ∧ k ≠ 119) w w1 ∧ WM W (W * H) L sp p p' st hp q rk w1 ∧ ((x = -9 ∧ ∀ b, b < W * H → 0 < lk b → 1000000 ≤ st (26 + b)) ∨ (∃ b, b < W * H ∧ x = iv (b : Nat) ∧ 0 < lk b ∧ st (26 + b) < 1000000))) ↔ QQ z := by
    intro z; rw [← hQQ]
  rw [out]
  -- the choice
  have choice : ∀ (st : Nat → Int) (hp : Nat → Prop) (q rk : Nat → Nat) (w2 : Wd), WM W (W * H) L sp p p' st hp q rk w2 → Kp (fun k => k ≠ 118 ∧ k ≠ 119) w w2 → QQ (lp (fun _ _ _ => none) bX9_layFar_272 G (-9 : Int32) (0 : Int32) w2) := by
    intro st hp q rk w2 hW hk
    have hg2 : MW W H w2 := hg.kept (hk 99 (by omega)).1
    refine lpB (m := W * H) QQ (fun i x w3 => w3 = w2 ∧ ((x = -9 ∧ ∀ b, b < i → 0 < lk b → 1000000 ≤ st (26 + b)) ∨ (∃ b, b < W * H ∧ x = iv (b : Nat) ∧ 0 < lk b ∧ st (26 + b) < 1000000))) ?_ ?_ (hGn (by omega)) ⟨rfl, Or.inl ⟨rfl, fun b h => by omega⟩⟩
    · rintro i x w3 k hi ⟨rfl, h1⟩
      left
      have e1 := hlk i hi
      have e2 : w3.1 116 i = iv (lk i) := by rw [(hk 116 (by omega)).1]; exact e1.1
      have e3 := hW.1 (26 + i) (by omega)
      have i26 : (26 : Int32) + iv i = iv ((26 + i : Nat) : Int) := by rw [iv_26, iv_add, Int.natCast_add]; rfl
      unfold bX9_layFar_272 jX9_layFar_334 jX9_layFar_330 jX9_layFar_335
      rw [mcells_s hg2, bnd_s, if_neg (iv_Nle (by omega) hi), gI_iv (by rw [LI_116]; omega) (by rw [LI_116]; omega), bind_s, e2, iv_s1]
      have keep : (0 < lk i → 1000000 ≤ st (26 + i)) → ∃ x' w', k x (iv ((i + 1 : Nat) : Int)) w3 = k x' (iv ((i + 1 : Nat) : Int)) w' ∧ w' = w3 ∧ ((x' = -9 ∧ ∀ b, b < i + 1 → 0 < lk b → 1000000 ≤ st (26 + b)) ∨ (∃ b, b < W * H ∧ x' = iv (b : Nat) ∧ 0 < lk b ∧ st (26 + b) < 1000000)) := fun hh => by
        refine ⟨x, w3, rfl, rfl, ?_⟩
        rcases h1 with ⟨a1, a2⟩ | a
        · exact Or.inl ⟨a1, fun b hb => by
            by_cases y : b = i
            · subst y; exact hh
            · exact a2 b (by omega)⟩
        · exact Or.inr a
      by_cases z : lk i ≤ 0
      · rw [if_pos (by rw [iv_0, iv_le (by omega) (by omega)]; exact z)]
        exact keep (fun y => by omega)
      · rw [if_neg (by rw [iv_0, iv_le (by omega) (by omega)]; exact z), i26, gI_iv (by rw [LI_118]; omega) (by rw [LI_118]; omega), bind_s, e3.2.2]
        by_cases z2 : 1000000 ≤ st (26 + i)
        · rw [if_pos (by rw [iv_M, iv_le (by omega) (by omega)]; exact z2)]
          exact keep (fun _ => z2)
        · rw [if_neg (by rw [iv_M, iv_le (by omega) (by omega)]; exact z2)]
          have new : ∃ x' w', k (iv i) (iv ((i + 1 : Nat) : Int)) w3 = k x' (iv ((i + 1 : Nat) : Int)) w' ∧ w' = w3 ∧ ((x' = -9 ∧ ∀ b, b < i + 1 → 0 < lk b → 1000000 ≤ st (26 + b)) ∨ (∃ b, b < W * H ∧ x' = iv (b : Nat) ∧ 0 < lk b ∧ st (26 + b) < 1000000)) := ⟨iv i, w3, rfl, rfl, Or.inr ⟨i, hi, rfl, by omega, by omega⟩⟩
          by_cases z3 : x = -9
          · rw [if_pos z3]; exact new
          · rw [if_neg z3]
            rcases h1 with ⟨a1, a2⟩ | ⟨b, a1, a2, a3, a4⟩
            · exact absurd a1 z3
            · have b26 : (26 : Int32) + x = iv ((26 + b : Nat) : Int) := by rw [a2, iv_26, iv_add, Int.natCast_add]; rfl
              rw [bind_s, b26, gI_iv (by rw [LI_118]; omega) (by rw [LI_118]; omega), bind_s]
              by_cases z4 : w3.1 118 (26 + b) ≤ iv (st (26 + i))
              · rw [if_pos z4]
                exact ⟨x, w3, rfl, rfl, Or.inr ⟨b, a1, a2, a3, a4⟩⟩
              · rw [if_neg z4]; exact new
    · rintro x w3 k ⟨rfl, h1⟩
      unfold bX9_layFar_272
      rw [mcells_s hg2, bnd_s, if_pos iv_Nle', ← out]
      exact ⟨x, w3, st, hp, q, rk, rfl, hk, hW, h1⟩
  -- the rounds
  have rounds : ∀ w2, WSm (W * H) (st0M (W * H) sp) (st0M (W * H) sp) (fun _ => False) (fun _ => 0) w2 → Kp (fun k => k ≠ 118 ∧ k ≠ 119) w w2 → QQ (lp (fun _ _ => none) bX9_layFar_67 G (1 : Int32) w2) := by
    intro w2 c1 c2
    refine lpG (fun (F : Int32 → Wd → Option (Int32 × Wd)) (s : Int32 × Wd) => F s.1 s.2) QQ (fun mm s => ∃ r, mm + r = 60 ∧ r ≤ 52 ∧ ∃ st hp q tm gn T, BFI 52 (2 * (W * H * (W * H))) (sM (W * H)) (tM (W * H)) (oM (W * H) L) (cM W (W * H)) (pM p p') (st0M (W * H) sp) st hp q tm gn T r ∧ WSm (W * H) (st0M (W * H) sp) st hp q s.2 ∧ Kp (fun k => k ≠ 118 ∧ k ≠ 119) w s.2 ∧ ((s.1 = 0 ∧ ∀ j, j < 2 * (W * H * (W * H)) → Sa (sM (W * H)) (tM (W * H)) (oM (W * H) L) (cM W (W * H)) 2000000 st j) ∨ (s.1 = 1 ∧ r ≤ 51 ∧ ∀ j, j < 2 * (W * H * (W * H)) → Sa (sM (W * H)) (tM (W * H)) (oM (W * H) L) (cM W (W * H)) 2000000 st j ∨ r ≤ gn (sM (W * H) j)))) ?_ G 60 ((1 : Int32), w2) (hGn (by omega)) ⟨0, by omega, by omega, st0M (W * H) sp, fun _ => False, fun _ => 0, fun _ => 0, fun _ => 0, 1, BFI_init _, c1, c2, Or.inr ⟨rfl, by omega, fun j _ => Or.inr (by omega)⟩⟩
    rintro mm ⟨x, w3⟩ k ⟨r, e1, e2, st, hp, q, tm, gn, T, b1, b2, b3, b4⟩
    show (∃ (s' : Int32 × Wd) (m' : Nat), m' < mm ∧ bX9_layFar_67 k x w3 = k s'.1 s'.2 ∧ _) ∨ QQ (bX9_layFar_67 k x w3)
    have src52 : ∀ j, j < 2 * (W * H * (W * H)) → sM (W * H) j < 52 := fun j hj => by
      obtain ⟨ha, hb⟩ := ab_lt hN1 hj
      unfold sM; split <;> omega
    unfold bX9_layFar_67
    rcases b4 with ⟨z, b5⟩ | ⟨z, b6, b5⟩
    · right
      have z : x = 0 := z
      rw [if_pos z]
      refine choice st hp q (rkN 52 st (pM p p') tm) w3 ⟨fun v hv => ?_, b1.rank.1, fun v hv hh => ?_, fun v hv hh hlt => ?_, fun j hj ho => ?_, fun a ha hpos => ?_⟩ b3
      · have := st_bd hP hs0 b1 hv
        exact ⟨this.1, this.2, (b2 v hv).1⟩
      · obtain ⟨a1, a2, a3, a4, a5, a6, a7⟩ := (b1 v hv).2.2.2.2 hh
        refine ⟨a1, a2, a3, a4, ?_, b1.rank.2.1 v hv hh, (b2 v hv).2.1 hh, by omega⟩
        have := b5 (q v) a1 a2 (by have := st_bd hP hs0 b1 a4; omega)
        rw [a3] at this
        omega
      · have e3 := ((b1 v hv).2.2.2.1 hh).2
        rw [e3] at hlt ⊢
        have e4 := (b2 v hv).2.2 hh
        unfold st0M at hlt e4 ⊢
        by_cases y : 1 ≤ v ∧ v ≤ W * H ∧ 0 < sp (v - 1)
        · rw [if_pos y] at e4 ⊢
          exact ⟨v - 1, by omega, by omega, y.2.2, rfl, e4 rfl⟩
        · rw [if_neg y] at hlt; omega
      · exact b5 j hj ho (by have := st_bd hP hs0 b1 (src52 j hj); omega)
      · have e3 := (b1 (1 + a) (by omega)).2.2.1
        have e4 : st0M (W * H) sp (1 + a) = 0 := by
          unfold st0M
          rw [if_pos ⟨by omega, by omega, by rw [show 1 + a - 1 = a by omega]; exact hpos⟩]
        omega
    · have z : x = 1 := z
      rw [if_neg (by rw [z]; decide)]
      refine layFar_in hg hL hP hs0 (r := r + 1) (fun y => (∃ (s' : Int32 × Wd) (m' : Nat), m' < mm ∧ y = k s'.1 s'.2 ∧ ∃ r, m' + r = 60 ∧ r ≤ 52 ∧ ∃ st hp q tm gn T, BFI 52 (2 * (W * H * (W * H))) (sM (W * H)) (tM (W * H)) (oM (W * H) L) (cM W (W * H)) (pM p p') (st0M (W * H) sp) st hp q tm gn T r ∧ WSm (W * H) (st0M (W * H) sp) st hp q s'.2 ∧ Kp (fun k => k ≠ 118 ∧ k ≠ 119) w s'.2 ∧ ((s'.1 = 0 ∧ ∀ j, j < 2 * (W * H * (W * H)) → Sa (sM (W * H)) (tM (W * H)) (oM (W * H) L) (cM W (W * H)) 2000000 st j) ∨ (s'.1 = 1 ∧ r ≤ 51 ∧ ∀ j, j < 2 * (W * H * (W * H)) → Sa (sM (W * H)) (tM (W * H)) (oM (W * H) L) (cM W (W * H)) 2000000 st j ∨ r ≤ gn (sM (W * H) j)))) ∨ QQ y) ⟨st, hp, q, tm, gn, T, b1.later (by omega), fun j hj => ?_, b2, b3, Or.inl ⟨rfl, fun v hv => by have := (b1 v hv).2.1; omega⟩⟩ (fun x' w4 hF => ?_)
      · rcases b5 j hj with a | a
        · exact Or.inl a
        · exact Or.inr (Or.inl ⟨by omega, by omega⟩)
      · left
        obtain ⟨st, hp, q, tm, gn, T, d1, d2, d3, d4, d5⟩ := hF
        rcases d5 with ⟨rfl, d6⟩ | ⟨rfl, v, d6, d7⟩
        · -- nothing changed: all is bound
          refine ⟨((0 : Int32), w4), 60 - (r + 1), by omega, rfl, r + 1, by omega, by omega, st, hp, q, tm, gn, T, d1, d3, d4, Or.inl ⟨rfl, fun j hj => ?_⟩⟩
          rcases d2 j hj with a | a | a
          · exact a
          · omega
          · have := d6 _ (src52 j hj)
            omega
        · have := d1.gen d6
          refine ⟨((1 : Int32), w4), 60 - (r + 1), by omega, rfl, r + 1, by omega, by omega, st, hp, q, tm, gn, T, d1, d3, d4, Or.inr ⟨rfl, by omega, fun j hj => ?_⟩⟩
          rcases d2 j hj with a | a | a
          · exact Or.inl a
          · omega
          · exact Or.inr (by omega)
  -- the sources
  have sources : ∀ w2, (∀ v, v < 52 → w2.1 118 v = iv 1000000) → Kp (fun k => k ≠ 118 ∧ k ≠ 119) w w2 → QQ (lp (fun _ _ => none) bX9_layFar_24 G (0 : Int32) w2) := by
    intro w2 c1 c2
    refine lpA (m := W * H) QQ (fun i w3 => (∀ v, v < 52 → w3.1 118 v = iv (if 1 ≤ v ∧ v ≤ i ∧ 0 < sp (v - 1) then 0 else 1000000)) ∧ (∀ a, a < i → 0 < sp a → w3.1 119 (1 + a) = 0) ∧ Kp (fun k => k ≠ 118 ∧ k ≠ 119) w w3) ?_ ?_ (hGn (by omega)) ⟨fun v hv => by rw [if_neg (by omega)]; exact c1 v hv, fun a h => by omega, c2⟩
    · rintro i w3 k hi ⟨d1, d2, d3⟩
      left
      have hg3 : MW W H w3 := hg.kept (d3 99 (by omega)).1
      have e1 := hsp i hi
      have e2 : w3.1 115 i = iv (sp i) := by rw [(d3 115 (by omega)).1]; exact e1.1
      have i1 : (1 : Int32) + iv i = iv ((1 + i : Nat) : Int) := by rw [iv_1, iv_add, Int.natCast_add]; rfl
      unfold bX9_layFar_24 jX9_layFar_59
      rw [mcells_s hg3, bnd_s, if_neg (iv_Nle (by omega) hi), gI_iv (by rw [LI_115]; omega) (by rw [LI_115]; omega), bind_s, e2, iv_s1]
      by_cases z : sp i ≤ 0
      · rw [if_pos (by rw [iv_0, iv_le (by omega) (by omega)]; exact z)]
        refine ⟨w3, rfl, fun v hv => ?_, fun a ha hpos => ?_, d3⟩
        · rw [d1 v hv]
          by_cases y : 1 ≤ v ∧ v ≤ i ∧ 0 < sp (v - 1)
          · rw [if_pos y, if_pos ⟨y.1, by omega, y.2.2⟩]
          · rw [if_neg y, if_neg (fun u => ?_)]
            by_cases t : v = i + 1
            · rw [t, show i + 1 - 1 = i by omega] at u; omega
            · exact y ⟨u.1, by omega, u.2.2⟩
        · by_cases t : a = i
          · rw [t] at hpos; omega
          · exact d2 a (by omega) hpos
      · rw [if_neg (by rw [iv_0, iv_le (by omega) (by omega)]; exact z), i1, sI_iv (by rw [LI_118]; omega) (by rw [LI_118]; omega), bind_s, sI_iv (by rw [LI_119]; omega) (by rw [LI_119]; omega), bind_s]
        refine ⟨_, rfl, fun v hv => ?_, fun a ha hpos => ?_, d3.trans ((Kp.uI (fun z => z.1 rfl)).trans (Kp.uI (fun z => z.2 rfl)))⟩
        · rw [uI_row (by omega)]
          by_cases t : v = 1 + i
          · rw [t, uI_same, if_pos ⟨by omega, by omega, by rw [show 1 + i - 1 = i by omega]; omega⟩]; rfl
          · rw [uI_other (Or.inr t), d1 v hv]
            by_cases y : 1 ≤ v ∧ v ≤ i ∧ 0 < sp (v - 1)
            · rw [if_pos y, if_pos ⟨y.1, by omega, y.2.2⟩]
            · rw [if_neg y, if_neg (fun u => y ⟨u.1, by omega, u.2.2⟩)]
        · by_cases t : a = i
          · rw [t, uI_same]
          · rw [uI_other (Or.inr (by omega)), uI_row (by omega)]; exact d2 a (by omega) hpos
    · rintro w3 k ⟨d1, d2, d3⟩
      have hg3 : MW W H w3 := hg.kept (d3 99 (by omega)).1
      unfold bX9_layFar_24
      rw [mcells_s hg3, bnd_s, if_pos iv_Nle']
      refine rounds w3 (fun v hv => ⟨d1 v hv, fun z => z.elim, fun _ hz => ?_⟩) d3
      unfold st0M at hz
      by_cases y : 1 ≤ v ∧ v ≤ W * H ∧ 0 < sp (v - 1)
      · have := d2 (v - 1) (by omega) y.2.2
        rw [show 1 + (v - 1) = v by omega] at this
        exact this
      · rw [if_neg y] at hz; omega
  unfold fX9_layFar
  refine lpA (m := 52) QQ (fun i w3 => (∀ v, v < i → w3.1 118 v = iv 1000000) ∧ Kp (fun k => k ≠ 118 ∧ k ≠ 119) w w3) ?_ ?_ (hGn (by omega)) ⟨fun v h => by omega, Kp.rf⟩
  · rintro i w3 k hi ⟨d1, d2⟩
    left
    unfold bX9_layFar_2
    rw [if_neg (by rw [iv_52, iv_le (by omega) (by omega)]; omega), sI_iv (by rw [LI_118]; omega) (by rw [LI_118]; omega), bind_s, iv_s1]
    refine ⟨_, rfl, fun v hv => ?_, d2.trans (Kp.uI (fun z => z.1 rfl))⟩
    by_cases t : v = i
    · rw [t, uI_same, iv_M]
    · rw [uI_other (Or.inr t)]; exact d1 v (by omega)
  · rintro w3 k ⟨d1, d2⟩
    unfold bX9_layFar_2
    rw [if_pos (by decide)]
    exact sources w3 d1 d2
end FARS3
