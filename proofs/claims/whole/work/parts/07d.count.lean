/-! ===== count: the fewest; the step ===== -/
/-- what the fewest leave as it was -/
def kfew (w w1 : Wd) : Prop := Kp (fun k => k ≠ 19 ∧ k ≠ 77 ∧ k ≠ 78) w w1 ∧ (∀ i, i ≠ 7 → i ≠ 8 → w1.1 19 i = w.1 19 i)
theorem kfew.trans {w w1 w2 : Wd} (h : kfew w w1) (h' : kfew w1 w2) : kfew w w2 := ⟨h.1.trans h'.1, fun i a b => (h'.2 i a b).trans (h.2 i a b)⟩
theorem kfew.row {w w1 : Wd} {B : Nat} (hB : B = 77 ∨ B = 78) (h : Kp (fun j => j ≠ B) w w1) : kfew w w1 := ⟨h.weak fun k z => by omega, fun i _ _ => by rw [(h 19 (by omega)).1]⟩
theorem roles_LI {A B : Nat} (h : roles A B) : LI A = 64 ∧ LI B = 64 := by
  rcases h with ⟨rfl, rfl⟩ | ⟨rfl, rfl⟩
  · exact ⟨LI_77, LI_78⟩
  · exact ⟨LI_78, LI_77⟩
theorem RW.row {A B k : Nat} {w w1 : Wd} (h : RW A B w) (hk : k ≠ 19) (h1 : Kp (fun j => j ≠ k) w w1) : RW A B w1 := ⟨h.1, by rw [(h1 19 (by omega)).1]; exact h.2.1, by rw [(h1 19 (by omega)).1]; exact h.2.2⟩
section FEW2
variable {q : Tl} {w : Wd}
theorem kfew.GT {w1 : Wd} (hk : kfew w w1) (h : GT q w) : GT q w1 := h.kept2 (hk.1.weak fun k z => by omega)
theorem fewestCubes_s (h : GT q w) {A B : Nat} (hR : RW A B w) : ∃ x w1 A' B', fX1_fewestCubes w = some (iv x, w1) ∧ kfew w w1 ∧ RW A' B' w1 ∧ MNm (PSm q (qN q) (allM (qW q))) x := by
  have hN := qN_le h.1
  have hS := two64 h.1.1.2.1
  have hp2 : 0 < 2 ^ (qW q + 1) := Nat.two_pow_pos _
  have hAB := hR.1
  have hL := roles_LI hAB
  have hA : A = 77 ∨ A = 78 := by unfold roles at hAB; omega
  have r7 : rl (w.1 19 7) = A := by rw [hR.2.1]; exact rl_iv (by omega)
  obtain ⟨wa, a1, a2, a3⟩ := fill_s (k := A) (by omega) (by omega) 1000 w
  have r7a : rl (wa.1 19 7) = A := by rw [(a3 19 (by omega)).1]; exact r7
  unfold fX1_fewestCubes
  rw [r7, a1, bnd_s, r7a, iv_0, show iv 0 = iv ((0 : Nat) : Int) from rfl, sI_iv (by omega) (by omega), bind_s]
  have ka : Kp (fun j => j ≠ A) w (uI wa A 0 (iv ((0 : Nat) : Int))) := a3.trans (Kp.uI (fun z => z rfl))
  refine lpA (m := qN q) (fun r => ∃ x w1 A' B', r = some (iv x, w1) ∧ kfew w w1 ∧ RW A' B' w1 ∧ MNm (PSm q (qN q) (allM (qW q))) x) (fun c w' => ∃ (A B : Nat) (D : Nat → Int), RW A B w' ∧ kfew w w' ∧ ∀ s, s < 2 ^ (qW q + 1) → w'.1 A s = iv (D s) ∧ MNm (PSm q c s) (D s)) ?_ ?_ (hGn (by omega)) ⟨A, B, fun s => if s = 0 then 0 else 1000, hR.row (by omega) ka, kfew.row hA ka, fun s hs => ?_⟩
  · rintro c w' k hc ⟨A, B, D, c1, c2, c3⟩
    left
    have h' := c2.GT h
    have hAB := c1.1
    have hL := roles_LI hAB
    have hA : A = 77 ∨ A = 78 := by unfold roles at hAB; omega
    have hB : B = 77 ∨ B = 78 := by unfold roles at hAB; omega
    have hne : A ≠ B := by unfold roles at hAB; omega
    have r8 : rl (w'.1 19 8) = B := by rw [c1.2.2]; exact rl_iv (by omega)
    obtain ⟨wb, b1, b2, b3⟩ := fill_s (k := B) (by omega) (by omega) 1000 w'
    unfold bX1_fewestCubes_19
    rw [cells_q h', bnd_s, if_neg (iv_Nle (by omega) hc), r8, b1, bnd_s]
    refine lpT (α := Int32 → Int32 → Wd → Option (Int32 × Wd)) (τ := Unit) (fun f _ i w => f (iv c) i w) (m := 4) (fun r => ∃ w'', r = k (iv ((c + 1 : Nat) : Int)) w'' ∧ ∃ (A B : Nat) (D : Nat → Int), RW A B w'' ∧ kfew w w'' ∧ ∀ s, s < 2 ^ (qW q + 1) → w''.1 A s = iv (D s) ∧ MNm (PSm q (c + 1) s) (D s)) (fun i _ w2 => Kp (fun j => j ≠ B) w' w2 ∧ ∃ E : Nat → Int, ∀ u, u < 2 ^ (qW q + 1) → w2.1 B u = iv (E u) ∧ MNm (PTm q c i 0 u) (E u)) ?_ ?_ (hGn (by omega)) (x := ()) ⟨b3, fun _ => 1000, fun u hu => ⟨by rw [b2 u (by omega), iv_1000], Or.inl ⟨rfl, fun z hz => ?_⟩⟩⟩
    · rintro i _ w2 k42 hi ⟨d1, E, d2⟩
      left
      have k2 : kfew w' w2 := kfew.row hB d1
      obtain ⟨w3, E', f1, f2, f3⟩ := addFewest_s (k2.GT h') (c1.row (by omega) d1) hc hi (D := D) (fun s hs => by rw [(d1 A hne).1]; exact c3 s hs) d2
      show ∃ (x' : Unit) (w4 : Wd), bX1_fewestCubes_42 k k42 (iv c) (iv i) w2 = k42 (iv c) (iv ((i + 1 : Nat) : Int)) w4 ∧ _
      unfold bX1_fewestCubes_42
      rw [if_neg (by rw [iv_4, iv_le (by omega) (by omega)]; omega), f1, bnd_s, iv_s1]
      exact ⟨(), w3, rfl, d1.trans f3, E', f2⟩
    · rintro _ w2 k42 ⟨d1, E, d2⟩
      have k2 : kfew w' w2 := kfew.row hB d1
      have c1' := c1.row (k := B) (by omega) d1
      show ∃ w4, bX1_fewestCubes_42 k k42 (iv c) (iv ((4 : Nat) : Int)) w2 = k (iv ((c + 1 : Nat) : Int)) w4 ∧ _
      unfold bX1_fewestCubes_42
      rw [if_pos (by decide), iv_s1, c1'.2.1, c1'.2.2]
      refine ⟨_, rfl, B, A, E, ⟨?_, ?_, uI_same⟩, c2.trans (k2.trans ⟨(Kp.uI (fun z => z.1 rfl)).trans (Kp.uI (fun z => z.1 rfl)), fun i i1 i2 => by rw [uI_other (Or.inr i2), uI_other (Or.inr i1)]⟩), fun s hs => ?_⟩
      · unfold roles at hAB ⊢; omega
      · rw [uI_other (Or.inr (by omega)), uI_same]
      · rw [uI_row (by omega), uI_row (by omega)]
        refine ⟨(d2 s hs).1, (d2 s hs).2.congr (fun z => ?_)⟩
        constructor
        · rintro ⟨h', s', g1, g2, g3, g4, g5⟩
          exact ⟨h', ⟨s', g1, g2, g3⟩, g5⟩
        · rintro ⟨h', ⟨s', g1, g2, g3⟩, g5⟩
          exact ⟨h', s', g1, g2, g3, Or.inl (knd_lt _ _ _), g5⟩
    · obtain ⟨h', s', g1, g2, g3, g4, g5⟩ := hz
      omega
  · rintro w' k ⟨A, B, D, c1, c2, c3⟩
    have h' := c2.GT h
    have hAB := c1.1
    have hL := roles_LI hAB
    have hA : A = 77 ∨ A = 78 := by unfold roles at hAB; omega
    have r7 : rl (w'.1 19 7) = A := by rw [c1.2.1]; exact rl_iv (by omega)
    have hal := allM_lt (qW q)
    unfold bX1_fewestCubes_19
    rw [cells_q h', bnd_s, if_pos iv_Nle', allMet_s h', bnd_s, r7, gI_iv (by omega) (by omega), bind_s, (c3 _ hal).1]
    exact ⟨D (allM (qW q)), w', A, B, rfl, c2, c1, (c3 _ hal).2⟩
  · by_cases z : s = 0
    · subst z
      refine ⟨by rw [uI_same]; rfl, Or.inr ⟨⟨fun _ => 0, rfl, rfl⟩, by show (0 : Int) ≠ 1000; omega, fun y hy => ?_⟩⟩
      obtain ⟨h', _, rfl⟩ := hy
      exact Int.le_refl _
    · have e1 : (fun s => if s = 0 then (0 : Int) else 1000) s = 1000 := if_neg z
      rw [e1]
      refine ⟨by rw [uI_other (Or.inr z), a2 s (by omega), iv_1000], Or.inl ⟨rfl, fun y hy => ?_⟩⟩
      obtain ⟨h', g1, _⟩ := hy
      exact z g1
end FEW2
section STEPS
variable {t : Nat} {w : Wd}
theorem kfew.CS {a : Ab} {w1 : Wd} (hk : kfew w w1) (h : CS a w) {A B : Nat} (hR : RW A B w1) : CS a w1 := by
  obtain ⟨h1, h2, h3, h4, h5, h6, h7, h8⟩ := h
  have st : ∀ {k}, (k ≠ 19 ∧ k ≠ 77 ∧ k ≠ 78) → w1.1 k = w.1 k := fun z => (hk.1 _ z).1
  refine ⟨h1.kept (hk.1.weak fun k z => by omega), fun s hs c hc => ?_, fun x hx => ?_, fun y hy => ?_, fun c hc => ?_, fun x hx => ?_, fun y hy => ?_, ?_⟩
  · rw [st (by omega)]; exact h2 s hs c hc
  · rw [st (by omega)]; exact h3 x hx
  · rw [st (by omega)]; exact h4 y hy
  · rw [st (by omega)]; exact h5 c hc
  · rw [st (by omega)]; exact h6 x hx
  · rw [st (by omega)]; exact h7 y hy
  · obtain ⟨r1, r2, r3⟩ := hR
    rcases r1 with ⟨rfl, rfl⟩ | ⟨rfl, rfl⟩
    · exact Or.inl ⟨r2, r3⟩
    · exact Or.inr ⟨r2, r3⟩
theorem kfew.VS {FT : Tl → Wd → Prop} (hF : FTk FT) {a : Ab} {w1 : Wd} (hk : kfew w w1) (h : VS FT t a w) : VS FT t a w1 := by
  obtain ⟨tv, fv, h1, h2, h3, h4, h5⟩ := h
  exact ⟨tv, fv, by rw [(hk.1 14 (by omega)).1]; exact h1, by rw [hk.2 9 (by omega) (by omega)]; exact h2, h3, h4, fun z => hF _ w w1 (fun k q1 q2 => hk.1 k (by omega)) (h5 z)⟩
theorem CS.RW {a : Ab} (h : CS a w) : ∃ A B, RW A B w := by
  rcases h.2.2.2.2.2.2.2 with ⟨r1, r2⟩ | ⟨r1, r2⟩
  · exact ⟨77, 78, Or.inl ⟨rfl, rfl⟩, r1, r2⟩
  · exact ⟨78, 77, Or.inr ⟨rfl, rfl⟩, r1, r2⟩
theorem g20 (ht : t < 512) (hg : Good FTc t w) (p r d : Int32) : ∃ w', st20 p r d w = some w' ∧ Good FTc (t + 1) w' := by
  obtain ⟨a, ha, hc, hm, hv⟩ := hg
  have hN : qN (aTl a) ≤ 25 := aN_le ha
  have hRb := R_bd (alC (aTl a)) (q := aTl a) hN 0 0
  unfold st20
  generalize bz p = T
  have hB := B_all T ha.q
  -- the model's side
  have mod : ∀ w1, MS a w1 → ∃ w2, fX9_count T w1 = some (iv (Bc T (aTl a) 0 0), w2) ∧ MS a w2 ∧ Kp cR w1 w2 := fun w1 hm1 => by
    obtain ⟨w2, b1, b2⟩ := mcount_s (hm1.ml ha) T
    exact ⟨w2, b1, hm1.kept (b2.weak fun k z => by unfold stM at z; omega), b2.weak fun k z => by unfold cR at z; omega⟩
  refine comb FTkc (v := iv (Bc T (aTl a) 0 0)) (a1 := a) ha hm ?_ mod
  obtain ⟨w1, e1, e2, e3, e4, e5, e6⟩ := refresh_s ht ha hc hv
  have hall : fX1_all w1 = some (kv (Rc2 (alC (aTl a)) (aTl a) 0 0), w1) := all_s e2
  have hR0 : Rc2 (alC (aTl a)) (aTl a) 0 0 = Rn (alC (aTl a)) (aTl a) (qN (aTl a)) 0 := rfl
  by_cases z : Rc2 (alC (aTl a)) (aTl a) 0 0 = 0
  · have hno : ¬ ∃ h, Sf (aTl a) h (qN (aTl a)) 0 := fun ⟨h, hh⟩ => by
      have := Sf_R hN _ _ hh
      omega
    have hb9 : Bc T (aTl a) 0 0 = -9 := by
      rcases hB with ⟨q1, _⟩ | ⟨⟨h, q1, _⟩, _⟩
      · exact q1
      · exact absurd ⟨h, q1⟩ hno
    refine ⟨w1, ?_, e4, e5.up, e6⟩
    unfold fX8_count
    rw [e1, bnd_s, if_pos rfl, hall, bnd_s, if_pos (by rw [z]; rfl), hb9, iv_m9]
  · obtain ⟨h0, hh0⟩ := R_Sf (q := aTl a) (qN (aTl a)) 0 (Nat.le_refl _) (by omega)
    have hne : ¬ kv (Rc2 (alC (aTl a)) (aTl a) 0 0) = (0 : Int64) := by rw [kv0 hRb]; exact z
    by_cases hT : T = 0
    · obtain ⟨A, B, hR⟩ := e4.RW
      obtain ⟨x, w2, A', B', f1, f2, f3, f4⟩ := fewestCubes_s e3 hR
      have hx : x = Bc T (aTl a) 0 0 := by
        have sum : ∀ h, Pf (aTl a) h (qN (aTl a)) (allM (qW (aTl a))) ↔ Sf (aTl a) h (qN (aTl a)) 0 := fun h => Pf_iff
        rcases f4 with ⟨_, q2⟩ | ⟨⟨h1, q1, q2⟩, _, q3⟩
        · exact absurd ⟨h0, (sum h0).mpr hh0, rfl⟩ (q2 _)
        · rcases hB with ⟨_, s2⟩ | ⟨⟨h2, s1, s2⟩, _, s3⟩
          · exact absurd ⟨h0, hh0, rfl⟩ (s2 _)
          · have g1 := q3 _ ⟨h2, (sum h2).mpr s1, rfl⟩
            have g2 := (s3 _ ⟨h1, (sum h1).mp q1, rfl⟩).1 hT
            rw [cs_all] at s2 g2
            omega
      refine ⟨w2, ?_, f2.CS e4 f3, (f2.VS FTkc e5).up, e6.trans (f2.1.weak fun k z => by unfold mR at z; omega)⟩
      unfold fX8_count
      rw [e1, bnd_s, if_pos rfl, hall, bnd_s, if_neg hne, if_pos hT, f1, bnd_s, hx]
    · have hbest := hi_best ha.q hh0
      have hx : sm (fun c => (hiC (aTl a) c : Int)) (qN (aTl a)) = Bc T (aTl a) 0 0 := by
        rcases hB with ⟨_, s2⟩ | ⟨⟨h2, s1, s2⟩, _, s3⟩
        · exact absurd ⟨h0, hh0, rfl⟩ (s2 _)
        · have g1 := hbest.2 h2 s1
          have g2 := (s3 _ ⟨_, hbest.1, rfl⟩).2 hT
          rw [cs_all] at g2
          rw [cs_all (hiC (aTl a))] at g1
          omega
      refine ⟨w1, ?_, e4, e5.up, e6⟩
      unfold fX8_count
      rw [e1, bnd_s, if_pos rfl, hall, bnd_s, if_neg hne, if_neg hT, mostCubes_s e3, bnd_s, hx]
end STEPS
