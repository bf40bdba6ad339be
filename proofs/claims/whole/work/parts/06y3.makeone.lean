/-! ===== sums, the class: shift, a first heap, and how far a cell goes ===== -/
section CUTS
variable {P Q N : Nat} {e : Nat → Nat → Nat} {lo hi f A B : Nat → Int}
/-- what no way leads out of: there is none -/
theorem make_cut (hE : EOK P Q N e) {S : Nat → Prop} (hcl : ∀ m n, S m → nOK P Q n → opp m n → ps e lo hi f m n → S n) {r : Nat} (hr : r < P) (hQ : 0 < Q) (hSr : S r) (hl : ∀ i, i < P → lS Q e f i ≤ A i) (hlt : lS Q e f r < A r) (hh : ∀ j, j < Q → S (5 + j) → hS P e f j = B j) : ¬ ∃ g, Fe P Q N e A B lo hi g := by
  rintro ⟨g, hg⟩
  have hP := hE.1
  have hn : ∀ i j, i < P → j < Q → (ch (S i) - ch (S (5 + j))) * (g (e i j) - f (e i j)) ≤ 0 := fun i j hi' hj => cut_term (lo := lo) (hi := hi) (fun a b => hcl i (5 + j) a (Or.inr ⟨by omega, by omega⟩) (Or.inl ⟨by omega, by omega⟩) (by
      unfold ps ec
      rw [if_pos (show i < 5 by omega), if_pos (show i < 5 by omega), show 5 + j - 5 = j by omega]; exact b)) (fun a b => hcl (5 + j) i a (Or.inl hi') (Or.inr ⟨by omega, by omega⟩) (by
      unfold ps ec
      rw [if_neg (show ¬ 5 + j < 5 by omega), if_neg (show ¬ 5 + j < 5 by omega), show 5 + j - 5 = j by omega]; exact b)) (hg.1 _ (hE.2.2.1 i j hi' hj))
  have h1 := cut_fin hn hr hQ
  have h2 := hn r 0 hr hQ
  have e1 : sm (fun j => ch (S (5 + j)) * (hS P e g j - hS P e f j)) Q = sm (fun _ => 0) Q := sm_congr (fun j hj => by
    by_cases z : S (5 + j)
    · rw [hg.2.2 j hj, hh j hj z]; omega
    · rw [ch_n z, Int.zero_mul])
  have nn : ∀ i, i < P → 0 ≤ ch (S i) * (lS Q e g i - lS Q e f i) := fun i hi' => by
    have := hl i hi'
    rw [hg.2.1 i hi']
    by_cases z : S i
    · rw [ch_y z]; omega
    · rw [ch_n z]; omega
  have e2 := sm_mem (f := fun i => ch (S i) * (lS Q e g i - lS Q e f i)) nn hr
  have e3 : ch (S r) * (lS Q e g r - lS Q e f r) = A r - lS Q e f r := by
    rw [ch_y hSr, hg.2.1 r hr]; omega
  rw [e3] at e2
  rw [e1, sm_zero] at h1
  omega
theorem shift_cut (hE : EOK P Q N e) {lo' hi' f1 g : Nat → Int} {i0 j0 : Nat} (hne : ∀ k, k ≠ e i0 j0 → lo' k = lo k ∧ hi' k = hi k ∧ f1 k = f k) (hf : Fe P Q N e A B lo hi f) (hg : Fe P Q N e A B lo hi g) {S : Nat → Prop} (hcl : ∀ m n, S m → nOK P Q n → opp m n → ps e lo' hi' f1 m n → S n) (hi0 : i0 < P) (hj0 : j0 < Q) : (S i0 → ¬ S (5 + j0) → f (e i0 j0) ≤ g (e i0 j0)) ∧ (S (5 + j0) → ¬ S i0 → g (e i0 j0) ≤ f (e i0 j0)) := by
  have hP := hE.1
  have key : (ch (S i0) - ch (S (5 + j0))) * (g (e i0 j0) - f (e i0 j0)) ≤ 0 → 0 ≤ (ch (S i0) - ch (S (5 + j0))) * (g (e i0 j0) - f (e i0 j0)) := fun h0 => by
    have hn : ∀ i j, i < P → j < Q → (ch (S i) - ch (S (5 + j))) * (g (e i j) - f (e i j)) ≤ 0 := fun i j hii hj => by
      by_cases z : e i j = e i0 j0
      · obtain ⟨rfl, rfl⟩ := hE.2.2.2 _ _ _ _ hii hj hi0 hj0 z
        exact h0
      · obtain ⟨z1, z2, z3⟩ := hne _ z
        exact cut_term (lo := lo) (hi := hi) (fun a b => hcl i (5 + j) a (Or.inr ⟨by omega, by omega⟩) (Or.inl ⟨by omega, by omega⟩) (by
          unfold ps ec
          rw [if_pos (show i < 5 by omega), if_pos (show i < 5 by omega), show 5 + j - 5 = j by omega, z2, z3]; exact b)) (fun a b => hcl (5 + j) i a (Or.inl hii) (Or.inr ⟨by omega, by omega⟩) (by
          unfold ps ec
          rw [if_neg (show ¬ 5 + j < 5 by omega), if_neg (show ¬ 5 + j < 5 by omega), show 5 + j - 5 = j by omega, z1, z3]; exact b)) (hg.1 _ (hE.2.2.1 i j hii hj))
    have h1 := cut_fin hn hi0 hj0
    have e1 : sm (fun j => ch (S (5 + j)) * (hS P e g j - hS P e f j)) Q = sm (fun _ => 0) Q := sm_congr (fun j hj => by rw [hg.2.2 j hj, hf.2.2 j hj, Int.sub_self, Int.mul_zero])
    have e2 : sm (fun i => ch (S i) * (lS Q e g i - lS Q e f i)) P = sm (fun _ => 0) P := sm_congr (fun i hi' => by rw [hg.2.1 i hi', hf.2.1 i hi', Int.sub_self, Int.mul_zero])
    rw [e1, e2, sm_zero, sm_zero] at h1
    exact h1
  constructor
  · intro a b
    rw [ch_y a, ch_n b] at key
    omega
  · intro a b
    rw [ch_y a, ch_n b] at key
    omega
end CUTS
def S3 (W H : Nat) (lo hi f : Nat → Int) (w : Wd) : Prop := ∀ c, c < W * H → w.1 83 c = iv (f c) ∧ w.1 84 c = iv (lo c) ∧ w.1 85 c = iv (hi c)
def BL (N : Nat) (lo hi : Nat → Int) : Prop := ∀ c, c < N → 0 ≤ lo c ∧ hi c ≤ 4
/-- no heap goes further at a cell -/
def EX (W H : Nat) (C R lo hi : Nat → Int) (sg : Int) (c : Nat) (f : Nat → Int) : Prop := ∀ g, Fs W H C R lo hi g → (sg = 1 → g c ≤ f c) ∧ (sg = -1 → f c ≤ g c)
section CSUM3
variable {W H : Nat} {C R lo hi f : Nat → Int} {w : Wd}
theorem Fs.BH (h : Fs W H C R lo hi f) (hb : BL (W * H) lo hi) : BH (W * H) lo hi f := fun c hc => ⟨(hb c hc).1, (h.1 c hc).1, (h.1 c hc).2, (hb c hc).2⟩
theorem cell_e (h1 : 1 ≤ W) {c : Nat} (hc : c < W * H) : eR W (c / W) (c % W) = c ∧ c / W < H ∧ c % W < W :=
  ⟨Nat.div_add_mod' c W, Nat.div_lt_of_lt_mul hc, Nat.mod_lt _ h1⟩
theorem shift_s (hg : Gnd W H w) (hs : S3 W H lo hi f w) (hF : Fs W H C R lo hi f) (hb : BL (W * H) lo hi) {c : Nat} (hc : c < W * H) {sg : Int} (hsg : sg = 1 ∨ sg = -1) : ∃ x w1 f', fX4_shift (iv c) (iv sg) w = some (x, w1) ∧ Kp (fun k => k < 83 ∨ 89 < k) w w1 ∧ S3 W H lo hi f' w1 ∧ Fs W H C R lo hi f' ∧ ((x = 1 ∧ f' c = f c + sg) ∨ (x = 0 ∧ f' = f ∧ EX W H C R lo hi sg c f')) := by
  have hN := WH_le hg.1.2.1 hg.1.2.2.2.1
  have hE := eR_ok hg.1.1 hg.1.2.1 hg.1.2.2.2.1
  obtain ⟨ce, ci, cj⟩ := cell_e hg.1.1 hc
  have hW5 := hg.1.2.1
  have hH5 := hg.1.2.2.2.1
  have hbc := hF.BH hb c hc
  have hsc := hs c hc
  have hv : -2 ≤ f c + sg ∧ f c + sg ≤ 6 := by omega
  unfold fX4_shift
  rw [gI_iv (by rw [LI_83]; omega) (by rw [LI_83]; omega), bind_s, gI_iv (by rw [LI_84]; omega) (by rw [LI_84]; omega), bind_s, gI_iv (by rw [LI_85]; omega) (by rw [LI_85]; omega), bind_s, hsc.1, hsc.2.1, hsc.2.2, iv_add]
  by_cases z1 : f c + sg < lo c
  · refine ⟨0, w, f, ?_, Kp.rf, hs, hF, Or.inr ⟨rfl, rfl, fun g hgg => ?_⟩⟩
    · rw [if_pos (by rw [iv_lt (by omega) (by omega)]; exact z1)]; exact zr_0
    · have := hgg.1 c hc
      omega
  by_cases z2 : hi c < f c + sg
  · refine ⟨0, w, f, ?_, Kp.rf, hs, hF, Or.inr ⟨rfl, rfl, fun g hgg => ?_⟩⟩
    · rw [if_neg (by rw [iv_lt (by omega) (by omega)]; exact z1), if_neg (by rw [iv_le (by omega) (by omega)]; omega)]; exact zr_0
    · have := hgg.1 c hc
      omega
  generalize hvv : f c + sg = v at hv z1 z2 ⊢
  rw [if_neg (by rw [iv_lt (by omega) (by omega)]; exact z1), if_pos (by rw [iv_le (by omega) (by omega)]; omega), sI_iv (by rw [LI_83]; omega) (by rw [LI_83]; omega), bind_s, sI_iv (by rw [LI_84]; omega) (by rw [LI_84]; omega), bind_s, sI_iv (by rw [LI_85]; omega) (by rw [LI_85]; omega), bind_s]
  generalize hw6 : uI (uI (uI w 83 c (iv v)) 84 c (iv v)) 85 c (iv v) = w6
  have k6 : Kp (fun k => k < 83 ∨ 89 < k) w w6 := by
    rw [← hw6]
    exact (Kp.uI (fun z => by omega)).trans ((Kp.uI (fun z => by omega)).trans (Kp.uI (fun z => by omega)))
  have hg6 : Gnd W H w6 := hg.kept (k6.weak fun k z => by omega)
  have r83 : ∀ k, k < W * H → w6.1 83 k = iv (pu f c v k) := fun k hk => by
    rw [← hw6, uI_row (by omega), uI_row (by omega)]
    by_cases y : k = c
    · subst y; rw [uI_same, pu_at]
    · rw [uI_other (Or.inr y), pu_ne y]; exact (hs k hk).1
  have r84 : ∀ k, k < W * H → w6.1 84 k = iv (pu lo c v k) := fun k hk => by
    rw [← hw6, uI_row (by omega)]
    by_cases y : k = c
    · subst y; rw [uI_same, pu_at]
    · rw [uI_other (Or.inr y), pu_ne y, uI_row (by omega)]; exact (hs k hk).2.1
  have r85 : ∀ k, k < W * H → w6.1 85 k = iv (pu hi c v k) := fun k hk => by
    rw [← hw6]
    by_cases y : k = c
    · subst y; rw [uI_same, pu_at]
    · rw [uI_other (Or.inr y), pu_ne y, uI_row (by omega), uI_row (by omega)]; exact (hs k hk).2.2
  obtain ⟨w7, b1, b2, b3⟩ := fill_s (k := 86) (by rw [LI_86]; omega) (by rw [LI_86]; omega) 0 w6
  rw [y_s hg6 hc, bnd_s, x_s hg6 hc, bnd_s, b1, bnd_s, iv_5, show (5 : Int) = ((5 : Nat) : Int) from rfl, iv_addN]
  have hBH : BH (W * H) (pu lo c v) (pu hi c v) (pu f c v) := fun k hk => by
    by_cases y : k = c
    · subst y; rw [pu_at, pu_at, pu_at]; omega
    · rw [pu_ne y, pu_ne y, pu_ne y]; exact hF.BH hb k hk
  -- the push, from a node to one that is open
  have main : ∀ st o : Nat, nOK H W st → o < 10 → o ≠ st → (sg = -1 ∧ st = c / W ∧ o = 5 + c % W ∨ sg = 1 ∧ st = 5 + c % W ∧ o = c / W) → ∃ x w1 f', jX4_shift_119 (iv c) (iv sg) (iv v) (iv (lo c)) (iv (hi c)) (iv (st : Nat)) (uI w7 86 o 1) = some (x, w1) ∧ Kp (fun k => k < 83 ∨ 89 < k) w w1 ∧ S3 W H lo hi f' w1 ∧ Fs W H C R lo hi f' ∧ ((x = 1 ∧ f' c = v) ∨ (x = 0 ∧ f' = f ∧ EX W H C R lo hi sg c f')) := by
    intro st o hst ho hne hcase
    have hg8 : Gnd W H (uI w7 86 o 1) := hg6.kept ((b3.weak fun k z => by omega).trans (Kp.uI (fun z => by omega)))
    have hSA : SA W H (pu lo c v) (pu hi c v) (pu f c v) (pu (fun _ => 0) o 1) (uI w7 86 o 1) := by
      refine ⟨fun k hk => ?_, fun n hn => ?_⟩
      · rw [uI_row (by omega), uI_row (by omega), uI_row (by omega), (b3 83 (by omega)).1, (b3 84 (by omega)).1, (b3 85 (by omega)).1]
        exact ⟨r83 k hk, r84 k hk, r85 k hk⟩
      · by_cases y : n = o
        · subst y; rw [uI_same, pu_at]; exact ⟨rfl, by omega, by omega⟩
        · rw [uI_other (Or.inr y), pu_ne y, b2 n (by rw [LI_86]; exact hn)]; exact ⟨rfl, by omega, by omega⟩
    obtain ⟨w9, c1, c2⟩ := push_s hg8 hSA hBH hst
    have k9 : Kp (fun k => k < 83 ∨ 89 < k) w w9 := k6.trans ((b3.weak fun k z => by omega).trans ((Kp.uI (fun z => by omega)).trans (c1.weak fun k z => by omega)))
    unfold jX4_shift_119 jX4_shift_138
    rcases c2 with ⟨d1, d2, S, d3, d4, d5⟩ | ⟨en, f', d1, d2, d3, d4, d5, d6, d7, d8⟩
    · refine ⟨0, uI (uI (uI w9 83 c (iv (f c))) 84 c (iv (lo c))) 85 c (iv (hi c)), f, ?_, k9.trans ((Kp.uI (fun z => by omega)).trans ((Kp.uI (fun z => by omega)).trans (Kp.uI (fun z => by omega)))), fun k hk => ⟨?_, ?_, ?_⟩, hF, Or.inr ⟨rfl, rfl, fun g hgg => ?_⟩⟩
      · rw [d1, bnd_s, if_pos rfl, iv_sub, show v - sg = f c by omega, sI_iv (by rw [LI_83]; omega) (by rw [LI_83]; omega), bind_s, sI_iv (by rw [LI_84]; omega) (by rw [LI_84]; omega), bind_s, sI_iv (by rw [LI_85]; omega) (by rw [LI_85]; omega), bind_s]
        exact zr_0
      · rw [uI_row (by omega), uI_row (by omega)]
        by_cases y : k = c
        · subst y; rw [uI_same]
        · rw [uI_other (Or.inr y), (d2.1 k hk).1, pu_ne y]
      · rw [uI_row (by omega)]
        by_cases y : k = c
        · subst y; rw [uI_same]
        · rw [uI_other (Or.inr y), uI_row (by omega), (d2.1 k hk).2.1, pu_ne y]
      · by_cases y : k = c
        · subst y; rw [uI_same]
        · rw [uI_other (Or.inr y), uI_row (by omega), uI_row (by omega), (d2.1 k hk).2.2, pu_ne y]
      · have hno : ¬ S o := fun z => by
          have := d4 o z hne
          rw [pu_at] at this; omega
        have sc := shift_cut hE (lo' := pu lo c v) (hi' := pu hi c v) (f1 := pu f c v) (i0 := c / W) (j0 := c % W) (fun k hk => by rw [ce] at hk; exact ⟨pu_ne hk, pu_ne hk, pu_ne hk⟩) hF hgg d5 ci cj
        rw [ce] at sc
        rcases hcase with ⟨q1, q2, q3⟩ | ⟨q1, q2, q3⟩
        · rw [q2] at d3; rw [q3] at hno
          exact ⟨fun z => by omega, fun _ => sc.1 d3 hno⟩
        · rw [q2] at d3; rw [q3] at hno
          exact ⟨fun _ => sc.2 d3 hno, fun z => by omega⟩
    · have hen : en = o := by
        by_cases y : en = o
        · exact y
        · rw [pu_ne y] at d4; omega
      have hfc : f' c = v := by
        have := d6 c hc
        rw [pu_at, pu_at] at this; omega
      refine ⟨1, uI (uI w9 84 c (iv (lo c))) 85 c (iv (hi c)), f', ?_, k9.trans ((Kp.uI (fun z => by omega)).trans (Kp.uI (fun z => by omega))), fun k hk => ⟨?_, ?_, ?_⟩, ⟨fun k hk => ?_, fun i hi' => ?_, fun j hj => ?_⟩, Or.inl ⟨rfl, hfc⟩⟩
      · rw [d1, bnd_s, if_neg (by decide), sI_iv (by rw [LI_84]; omega) (by rw [LI_84]; omega), bind_s, sI_iv (by rw [LI_85]; omega) (by rw [LI_85]; omega), bind_s]
        exact zr_1
      · rw [uI_row (by omega), uI_row (by omega)]; exact (d5.1 k hk).1
      · rw [uI_row (by omega)]
        by_cases y : k = c
        · subst y; rw [uI_same]
        · rw [uI_other (Or.inr y), (d5.1 k hk).2.1, pu_ne y]
      · by_cases y : k = c
        · subst y; rw [uI_same]
        · rw [uI_other (Or.inr y), uI_row (by omega), (d5.1 k hk).2.2, pu_ne y]
      · have := d6 k hk
        by_cases y : k = c
        · subst y; omega
        · rw [pu_ne y, pu_ne y] at this; omega
      · have q0 := lS_pu (f := f) hE ci cj hi' v
        rw [ce] at q0
        rw [d7 i hi', q0, hF.2.1 i hi', hen]
        rcases hcase with ⟨q1, q2, q3⟩ | ⟨q1, q2, q3⟩
        · rw [q2, q3, if_neg (show ¬ 5 + c % W = i by omega)]
          by_cases y : i = c / W
          · rw [if_pos y, if_pos y.symm]; omega
          · rw [if_neg y, if_neg (fun q => y q.symm)]; omega
        · rw [q2, q3, if_neg (show ¬ 5 + c % W = i by omega)]
          by_cases y : i = c / W
          · rw [if_pos y, if_pos y.symm]; omega
          · rw [if_neg y, if_neg (fun q => y q.symm)]; omega
      · have q0 := hS_pu (f := f) hE ci cj hj v
        rw [ce] at q0
        rw [d8 j hj, q0, hF.2.2 j hj, hen]
        rcases hcase with ⟨q1, q2, q3⟩ | ⟨q1, q2, q3⟩
        · rw [q2, q3, if_neg (show ¬ c / W = 5 + j by omega)]
          by_cases y : j = c % W
          · rw [if_pos y, if_pos (show 5 + c % W = 5 + j by omega)]; omega
          · rw [if_neg y, if_neg (show ¬ 5 + c % W = 5 + j by omega)]; omega
        · rw [q2, q3, if_neg (show ¬ c / W = 5 + j by omega)]
          by_cases y : j = c % W
          · rw [if_pos y, if_pos (show 5 + c % W = 5 + j by omega)]; omega
          · rw [if_neg y, if_neg (show ¬ 5 + c % W = 5 + j by omega)]; omega
  unfold jX4_shift_105
  rcases hsg with q | q
  · rw [if_pos (by rw [q]; decide), sI_iv (by rw [LI_86]; omega) (by rw [LI_86]; omega), bind_s, if_pos (by rw [q]; decide)]
    exact main (5 + c % W) (c / W) (Or.inr ⟨by omega, by omega⟩) (by omega) (by omega) (Or.inr ⟨q, rfl, rfl⟩)
  · rw [if_neg (by rw [q]; decide), sI_iv (by rw [LI_86]; omega) (by rw [LI_86]; omega), bind_s, if_neg (by rw [q]; decide)]
    exact main (c / W) (5 + c % W) (Or.inl ci) (by omega) (by omega) (Or.inl ⟨q, rfl, rfl⟩)
theorem shiftFar_s (hg : Gnd W H w) (hs : S3 W H lo hi f w) (hF : Fs W H C R lo hi f) (hb : BL (W * H) lo hi) {c : Nat} (hc : c < W * H) {sg : Int} (hsg : sg = 1 ∨ sg = -1) : ∃ w1 f', fX4_shiftFar (iv c) (iv sg) w = some ((), w1) ∧ Kp (fun k => k < 83 ∨ 89 < k) w w1 ∧ S3 W H lo hi f' w1 ∧ Fs W H C R lo hi f' ∧ EX W H C R lo hi sg c f' := by
  unfold fX4_shiftFar
  refine lpB (m := 4) (fun r => ∃ w1 f', r = some ((), w1) ∧ Kp (fun k => k < 83 ∨ 89 < k) w w1 ∧ S3 W H lo hi f' w1 ∧ Fs W H C R lo hi f' ∧ EX W H C R lo hi sg c f') (fun i x w' => ∃ f', Kp (fun k => k < 83 ∨ 89 < k) w w' ∧ S3 W H lo hi f' w' ∧ Fs W H C R lo hi f' ∧ ((x = 1 ∧ f' c = f c + i * sg) ∨ (x = 0 ∧ EX W H C R lo hi sg c f'))) ?_ ?_ (hGn (by omega)) ⟨f, Kp.rf, hs, hF, Or.inl ⟨rfl, by omega⟩⟩
  · rintro i x w' k hi4 ⟨f', h1, h2, h3, h4⟩
    unfold bX4_shiftFar_5
    rw [if_neg (by rw [iv_4, iv_le (by omega) (by omega)]; omega)]
    rcases h4 with ⟨rfl, h5⟩ | ⟨rfl, h5⟩
    · left
      have hg' : Gnd W H w' := hg.kept (h1.weak fun k z => by omega)
      obtain ⟨x, w2, f2, a1, a2, a3, a4, a5⟩ := shift_s hg' h2 h3 hb hc hsg
      rw [if_neg (by decide), a1, bnd_s, iv_s1]
      refine ⟨x, w2, rfl, f2, h1.trans a2, a3, a4, ?_⟩
      rcases a5 with ⟨b1, b2⟩ | ⟨b1, _, b2⟩
      · refine Or.inl ⟨b1, ?_⟩
        rw [b2, h5]
        rcases hsg with rfl | rfl
        · rw [Int.natCast_add]; omega
        · rw [Int.natCast_add]; omega
      · exact Or.inr ⟨b1, b2⟩
    · right
      rw [if_pos rfl]
      exact ⟨w', f', rfl, h1, h2, h3, h5⟩
  · rintro x w' k ⟨f', h1, h2, h3, h4⟩
    unfold bX4_shiftFar_5
    rw [if_pos (by rw [iv_4]; exact Int32.le_refl _)]
    refine ⟨w', f', rfl, h1, h2, h3, ?_⟩
    rcases h4 with ⟨_, h5⟩ | ⟨_, h5⟩
    · intro g hgg
      have e1 := hF.BH hb c hc
      have e2 := h3.BH hb c hc
      have e3 := hgg.BH hb c hc
      constructor
      · rintro rfl
        have : f' c = f c + 4 := by rw [h5]; rfl
        omega
      · rintro rfl
        have : f' c = f c + -4 := by rw [h5]; rfl
        omega
    · exact h5
end CSUM3
