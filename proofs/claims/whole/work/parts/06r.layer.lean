/-! ===== layers and their parts ===== -/
def nbck (W H c d : Nat) : Bool := !decide (c < W * H) || (decide (nbr W H c d = -1) || decide (nbr W H (nbr W H c d).toNat ((d + 2) % 4) = (c : Int)))
theorem nb_all : ∀ W, W < 6 → ∀ H, H < 6 → ∀ c, c < 25 → ∀ d, d < 4 → nbck W H c d = true := by decide +kernel
theorem nb_sym {W H : Nat} (h2 : W ≤ 5) (h4 : H ≤ 5) {c d : Nat} (hc : c < W * H) (hd : d < 4) {m : Nat} (h : nbr W H c d = m) : nbr W H m ((d + 2) % 4) = c := by
  have hN := WH_le h2 h4
  have e := nb_all W (by omega) H (by omega) c (by omega) d hd
  unfold nbck at e
  rw [decide_eq_true hc, Bool.not_true, Bool.false_or, h, decide_eq_false (by omega), Bool.false_or] at e
  exact of_decide_eq_true e
/-- neighbours of one layer -/
def Aj (W H : Nat) (h : Nat → Int) (k : Int) (x y : Nat) : Prop := x < W * H ∧ y < W * H ∧ k ≤ h x ∧ k ≤ h y ∧ ∃ d, d < 4 ∧ nbr W H x d = y
theorem Aj.sym {W H : Nat} (h2 : W ≤ 5) (h4 : H ≤ 5) {h : Nat → Int} {k : Int} {x y : Nat} (q : Aj W H h k x y) : Aj W H h k y x := by
  obtain ⟨a, b, c, e, d, hd, hn⟩ := q
  exact ⟨b, a, e, c, (d + 2) % 4, by omega, nb_sym h2 h4 a hd hn⟩
/-- of one part -/
def Rc (A : Nat → Nat → Prop) (x y : Nat) : Prop := ∀ S : Nat → Prop, S x → (∀ u v, S u → A u v → S v) → S y
theorem Rc.rf {A : Nat → Nat → Prop} {x : Nat} : Rc A x x := fun _ h _ => h
theorem Rc.st {A : Nat → Nat → Prop} {x y : Nat} (h : A x y) : Rc A x y := fun _ h1 h2 => h2 x y h1 h
theorem Rc.tr {A : Nat → Nat → Prop} {x y z : Nat} (h1 : Rc A x y) (h2 : Rc A y z) : Rc A x z := fun S a b => h2 S (h1 S a b) b
theorem Rc.sym {A : Nat → Nat → Prop} (hA : ∀ u v, A u v → A v u) {x y : Nat} (h : Rc A x y) : Rc A y x := h (fun z => Rc A z x) Rc.rf (fun u v a b => (Rc.st (hA u v b)).tr a)
def Ld (A : Nat → Nat → Prop) (on : Nat → Prop) (c : Nat) : Prop := on c ∧ ∀ c', c' < c → on c' → ¬ Rc A c' c
noncomputable def ld (A : Nat → Nat → Prop) (on : Nat → Prop) (c : Nat) : Int := @ite Int (Ld A on c) (Classical.propDecidable _) 1 0
theorem ld_y {A : Nat → Nat → Prop} {on : Nat → Prop} {c : Nat} (h : Ld A on c) : ld A on c = 1 := if_pos h
theorem ld_n {A : Nat → Nat → Prop} {on : Nat → Prop} {c : Nat} (h : ¬ Ld A on c) : ld A on c = 0 := if_neg h
theorem ld_bd (A : Nat → Nat → Prop) (on : Nat → Prop) (c : Nat) : 0 ≤ ld A on c ∧ ld A on c ≤ 1 := by
  by_cases h : Ld A on c
  · rw [ld_y h]; omega
  · rw [ld_n h]; omega
theorem lds_bd (A : Nat → Nat → Prop) (on : Nat → Prop) (n : Nat) : 0 ≤ sm (ld A on) n ∧ sm (ld A on) n ≤ n := by
  have := sm_bound (f := ld A on) (lo := 0) (hi := 1) (n := n) (fun i _ => ld_bd A on i)
  omega
/-- the model's marks at their end -/
def IsM (W H : Nat) (h : Nat → Int) (k : Int) (M : Nat → Int) : Prop := (∀ c, c < W * H → h c < k → M c = -9) ∧ (∀ c, c < W * H → k ≤ h c → 0 ≤ M c ∧ M c ≤ c ∧ Rc (Aj W H h k) c (M c).toNat) ∧ (∀ x y, Aj W H h k x y → M x ≤ M y)
theorem IsM.lead {W H : Nat} (h2 : W ≤ 5) (h4 : H ≤ 5) {h : Nat → Int} {k : Int} {M : Nat → Int} (q : IsM W H h k M) {c : Nat} (hc : c < W * H) : (if M c = c then (1 : Int) else 0) = ld (Aj W H h k) (fun c => k ≤ h c) c := by
  obtain ⟨q1, q2, q3⟩ := q
  have sy : ∀ u v, Aj W H h k u v → Aj W H h k v u := fun u v z => z.sym h2 h4
  have heq : ∀ x y, Rc (Aj W H h k) x y → M y = M x := fun x y hr => hr (fun z => M z = M x) rfl (fun u v a b => by
    have e1 := q3 u v b
    have e2 := q3 v u (sy u v b)
    show M v = M x
    have a' : M u = M x := a
    omega)
  by_cases e : M c = c
  · rw [if_pos e, ld_y]
    have on : k ≤ h c := by
      by_cases z : k ≤ h c
      · exact z
      · have := q1 c hc (by omega); omega
    refine ⟨on, fun c' hc' on' hr => ?_⟩
    have e1 := heq c' c hr
    have e2 := (q2 c' (by omega) on').2.1
    omega
  · rw [if_neg e, ld_n]
    rintro ⟨on, hl⟩
    have on' : k ≤ h c := on
    obtain ⟨a1, a2, a3⟩ := q2 c hc on'
    have hlt : (M c).toNat < c := by omega
    have onM : k ≤ h (M c).toNat := a3 (fun z => k ≤ h z) on' (fun u v _ b => b.2.2.2.1)
    exact hl _ hlt onM (a3.sym sy)
theorem IsM.cnt {W H : Nat} {h : Nat → Int} {k : Int} {M : Nat → Int} (q : IsM W H h k M) {c : Nat} (hc : c < W * H) : (if M c = -9 then (0 : Int) else 1) = (if h c < k then 0 else 1) := by
  by_cases e : h c < k
  · rw [if_pos e, if_pos (q.1 c hc e)]
  · have := (q.2.1 c hc (by omega)).1
    rw [if_neg e, if_neg (by omega)]
theorem mlayParts_s {W H : Nat} {w : Wd} (hg : MW W H w) {s : Nat} (hs : s < 4) {h : Nat → Int} (hf : ∀ c, c < W * H → w.1 100 (25 * s + c) = iv (h c) ∧ Hgt (h c)) {k : Int} (hk : 0 ≤ k ∧ k ≤ 4) : ∃ w1 M, fX9_layParts (iv s) (iv k) w = some ((), w1) ∧ (∀ c, c < W * H → w1.1 106 c = iv (M c)) ∧ IsM W H h k M ∧ Kp (fun q => q ≠ 106) w w1 := by
  have hN := WH_le hg.2.1 hg.2.2.2.1
  let Q : Option (Unit × Wd) → Prop := fun r => ∃ w1 M, r = some ((), w1) ∧ (∀ c, c < W * H → w1.1 106 c = iv (M c)) ∧ IsM W H h k M ∧ Kp (fun q => q ≠ 106) w w1
  let St : (Nat → Int) → Wd → Prop := fun M w' => (∀ c, c < W * H → w'.1 106 c = iv (M c)) ∧ (∀ c, c < W * H → h c < k → M c = -9) ∧ (∀ c, c < W * H → k ≤ h c → 0 ≤ M c ∧ M c ≤ c ∧ Rc (Aj W H h k) c (M c).toNat) ∧ Kp (fun q => q ≠ 106) w w'
  have rgM : ∀ M w', St M w' → ∀ c, c < W * H → (-9 ≤ M c ∧ M c ≤ 25) ∧ (M c = -9 ↔ h c < k) := fun M w' hS c hc => by
    by_cases e : h c < k
    · have := hS.2.1 c hc e; omega
    · have := hS.2.2.1 c hc (by omega); omega
  have pos : ∀ M w', St M w' → 0 ≤ sm (fun c => M c + 9) (W * H) := fun M w' hS => sm_nonneg (fun c hc => by have := (rgM M w' hS c hc).1; show 0 ≤ M c + 9; omega)
  have round : ∀ (n : Nat) (x : Int32) (M : Nat → Int) (w' : Wd), St M w' → (x = 0 → ∀ x y, Aj W H h k x y → M x ≤ M y) → (sm (fun c => M c + 9) (W * H)).toNat + 1 < n → Q (lp (fun _ _ => none) (bX9_layParts_45 (iv s) (iv k)) n x w') := by
    intro n
    induction n with
    | zero => intro x M w' _ _ h4; omega
    | succ n ih =>
      intro x M0 w0 hSt hx hn
      rw [lp_s]
      unfold bX9_layParts_45
      by_cases e : x = 0
      · rw [if_pos e]
        exact ⟨w0, M0, rfl, hSt.1, ⟨hSt.2.1, hSt.2.2.1, hx e⟩, hSt.2.2.2⟩
      · rw [if_neg e]
        refine lpB (m := 4 * (W * H)) Q (fun i y w' => ∃ M, St M w' ∧ ((y = 0 ∧ (∀ c, c < W * H → M c = M0 c) ∧ ∀ c d m, c < W * H → d < 4 → 4 * c + d < i → nbr W H c ((d + 2) % 4) = (m : Nat) → k ≤ h c → k ≤ h m → M0 c ≤ M0 m) ∨ (y = 1 ∧ (∀ c, c < W * H → M c ≤ M0 c) ∧ sm (fun c => M c + 9) (W * H) < sm (fun c => M0 c + 9) (W * H)))) ?_ ?_ (hGn (by omega)) ⟨M0, hSt, Or.inl ⟨rfl, fun _ _ => rfl, fun c d _ _ _ z => by omega⟩⟩
        · rintro i y w' kk hi ⟨M, hS, hy⟩
          have hg' : MW W H w' := hg.kept (hS.2.2.2 99 (by omega)).1
          obtain ⟨c, d, hd, hcd⟩ : ∃ c d, d < 4 ∧ i = 4 * c + d := ⟨i / 4, i % 4, by omega, by omega⟩
          have hc : c < W * H := by omega
          have ed := dm4 (c := c) hd
          have hr := nbr_rng hg.1 hg.2.1 hg.2.2.1 hg.2.2.2.1 hc ((d + 2) % 4)
          have hMc := rgM M w' hS c hc
          refine Or.inl ?_
          -- nothing changes
          have stay : (∀ m : Nat, nbr W H c ((d + 2) % 4) = m → k ≤ h c → k ≤ h m → M c ≤ M m) → ∃ x' w'', jX9_layParts_149 (iv s) (iv k) (lp (fun _ _ => none) (bX9_layParts_45 (iv s) (iv k)) n) kk y (iv i) w' = kk x' (iv ((i + 1 : Nat) : Int)) w'' ∧ ∃ M, St M w'' ∧ ((x' = 0 ∧ (∀ c, c < W * H → M c = M0 c) ∧ ∀ c d m, c < W * H → d < 4 → 4 * c + d < i + 1 → nbr W H c ((d + 2) % 4) = (m : Nat) → k ≤ h c → k ≤ h m → M0 c ≤ M0 m) ∨ (x' = 1 ∧ (∀ c, c < W * H → M c ≤ M0 c) ∧ sm (fun c => M c + 9) (W * H) < sm (fun c => M0 c + 9) (W * H))) := by
            intro hle
            unfold jX9_layParts_149
            rw [iv_s1]
            refine ⟨y, w', rfl, M, hS, ?_⟩
            rcases hy with ⟨y0, y1, y2⟩ | hy
            · refine Or.inl ⟨y0, y1, fun c2 d2 m h1 h2 h3 h4 h5 h6 => ?_⟩
              by_cases e5 : 4 * c2 + d2 < i
              · exact y2 c2 d2 m h1 h2 e5 h4 h5 h6
              · have e6 : c2 = c ∧ d2 = d := by omega
                rw [e6.1] at h4 h5 ⊢
                rw [e6.2] at h4
                rw [← y1 c hc, ← y1 m (by omega)]
                exact hle m h4 h5 h6
            · exact Or.inr hy
          unfold bX9_layParts_54
          rw [mcells_s hg', bnd_s, iv_4, show iv 4 * iv ((W * H : Nat) : Int) = iv ((4 * (W * H) : Nat) : Int) by rw [iv_mul, Int.natCast_mul]; rfl, if_neg (iv_Nle (by omega) hi), show iv 4 = iv ((4 : Nat) : Int) from rfl, dv_iv (by omega) (by omega) (by omega), bind_s, hcd, ed.1, rm_iv (by omega) (by omega) (by omega), bind_s, ed.2, mbeside_s hg' hc hd, bnd_s, ← hcd]
          by_cases q : nbr W H c ((d + 2) % 4) = -1
          · rw [if_pos (by rw [q]; decide)]
            exact stay (fun m hm => by omega)
          · have e : mb (nbr W H c ((d + 2) % 4)) = nbr W H c ((d + 2) % 4) := if_neg q
            obtain ⟨m, hm⟩ : ∃ m : Nat, nbr W H c ((d + 2) % 4) = (m : Int) := ⟨(nbr W H c ((d + 2) % 4)).toNat, by omega⟩
            have hmN : m < W * H := by omega
            have hMm := rgM M w' hS m hmN
            rw [e, if_neg (by rw [iv_m9, iv_eq (by omega) (by omega)]; omega), hm, bind_s, gI_iv (by rw [LI_106]; omega) (by rw [LI_106]; omega), bind_s, gI_iv (by rw [LI_106]; omega) (by rw [LI_106]; omega)]
            repeat rw [bind_s]
            rw [hS.1 c hc, hS.1 m hmN]
            by_cases q1 : M c = -9
            · rw [if_pos (by rw [q1]; decide)]
              exact stay (fun m' _ h5 _ => by omega)
            · rw [if_neg (by rw [iv_m9, iv_eq (by omega) (by omega)]; exact q1)]
              by_cases q2 : M m = -9
              · rw [if_pos (by rw [q2]; decide)]
                exact stay (fun m' h4 _ h6 => by
                  have : m' = m := by omega
                  subst this; omega)
              · rw [if_neg (by rw [iv_m9, iv_eq (by omega) (by omega)]; exact q2)]
                rw [gI_iv (by rw [LI_106]; omega) (by rw [LI_106]; omega), bind_s, hS.1 c hc]
                by_cases q3 : M c ≤ M m
                · rw [if_pos (by rw [iv_le (by omega) (by omega)]; exact q3)]
                  exact stay (fun m' h4 _ h6 => by
                    have : m' = m := by omega
                    subst this; exact q3)
                · rw [if_neg (by rw [iv_le (by omega) (by omega)]; exact q3), sI_iv (by rw [LI_106]; omega) (by rw [LI_106]; omega), bind_s]
                  unfold jX9_layParts_149
                  rw [iv_s1]
                  have onc : k ≤ h c := by omega
                  have onm : k ≤ h m := by omega
                  have hA : Aj W H h k c m := ⟨hc, hmN, onc, onm, (d + 2) % 4, by omega, hm⟩
                  have r1 := hS.2.2.1 c hc onc
                  have r2 := hS.2.2.1 m hmN onm
                  refine ⟨1, _, rfl, fun c' => if c' = c then M m else M c', ⟨fun c' hc' => ?_, fun c' hc' o => ?_, fun c' hc' o => ?_, hS.2.2.2.trans (Kp.uI (fun z => z rfl))⟩, Or.inr ⟨rfl, fun c' hc' => ?_, ?_⟩⟩
                  · show _ = iv (if c' = c then M m else M c')
                    by_cases e5 : c' = c
                    · subst e5; rw [if_pos rfl, uI_same]
                    · rw [if_neg e5, uI_other (Or.inr e5)]; exact hS.1 c' hc'
                  · show (if c' = c then M m else M c') = -9
                    by_cases e5 : c' = c
                    · subst e5; omega
                    · rw [if_neg e5]; exact hS.2.1 c' hc' o
                  · show 0 ≤ (if c' = c then M m else M c') ∧ (if c' = c then M m else M c') ≤ c' ∧ Rc (Aj W H h k) c' (if c' = c then M m else M c').toNat
                    by_cases e5 : c' = c
                    · subst e5; rw [if_pos rfl]
                      exact ⟨r2.1, by omega, (Rc.st hA).tr r2.2.2⟩
                    · rw [if_neg e5]; exact hS.2.2.1 c' hc' o
                  · have hM0 : M c' ≤ M0 c' := by
                      rcases hy with ⟨_, y1, _⟩ | ⟨_, y1, _⟩
                      · rw [y1 c' hc']; exact Int.le_refl _
                      · exact y1 c' hc'
                    show (if c' = c then M m else M c') ≤ M0 c'
                    by_cases e5 : c' = c
                    · subst e5; rw [if_pos rfl]; omega
                    · rw [if_neg e5]; exact hM0
                  · have hlt : sm (fun c' => (if c' = c then M m else M c') + 9) (W * H) < sm (fun c' => M c' + 9) (W * H) := sm_lt (fun c' hc' => by
                      show (if c' = c then M m else M c') + 9 ≤ M c' + 9
                      by_cases e5 : c' = c
                      · subst e5; rw [if_pos rfl]; omega
                      · rw [if_neg e5]; exact Int.le_refl _) ⟨c, hc, by show (if c = c then M m else M c) + 9 < M c + 9; rw [if_pos rfl]; omega⟩
                    have hle : sm (fun c' => M c' + 9) (W * H) ≤ sm (fun c' => M0 c' + 9) (W * H) := by
                      rcases hy with ⟨_, y1, _⟩ | ⟨_, _, y2⟩
                      · exact sm_le (fun c' hc' => by show M c' + 9 ≤ M0 c' + 9; rw [y1 c' hc']; exact Int.le_refl _)
                      · omega
                    exact Int.lt_of_lt_of_le hlt hle
        · rintro y w' kk ⟨M, hS, hy⟩
          have hg' : MW W H w' := hg.kept (hS.2.2.2 99 (by omega)).1
          unfold bX9_layParts_54
          rw [mcells_s hg', bnd_s, iv_4, show iv 4 * iv ((W * H : Nat) : Int) = iv ((4 * (W * H) : Nat) : Int) by rw [iv_mul, Int.natCast_mul]; rfl, if_pos iv_Nle']
          rcases hy with ⟨y0, y1, y2⟩ | ⟨y0, y1, y2⟩
          · subst y0
            obtain ⟨m, rfl⟩ : ∃ m, n = m + 1 := ⟨n - 1, by omega⟩
            rw [lp_s]
            rw [if_pos rfl]
            refine ⟨w', M, rfl, hS.1, ⟨hS.2.1, hS.2.2.1, fun x y hA => ?_⟩, hS.2.2.2⟩
            obtain ⟨a1, a2, a3, a4, d, hd, hn⟩ := hA
            have := y2 x ((d + 2) % 4) y a1 (by omega) (by omega) (by rw [show ((d + 2) % 4 + 2) % 4 = d by omega]; exact hn) a3 a4
            rw [y1 x a1, y1 y a2]; exact this
          · subst y0
            have := pos M w' hS
            exact ih 1 M w' hS (fun z => absurd z (by decide)) (by omega)
  show Q (fX9_layParts (iv s) (iv k) w)
  unfold fX9_layParts
  refine lpA (m := W * H) Q (fun i w' => (∀ c, c < i → w'.1 106 c = iv (if h c < k then -9 else (c : Int))) ∧ Kp (fun q => q ≠ 106) w w') ?_ ?_ (hGn (by omega)) ⟨fun c hc => by omega, Kp.rf⟩
  · rintro i w' kk hi ⟨h1, h2⟩
    have hg' : MW W H w' := hg.kept (h2 99 (by omega)).1
    have hh := (hf i hi).2
    unfold Hgt at hh
    refine Or.inl ⟨uI w' 106 i (iv (if h i < k then -9 else (i : Int))), ?_, fun c hc => ?_, h2.trans (Kp.uI (fun z => z rfl))⟩
    · unfold bX9_layParts_2 jX9_layParts_36
      rw [mcells_s hg', bnd_s, if_neg (iv_Nle (by omega) hi), iv_25sc, gI_iv (by rw [LI_100]; omega) (by rw [LI_100]; omega), bind_s, (h2 100 (by omega)).1, (hf i hi).1, iv_s1, sI_iv (by rw [LI_106]; omega) (by rw [LI_106]; omega), bind_s, sI_iv (by rw [LI_106]; omega) (by rw [LI_106]; omega), bind_s]
      by_cases e : h i < k
      · rw [if_pos (by rw [iv_lt (by omega) (by omega)]; exact e), if_pos e]; rfl
      · rw [if_neg (by rw [iv_lt (by omega) (by omega)]; exact e), if_neg e]
    · by_cases e : c = i
      · subst e; exact uI_same
      · rw [uI_other (Or.inr e)]; exact h1 c (by omega)
  · rintro w' kk ⟨h1, h2⟩
    have hg' : MW W H w' := hg.kept (h2 99 (by omega)).1
    unfold bX9_layParts_2
    rw [mcells_s hg', bnd_s, if_pos iv_Nle']
    have hS : St (fun c => if h c < k then -9 else (c : Int)) w' := ⟨h1, fun c _ o => if_pos o, fun c hc o => by
      show 0 ≤ (if h c < k then -9 else (c : Int)) ∧ (if h c < k then -9 else (c : Int)) ≤ c ∧ Rc (Aj W H h k) c (if h c < k then -9 else (c : Int)).toNat
      rw [if_neg (by omega)]
      exact ⟨by omega, Int.le_refl _, Rc.rf⟩, h2⟩
    have hb := sm_bound (f := fun c => (if h c < k then -9 else (c : Int)) + 9) (lo := 0) (hi := 34) (n := W * H) (fun c hc => by split <;> omega)
    exact round G 1 _ w' hS (fun z => absurd z (by decide)) (by have := hG; omega)
