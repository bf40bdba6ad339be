/-! ===== carrying: shortest ways over arcs, once for class and model ===== -/
/-- the arcs' ends and costs; a potential; the labels, the arc by which each was set, when, and in which round -/
def BFI (N M : Nat) (src dst : Nat → Nat) (ok : Nat → Prop) (cst pi st0 st : Nat → Int) (hp : Nat → Prop) (q tm gn : Nat → Nat) (T r : Nat) : Prop := ∀ v, v < N → tm v < T ∧ gn v ≤ r ∧ st v ≤ st0 v ∧ (¬ hp v → gn v = 0 ∧ st v = st0 v) ∧ (hp v → q v < M ∧ ok (q v) ∧ dst (q v) = v ∧ src (q v) < N ∧ st (src (q v)) + cst (q v) ≤ st v ∧ (st (src (q v)) - pi (src (q v)) < st v - pi v ∨ (st (src (q v)) - pi (src (q v)) = st v - pi v ∧ tm (src (q v)) < tm v)) ∧ gn v ≤ gn (src (q v)) + 1)
section BELL
variable {N M : Nat} {src dst : Nat → Nat} {ok : Nat → Prop} {cst pi st0 st : Nat → Int} {hp : Nat → Prop} {q tm gn : Nat → Nat} {T r : Nat}
theorem BFI_init (st0 : Nat → Int) : BFI N M src dst ok cst pi st0 st0 (fun _ => False) (fun _ => 0) (fun _ => 0) (fun _ => 0) 1 0 := fun v _ => ⟨Nat.lt_succ_self 0, Nat.le_refl 0, Int.le_refl _, fun _ => ⟨rfl, rfl⟩, fun h => h.elim⟩
theorem BFI.later (h : BFI N M src dst ok cst pi st0 st hp q tm gn T r) {r' : Nat} (hr : r ≤ r') : BFI N M src dst ok cst pi st0 st hp q tm gn T r' := fun v hv => by
  obtain ⟨h1, h2, h3⟩ := h v hv
  exact ⟨h1, by omega, h3⟩
theorem BFI.relax (h : BFI N M src dst ok cst pi st0 st hp q tm gn T r) {j : Nat} (hj : j < M) (ho : ok j) (hs : src j < N) (hd : dst j < N) (hsd : src j ≠ dst j) (hpi : pi (dst j) ≤ pi (src j) + cst j) (hlt : st (src j) + cst j < st (dst j)) (hr : r ≤ gn (src j) + 1) : BFI N M src dst ok cst pi st0 (pu st (dst j) (st (src j) + cst j)) (fun v => v = dst j ∨ hp v) (fun v => if v = dst j then j else q v) (fun v => if v = dst j then T else tm v) (fun v => if v = dst j then r else gn v) (T + 1) r := by
  intro v hv
  by_cases z : v = dst j
  · subst z
    have hv0 := h _ hv
    have hs0 := h _ hs
    have e1 : (if dst j = dst j then j else q (dst j)) = j := if_pos rfl
    have e2 : (if dst j = dst j then T else tm (dst j)) = T := if_pos rfl
    have e3 : (if dst j = dst j then r else gn (dst j)) = r := if_pos rfl
    have e4 : (if src j = dst j then T else tm (src j)) = tm (src j) := if_neg hsd
    have e5 : (if src j = dst j then r else gn (src j)) = gn (src j) := if_neg hsd
    show (if dst j = dst j then T else tm (dst j)) < T + 1 ∧ (if dst j = dst j then r else gn (dst j)) ≤ r ∧ pu st (dst j) (st (src j) + cst j) (dst j) ≤ st0 (dst j) ∧ (¬ (dst j = dst j ∨ hp (dst j)) → (if dst j = dst j then r else gn (dst j)) = 0 ∧ pu st (dst j) (st (src j) + cst j) (dst j) = st0 (dst j)) ∧ (dst j = dst j ∨ hp (dst j) → (if dst j = dst j then j else q (dst j)) < M ∧ ok (if dst j = dst j then j else q (dst j)) ∧ dst (if dst j = dst j then j else q (dst j)) = dst j ∧ src (if dst j = dst j then j else q (dst j)) < N ∧ pu st (dst j) (st (src j) + cst j) (src (if dst j = dst j then j else q (dst j))) + cst (if dst j = dst j then j else q (dst j)) ≤ pu st (dst j) (st (src j) + cst j) (dst j) ∧ (pu st (dst j) (st (src j) + cst j) (src (if dst j = dst j then j else q (dst j))) - pi (src (if dst j = dst j then j else q (dst j))) < pu st (dst j) (st (src j) + cst j) (dst j) - pi (dst j) ∨ (pu st (dst j) (st (src j) + cst j) (src (if dst j = dst j then j else q (dst j))) - pi (src (if dst j = dst j then j else q (dst j))) = pu st (dst j) (st (src j) + cst j) (dst j) - pi (dst j) ∧ (if src (if dst j = dst j then j else q (dst j)) = dst j then T else tm (src (if dst j = dst j then j else q (dst j)))) < (if dst j = dst j then T else tm (dst j)))) ∧ (if dst j = dst j then r else gn (dst j)) ≤ (if src (if dst j = dst j then j else q (dst j)) = dst j then r else gn (src (if dst j = dst j then j else q (dst j)))) + 1)
    rw [e1, e2, e3, e4, e5, pu_at, pu_ne hsd]
    exact ⟨by omega, by omega, by omega, fun y => absurd (Or.inl rfl) y, fun _ => ⟨hj, ho, rfl, hs, by omega, by omega, hr⟩⟩
  · obtain ⟨h1, h2, h3, h4, h5⟩ := h v hv
    have e1 : (if v = dst j then j else q v) = q v := if_neg z
    have e2 : (if v = dst j then T else tm v) = tm v := if_neg z
    have e3 : (if v = dst j then r else gn v) = gn v := if_neg z
    show (if v = dst j then T else tm v) < T + 1 ∧ (if v = dst j then r else gn v) ≤ r ∧ pu st (dst j) (st (src j) + cst j) v ≤ st0 v ∧ (¬ (v = dst j ∨ hp v) → (if v = dst j then r else gn v) = 0 ∧ pu st (dst j) (st (src j) + cst j) v = st0 v) ∧ (v = dst j ∨ hp v → (if v = dst j then j else q v) < M ∧ ok (if v = dst j then j else q v) ∧ dst (if v = dst j then j else q v) = v ∧ src (if v = dst j then j else q v) < N ∧ pu st (dst j) (st (src j) + cst j) (src (if v = dst j then j else q v)) + cst (if v = dst j then j else q v) ≤ pu st (dst j) (st (src j) + cst j) v ∧ (pu st (dst j) (st (src j) + cst j) (src (if v = dst j then j else q v)) - pi (src (if v = dst j then j else q v)) < pu st (dst j) (st (src j) + cst j) v - pi v ∨ (pu st (dst j) (st (src j) + cst j) (src (if v = dst j then j else q v)) - pi (src (if v = dst j then j else q v)) = pu st (dst j) (st (src j) + cst j) v - pi v ∧ (if src (if v = dst j then j else q v) = dst j then T else tm (src (if v = dst j then j else q v))) < (if v = dst j then T else tm v))) ∧ (if v = dst j then r else gn v) ≤ (if src (if v = dst j then j else q v) = dst j then r else gn (src (if v = dst j then j else q v))) + 1)
    rw [e1, e2, e3, pu_ne z]
    refine ⟨by omega, h2, h3, fun y => h4 (fun u => y (Or.inr u)), fun y => ?_⟩
    have hh : hp v := y.resolve_left z
    obtain ⟨a1, a2, a3, a4, a5, a6, a7⟩ := h5 hh
    refine ⟨a1, a2, a3, a4, ?_⟩
    by_cases u : src (q v) = dst j
    · have e6 : (if src (q v) = dst j then T else tm (src (q v))) = T := if_pos u
      have e7 : (if src (q v) = dst j then r else gn (src (q v))) = r := if_pos u
      rw [e6, e7, u, pu_at]
      rw [u] at a5 a6 a7
      exact ⟨by omega, Or.inl (by omega), by omega⟩
    · have e6 : (if src (q v) = dst j then T else tm (src (q v))) = tm (src (q v)) := if_neg u
      have e7 : (if src (q v) = dst j then r else gn (src (q v))) = gn (src (q v)) := if_neg u
      rw [e6, e7, pu_ne u]
      exact ⟨a5, a6, a7⟩
/-- ahead by label, then by time -/
def ahd (st pi : Nat → Int) (tm : Nat → Nat) (u v : Nat) : Bool := decide (st u - pi u < st v - pi v) || (decide (st u - pi u = st v - pi v) && decide (tm u < tm v))
theorem ahd_iff {u v : Nat} : ahd st pi tm u v = true ↔ (st u - pi u < st v - pi v ∨ (st u - pi u = st v - pi v ∧ tm u < tm v)) := by
  unfold ahd
  rw [Bool.or_eq_true, Bool.and_eq_true, decide_eq_true_eq, decide_eq_true_eq, decide_eq_true_eq]
def rkS (N : Nat) (st pi : Nat → Int) (tm : Nat → Nat) (v : Nat) : Int := sm (fun u => if ahd st pi tm u v = true then 1 else 0) N
theorem rkS_bd (v : Nat) : 0 ≤ rkS N st pi tm v := sm_nonneg (fun u _ => by show 0 ≤ (if ahd st pi tm u v = true then (1 : Int) else 0); split <;> omega)
theorem rkS_lt {u v : Nat} (hu : u < N) (h : ahd st pi tm u v = true) : rkS N st pi tm u < rkS N st pi tm v := by
  refine sm_lt (fun x _ => ?_) ⟨u, hu, ?_⟩
  · show (if ahd st pi tm x u = true then (1 : Int) else 0) ≤ (if ahd st pi tm x v = true then (1 : Int) else 0)
    by_cases z : ahd st pi tm x u = true
    · have : ahd st pi tm x v = true := by
        rw [ahd_iff] at *; omega
      rw [if_pos z, if_pos this]; omega
    · rw [if_neg z]; split <;> omega
  · show (if ahd st pi tm u u = true then (1 : Int) else 0) < (if ahd st pi tm u v = true then (1 : Int) else 0)
    have : ¬ ahd st pi tm u u = true := by rw [ahd_iff]; omega
    rw [if_pos h, if_neg this]; omega
theorem rkS_N {v : Nat} (hv : v < N) : rkS N st pi tm v < N := by
  have h1 : rkS N st pi tm v < sm (fun _ => (1 : Int)) N := by
    refine sm_lt (fun x _ => ?_) ⟨v, hv, ?_⟩
    · show (if ahd st pi tm x v = true then (1 : Int) else 0) ≤ 1
      split <;> omega
    · show (if ahd st pi tm v v = true then (1 : Int) else 0) < 1
      have : ¬ ahd st pi tm v v = true := by rw [ahd_iff]; omega
      rw [if_neg this]; omega
  have h2 := (sm_bound (f := fun _ => (1 : Int)) (lo := 0) (hi := 1) (n := N) (fun _ _ => by omega)).2
  omega
def rkN (N : Nat) (st pi : Nat → Int) (tm : Nat → Nat) (v : Nat) : Nat := (rkS N st pi tm v).toNat
theorem BFI.rank (h : BFI N M src dst ok cst pi st0 st hp q tm gn T r) : (∀ v, v < N → rkN N st pi tm v < N) ∧ (∀ v, v < N → hp v → rkN N st pi tm (src (q v)) < rkN N st pi tm v) ∧ (∀ n v, v < N → rkN N st pi tm v < n → gn v ≤ rkN N st pi tm v) := by
  have h2 : ∀ v, v < N → hp v → rkN N st pi tm (src (q v)) < rkN N st pi tm v := fun v hv hh => by
    obtain ⟨_, _, _, a4, _, a6, _⟩ := (h v hv).2.2.2.2 hh
    have := rkS_lt a4 (ahd_iff.mpr a6)
    have := rkS_bd (N := N) (st := st) (pi := pi) (tm := tm) (src (q v))
    unfold rkN; omega
  refine ⟨fun v hv => ?_, h2, fun n => ?_⟩
  · have := rkS_N (st := st) (pi := pi) (tm := tm) hv
    have := rkS_bd (N := N) (st := st) (pi := pi) (tm := tm) v
    unfold rkN; omega
  · induction n with
    | zero => intro v _ hlt; omega
    | succ n ih =>
      intro v hv hlt
      by_cases hh : hp v
      · obtain ⟨_, _, _, a4, _, _, a7⟩ := (h v hv).2.2.2.2 hh
        have h3 := h2 v hv hh
        have := ih (src (q v)) a4 (by omega)
        omega
      · have := ((h v hv).2.2.2.1 hh).1
        omega
theorem BFI.gen (h : BFI N M src dst ok cst pi st0 st hp q tm gn T r) {v : Nat} (hv : v < N) : gn v < N := by
  have h1 := h.rank.1 v hv
  have h2 := h.rank.2.2 _ v hv h1
  omega
/-- an arc that binds no more -/
def Sa (src dst : Nat → Nat) (ok : Nat → Prop) (cst : Nat → Int) (F : Int) (st : Nat → Int) (j : Nat) : Prop := ok j → st (src j) < F → st (dst j) ≤ st (src j) + cst j
/-- in a round, ahead of arc i -/
def RND (M : Nat) (src dst : Nat → Nat) (ok : Nat → Prop) (cst : Nat → Int) (F : Int) (st : Nat → Int) (gn : Nat → Nat) (r i : Nat) : Prop := ∀ j, j < M → Sa src dst ok cst F st j ∨ (i ≤ j ∧ r ≤ gn (src j) + 1) ∨ gn (src j) = r
variable {F : Int}
theorem RND.skip {i : Nat} (h : RND M src dst ok cst F st gn r i) (hs : Sa src dst ok cst F st i) : RND M src dst ok cst F st gn r (i + 1) := fun j hj => by
  by_cases z : j = i
  · subst z; exact Or.inl hs
  · rcases h j hj with a | a | a
    · exact Or.inl a
    · exact Or.inr (Or.inl ⟨by omega, a.2⟩)
    · exact Or.inr (Or.inr a)
theorem RND.relax {i : Nat} (h : RND M src dst ok cst F st gn r i) (hg : ∀ j, j < M → ok j → gn (src j) ≤ r) (hsd : src i ≠ dst i) (hlt : st (src i) + cst i < st (dst i)) : RND M src dst ok cst F (pu st (dst i) (st (src i) + cst i)) (fun v => if v = dst i then r else gn v) r (i + 1) := fun j hj => by
  by_cases u : src j = dst i
  · exact Or.inr (Or.inr (if_pos u))
  · have e1 : (if src j = dst i then r else gn (src j)) = gn (src j) := if_neg u
    have keep : Sa src dst ok cst F st j → Sa src dst ok cst F (pu st (dst i) (st (src i) + cst i)) j := fun hs o1 o2 => by
      rw [pu_ne u] at o2 ⊢
      have := hs o1 o2
      by_cases y : dst j = dst i
      · rw [y, pu_at]; rw [y] at this; omega
      · rw [pu_ne y]; exact this
    by_cases z : j = i
    · subst z
      refine Or.inl (fun _ _ => ?_)
      rw [pu_at, pu_ne hsd]; omega
    · rcases h j hj with a | a | a
      · exact Or.inl (keep a)
      · refine Or.inr (Or.inl ⟨by omega, ?_⟩)
        show r ≤ (if src j = dst i then r else gn (src j)) + 1
        rw [e1]; exact a.2
      · refine Or.inr (Or.inr ?_)
        show (if src j = dst i then r else gn (src j)) = r
        rw [e1]; exact a
end BELL
/-! flows by arcs -/
def kd (a b : Nat) : Int := if a = b then 1 else 0
/-- what the arcs carry away from, or to, a node -/
def flw (M : Nat) (e : Nat → Nat) (K : Nat → Int) (v : Nat) : Int := sm (fun j => K j * kd (e j) v) M
theorem flw_pu {M : Nat} {e : Nat → Nat} {K : Nat → Int} {j : Nat} (hj : j < M) (x : Int) (v : Nat) : flw M e (pu K j x) v = flw M e K v + (x - K j) * kd (e j) v := sm_at (m := j) hj (fun i _ hne => by rw [pu_ne hne]) (by rw [pu_at, Int.sub_mul]; omega)
theorem flw_sum {M N : Nat} {e : Nat → Nat} {K f : Nat → Int} (h : ∀ j, j < M → K j ≠ 0 → e j < N) : sm (fun v => f v * flw M e K v) N = sm (fun j => K j * f (e j)) M := by
  have e1 : ∀ v, f v * flw M e K v = sm (fun j => f v * (K j * kd (e j) v)) M := fun v => (sm_mul (f v) (fun j => K j * kd (e j) v) M).symm
  rw [sm_congr (fun v _ => e1 v), sm_swap]
  refine sm_congr (fun j hj => ?_)
  by_cases z : K j = 0
  · rw [z, Int.zero_mul]
    have : sm (fun i => f i * (0 * kd (e j) i)) N = sm (fun _ => 0) N := sm_congr (fun i _ => by rw [Int.zero_mul, Int.mul_zero])
    rw [this, sm_zero]
  · have : sm (fun i => f i * (K j * kd (e j) i)) N = sm (fun i => if e j = i then K j * f i else 0) N := sm_congr (fun i _ => by
      unfold kd
      by_cases y : e j = i
      · rw [if_pos y, if_pos y, Int.mul_one, Int.mul_comm]
      · rw [if_neg y, if_neg y, Int.mul_zero, Int.mul_zero])
    rw [this, sm_pick (fun i => K j * f i) (h j hj z)]
