/-! ===== sums: lines of two kinds, cells between ends, ways and cuts ===== -/
theorem sm_sub (f g : Nat → Int) : ∀ n : Nat, sm (fun i => f i - g i) n = sm f n - sm g n
  | 0 => rfl
  | n + 1 => by rw [sm_s, sm_s, sm_s, sm_sub f g n]; omega
theorem sm_ng (f : Nat → Int) : ∀ n : Nat, sm (fun i => - f i) n = - sm f n
  | 0 => rfl
  | n + 1 => by rw [sm_s, sm_s, sm_ng f n]; omega
theorem sm_np {f : Nat → Int} {i n : Nat} (h : ∀ j, j < n → f j ≤ 0) (hi : i < n) : sm f n ≤ f i := by
  have e1 := sm_mem (f := fun j => - f j) (i := i) (n := n) (fun j hj => by have := h j hj; show 0 ≤ - f j; omega) hi
  rw [sm_ng] at e1
  omega
theorem sm_at {f g : Nat → Int} {m : Nat} {d : Int} : ∀ {n : Nat}, m < n → (∀ i, i < n → i ≠ m → f i = g i) → f m = g m + d → sm f n = sm g n + d
  | 0, h, _, _ => by omega
  | n + 1, h, h1, h2 => by
    rw [sm_s, sm_s]
    by_cases z : m = n
    · subst z
      rw [sm_congr (fun i hi => h1 i (by omega) (by omega)), h2]; omega
    · rw [sm_at (n := n) (by omega) (fun i hi hne => h1 i (by omega) hne) h2, h1 n (by omega) (fun q => z q.symm)]; omega
theorem sm_split (f : Nat → Int) (a : Nat) : ∀ b : Nat, sm f (a + b) = sm f a + sm (fun i => f (a + i)) b
  | 0 => by show sm f a = sm f a + 0; omega
  | b + 1 => by
    show sm f (a + b) + f (a + b) = sm f a + (sm (fun i => f (a + i)) b + f (a + b))
    rw [sm_split f a b]; omega
theorem sm_mono0 {f g : Nat → Int} : ∀ {n : Nat}, (∀ i, i < n → f i ≤ g i) → sm f n ≤ sm g n
  | 0, _ => Int.le_refl _
  | n + 1, h => by rw [sm_s, sm_s]; have := sm_mono0 (n := n) (fun i hi => h i (by omega)); have := h n (by omega); omega
/-- a sum of numbers not below 0 that is 0 -/
theorem sm_all0 {f : Nat → Int} {n : Nat} (h : ∀ i, i < n → 0 ≤ f i) (hz : sm f n = 0) {i : Nat} (hi : i < n) : f i = 0 := by
  have := sm_mem h hi
  have := h i hi
  omega
noncomputable def ch (p : Prop) : Int := @ite Int p (Classical.propDecidable p) 1 0
theorem ch_y {p : Prop} (h : p) : ch p = 1 := if_pos h
theorem ch_n {p : Prop} (h : ¬ p) : ch p = 0 := if_neg h
def pu (f : Nat → Int) (k : Nat) (v : Int) : Nat → Int := fun c => if c = k then v else f c
theorem pu_at (f : Nat → Int) (k : Nat) (v : Int) : pu f k v k = v := if_pos rfl
theorem pu_ne {f : Nat → Int} {k c : Nat} {v : Int} (h : c ≠ k) : pu f k v c = f c := if_neg h
def lS (Q : Nat) (e : Nat → Nat → Nat) (f : Nat → Int) (i : Nat) : Int := sm (fun j => f (e i j)) Q
def hS (P : Nat) (e : Nat → Nat → Nat) (f : Nat → Int) (j : Nat) : Int := sm (fun i => f (e i j)) P
def EOK (P Q N : Nat) (e : Nat → Nat → Nat) : Prop := P ≤ 5 ∧ Q ≤ 5 ∧ (∀ i j, i < P → j < Q → e i j < N) ∧ (∀ i j i' j', i < P → j < Q → i' < P → j' < Q → e i j = e i' j' → i = i' ∧ j = j')
def nOK (P Q n : Nat) : Prop := n < P ∨ (5 ≤ n ∧ n < 5 + Q)
def opp (m n : Nat) : Prop := (m < 5 ∧ 5 ≤ n) ∨ (5 ≤ m ∧ n < 5)
def ec (e : Nat → Nat → Nat) (m n : Nat) : Nat := if m < 5 then e m (n - 5) else e n (m - 5)
def ps (e : Nat → Nat → Nat) (lo hi f : Nat → Int) (m n : Nat) : Prop := if m < 5 then f (ec e m n) < hi (ec e m n) else lo (ec e m n) < f (ec e m n)
def bdF (N : Nat) (lo hi f : Nat → Int) : Prop := ∀ c, c < N → lo c ≤ f c ∧ f c ≤ hi c
def Fe (P Q N : Nat) (e : Nat → Nat → Nat) (A B lo hi f : Nat → Int) : Prop := bdF N lo hi f ∧ (∀ i, i < P → lS Q e f i = A i) ∧ (∀ j, j < Q → hS P e f j = B j)
section FLOW
variable {P Q N : Nat} {e : Nat → Nat → Nat} {lo hi f : Nat → Int}
theorem lS_sub (f g : Nat → Int) (i : Nat) : lS Q e (fun c => g c - f c) i = lS Q e g i - lS Q e f i := sm_sub (fun j => g (e i j)) (fun j => f (e i j)) Q
theorem hS_sub (f g : Nat → Int) (j : Nat) : hS P e (fun c => g c - f c) j = hS P e g j - hS P e f j := sm_sub (fun i => g (e i j)) (fun i => f (e i j)) P
theorem lh_all (f : Nat → Int) : sm (lS Q e f) P = sm (hS P e f) Q := sm_swap (fun i j => f (e i j)) Q P
theorem lS_pu (hE : EOK P Q N e) {i0 j0 i : Nat} (hi0 : i0 < P) (hj0 : j0 < Q) (hi : i < P) (v : Int) : lS Q e (pu f (e i0 j0) v) i = lS Q e f i + (if i = i0 then v - f (e i0 j0) else 0) := by
  by_cases z : i = i0
  · subst z
    rw [if_pos rfl]
    refine sm_at (m := j0) hj0 (fun j hj hne => pu_ne (fun q => hne (hE.2.2.2 _ _ _ _ hi hj hi hj0 q).2)) ?_
    show pu f (e i j0) v (e i j0) = f (e i j0) + (v - f (e i j0))
    rw [pu_at]; omega
  · rw [if_neg z, Int.add_zero]
    exact sm_congr (fun j hj => pu_ne (fun q => z (hE.2.2.2 _ _ _ _ hi hj hi0 hj0 q).1))
theorem hS_pu (hE : EOK P Q N e) {i0 j0 j : Nat} (hi0 : i0 < P) (hj0 : j0 < Q) (hj : j < Q) (v : Int) : hS P e (pu f (e i0 j0) v) j = hS P e f j + (if j = j0 then v - f (e i0 j0) else 0) := by
  by_cases z : j = j0
  · subst z
    rw [if_pos rfl]
    refine sm_at (m := i0) hi0 (fun i hi hne => pu_ne (fun q => hne (hE.2.2.2 _ _ _ _ hi hj hi0 hj q).1)) ?_
    show pu f (e i0 j) v (e i0 j) = f (e i0 j) + (v - f (e i0 j))
    rw [pu_at]; omega
  · rw [if_neg z, Int.add_zero]
    exact sm_congr (fun i hi => pu_ne (fun q => z (hE.2.2.2 _ _ _ _ hi hj hi0 hj0 q).2))
theorem cut_id (X Y h : Nat → Int) : sm (fun i => Y i * lS Q e h i) P - sm (fun j => X j * hS P e h j) Q = sm (fun i => sm (fun j => (Y i - X j) * h (e i j)) Q) P := by
  have e1 : sm (fun i => Y i * lS Q e h i) P = sm (fun i => sm (fun j => Y i * h (e i j)) Q) P := sm_congr (fun i _ => (sm_mul (Y i) (fun j => h (e i j)) Q).symm)
  have e2 : sm (fun j => X j * hS P e h j) Q = sm (fun i => sm (fun j => X j * h (e i j)) Q) P :=
    (sm_congr (fun j _ => (sm_mul (X j) (fun i => h (e i j)) P).symm)).trans (sm_swap (fun j i => X j * h (e i j)) P Q)
  rw [e1, e2, ← sm_sub]
  refine sm_congr (fun i _ => ?_)
  rw [← sm_sub]
  refine sm_congr (fun j _ => ?_)
  rw [Int.sub_mul]
theorem cut_np {X Y h : Nat → Int} (hn : ∀ i j, i < P → j < Q → (Y i - X j) * h (e i j) ≤ 0) {i0 j0 : Nat} (hi0 : i0 < P) (hj0 : j0 < Q) : sm (fun i => Y i * lS Q e h i) P - sm (fun j => X j * hS P e h j) Q ≤ (Y i0 - X j0) * h (e i0 j0) := by
  rw [cut_id]
  have h1 : ∀ i, i < P → sm (fun j => (Y i - X j) * h (e i j)) Q ≤ 0 := fun i hi => Int.le_trans (sm_np (f := fun j => (Y i - X j) * h (e i j)) (fun j hj => hn i j hi hj) hj0) (hn i j0 hi hj0)
  exact Int.le_trans (sm_np (f := fun i => sm (fun j => (Y i - X j) * h (e i j)) Q) h1 hi0) (sm_np (f := fun j => (Y i0 - X j) * h (e i0 j)) (fun j hj => hn i0 j hi0 hj) hj0)
/-- no way leads out of S: the cell between i and j binds -/
theorem cut_term {g : Nat → Int} {S : Nat → Prop} {i j : Nat} (h1 : S i → f (e i j) < hi (e i j) → S (5 + j)) (h2 : S (5 + j) → lo (e i j) < f (e i j) → S i) (hg : lo (e i j) ≤ g (e i j) ∧ g (e i j) ≤ hi (e i j)) : (ch (S i) - ch (S (5 + j))) * (g (e i j) - f (e i j)) ≤ 0 := by
  by_cases a : S i
  · by_cases b : S (5 + j)
    · rw [ch_y a, ch_y b]; omega
    · have : ¬ f (e i j) < hi (e i j) := fun z => b (h1 a z)
      rw [ch_y a, ch_n b]; omega
  · by_cases b : S (5 + j)
    · have : ¬ lo (e i j) < f (e i j) := fun z => a (h2 b z)
      rw [ch_n a, ch_y b]; omega
    · rw [ch_n a, ch_n b]; omega
theorem cut_fin {g : Nat → Int} {S : Nat → Prop} (hn : ∀ i j, i < P → j < Q → (ch (S i) - ch (S (5 + j))) * (g (e i j) - f (e i j)) ≤ 0) {i0 j0 : Nat} (hi0 : i0 < P) (hj0 : j0 < Q) : sm (fun i => ch (S i) * (lS Q e g i - lS Q e f i)) P - sm (fun j => ch (S (5 + j)) * (hS P e g j - hS P e f j)) Q ≤ (ch (S i0) - ch (S (5 + j0))) * (g (e i0 j0) - f (e i0 j0)) := by
  have := cut_np (P := P) (Q := Q) (e := e) (X := fun j => ch (S (5 + j))) (Y := fun i => ch (S i)) (h := fun c => g c - f c) hn hi0 hj0
  rw [sm_congr (fun i _ => by rw [lS_sub]), sm_congr (f := fun j => ch (S (5 + j)) * hS P e (fun c => g c - f c) j) (fun j _ => by rw [hS_sub])] at this
  exact this
/-! the ways that a search has found -/
def Tre (P Q : Nat) (e : Nat → Nat → Nat) (lo hi f : Nat → Int) (S root : Nat → Prop) (par rk : Nat → Nat) : Prop := ∀ n, S n → nOK P Q n ∧ (¬ root n → S (par n) ∧ rk (par n) < rk n ∧ opp (par n) n ∧ ps e lo hi f (par n) n)
def WI (P Q N : Nat) (e : Nat → Nat → Nat) (lo hi f : Nat → Int) (S root : Nat → Prop) (par rk : Nat → Nat) (e0 v : Nat) (f' : Nat → Int) : Prop := bdF N lo hi f' ∧ (∀ i, i < P → lS Q e f' i = lS Q e f i + (if v = i then 1 else 0) - (if e0 = i then 1 else 0)) ∧ (∀ j, j < Q → hS P e f' j = hS P e f j - (if v = 5 + j then 1 else 0) + (if e0 = 5 + j then 1 else 0)) ∧ (∀ u, S u → ¬ root u → rk u ≤ rk v → ps e lo hi f' (par u) u)
variable {S root : Nat → Prop} {par rk : Nat → Nat}
theorem WI0 (T : Tre P Q e lo hi f S root par rk) (hf : bdF N lo hi f) (e0 : Nat) : WI P Q N e lo hi f S root par rk e0 e0 f :=
  ⟨hf, fun i _ => by omega, fun j _ => by omega, fun u hu hr _ => ((T u hu).2 hr).2.2.2⟩
theorem edge_ne (hE : EOK P Q N e) (T : Tre P Q e lo hi f S root par rk) {u v : Nat} (hu : S u) (ru : ¬ root u) (hv : S v) (rv : ¬ root v) (hlt : rk u < rk v) : ec e (par u) u ≠ ec e (par v) v := by
  obtain ⟨u0, u1⟩ := T u hu
  obtain ⟨u2, u3, u4, _⟩ := u1 ru
  obtain ⟨v0, v1⟩ := T v hv
  obtain ⟨v2, v3, v4, _⟩ := v1 rv
  have u5 := (T _ u2).1
  have v5 := (T _ v2).1
  have hP := hE.1
  unfold nOK at u0 v0 u5 v5
  unfold opp at u4 v4
  intro q
  unfold ec at q
  by_cases a : par u < 5
  · by_cases b : par v < 5
    · rw [if_pos a, if_pos b] at q
      have := (hE.2.2.2 _ _ _ _ (by omega) (by omega) (by omega) (by omega) q).2
      have e1 : u = v := by omega
      rw [e1] at hlt; omega
    · rw [if_pos a, if_neg b] at q
      have z := hE.2.2.2 _ _ _ _ (by omega) (by omega) (by omega) (by omega) q
      rw [z.1] at u3
      omega
  · by_cases b : par v < 5
    · rw [if_neg a, if_pos b] at q
      have z := hE.2.2.2 _ _ _ _ (by omega) (by omega) (by omega) (by omega) q
      have e1 : par u = v := by omega
      rw [e1] at u3
      omega
    · rw [if_neg a, if_neg b] at q
      have := (hE.2.2.2 _ _ _ _ (by omega) (by omega) (by omega) (by omega) q).1
      rw [this] at hlt; omega
theorem ps_ne {f' : Nat → Int} {m n k : Nat} {x : Int} (h : ps e lo hi f' m n) (hk : ec e m n ≠ k) : ps e lo hi (pu f' k x) m n := by
  unfold ps at *
  rw [pu_ne hk]
  exact h
theorem walk1 (hE : EOK P Q N e) (T : Tre P Q e lo hi f S root par rk) {e0 v : Nat} (hv : S v) (hr : ¬ root v) {f' : Nat → Int} (h : WI P Q N e lo hi f S root par rk e0 v f') : ec e (par v) v < N ∧ WI P Q N e lo hi f S root par rk e0 (par v) (pu f' (ec e (par v) v) (f' (ec e (par v) v) + (if 5 ≤ v then 1 else -1))) := by
  obtain ⟨h1, h2, h3, h4⟩ := h
  obtain ⟨v0, v1⟩ := T v hv
  obtain ⟨v2, v3, v4, _⟩ := v1 hr
  have v5 := (T _ v2).1
  have hp := h4 v hv hr (Nat.le_refl _)
  have hP := hE.1
  have keep : ∀ x u, S u → ¬ root u → rk u ≤ rk (par v) → ps e lo hi (pu f' (ec e (par v) v) x) (par u) u := fun x u hu ru hle => ps_ne (h4 u hu ru (by omega)) (edge_ne hE T hu ru hv hr (by omega))
  unfold nOK at v0 v5
  unfold opp at v4
  by_cases a : par v < 5
  · have e1 : ec e (par v) v = e (par v) (v - 5) := if_pos a
    have hN : e (par v) (v - 5) < N := hE.2.2.1 _ _ (by omega) (by omega)
    unfold ps at hp
    rw [if_pos a, e1] at hp
    rw [e1] at keep ⊢
    rw [if_pos (show 5 ≤ v by omega)]
    refine ⟨hN, fun c hc => ?_, fun i hi => ?_, fun j hj => ?_, keep _⟩
    · by_cases z : c = e (par v) (v - 5)
      · have := h1 c hc
        rw [z] at this ⊢
        rw [pu_at]; omega
      · rw [pu_ne z]; exact h1 c hc
    · rw [lS_pu hE (by omega) (by omega) hi, h2 i hi]
      by_cases z : i = par v
      · rw [if_pos z, if_pos z.symm, if_neg (show ¬ v = i by omega)]; omega
      · rw [if_neg z, if_neg (show ¬ par v = i from fun q => z q.symm), if_neg (show ¬ v = i by omega)]; omega
    · rw [hS_pu hE (by omega) (by omega) hj, h3 j hj]
      by_cases z : j = v - 5
      · rw [if_pos z, if_pos (show v = 5 + j by omega), if_neg (show ¬ par v = 5 + j by omega)]; omega
      · rw [if_neg z, if_neg (show ¬ v = 5 + j by omega), if_neg (show ¬ par v = 5 + j by omega)]; omega
  · have e1 : ec e (par v) v = e v (par v - 5) := if_neg a
    have hN : e v (par v - 5) < N := hE.2.2.1 _ _ (by omega) (by omega)
    unfold ps at hp
    rw [if_neg a, e1] at hp
    rw [e1] at keep ⊢
    rw [if_neg (show ¬ 5 ≤ v by omega)]
    refine ⟨hN, fun c hc => ?_, fun i hi => ?_, fun j hj => ?_, keep _⟩
    · by_cases z : c = e v (par v - 5)
      · have := h1 c hc
        rw [z] at this ⊢
        rw [pu_at]; omega
      · rw [pu_ne z]; exact h1 c hc
    · rw [lS_pu hE (by omega) (by omega) hi, h2 i hi]
      by_cases z : i = v
      · rw [if_pos z, if_pos z.symm, if_neg (show ¬ par v = i by omega)]; omega
      · rw [if_neg z, if_neg (fun q => z q.symm), if_neg (show ¬ par v = i by omega)]; omega
    · rw [hS_pu hE (by omega) (by omega) hj, h3 j hj]
      by_cases z : j = par v - 5
      · rw [if_pos z, if_pos (show par v = 5 + j by omega), if_neg (show ¬ v = 5 + j by omega)]; omega
      · rw [if_neg z, if_neg (show ¬ par v = 5 + j by omega), if_neg (show ¬ v = 5 + j by omega)]; omega
end FLOW
def eR (W i j : Nat) : Nat := i * W + j
def eK (W i j : Nat) : Nat := j * W + i
theorem eR_ok {W H : Nat} (h1 : 1 ≤ W) (h2 : W ≤ 5) (h4 : H ≤ 5) : EOK H W (W * H) (eR W) := by
  refine ⟨h4, h2, fun i j hi hj => yx_lt hj hi, fun i j i' j' _ hj _ hj' q => ?_⟩
  unfold eR at q
  have a := xy_of (y := i) hj
  have b := xy_of (y := i') hj'
  rw [q] at a
  exact ⟨a.2.symm.trans b.2, a.1.symm.trans b.1⟩
theorem eK_ok {W H : Nat} (h1 : 1 ≤ W) (h2 : W ≤ 5) (h4 : H ≤ 5) : EOK W H (W * H) (eK W) := by
  refine ⟨h2, h4, fun i j hi hj => yx_lt hi hj, fun i j i' j' hi _ hi' _ q => ?_⟩
  unfold eK at q
  have a := xy_of (y := j) hi
  have b := xy_of (y := j') hi'
  rw [q] at a
  exact ⟨a.1.symm.trans b.1, a.2.symm.trans b.2⟩
/-- a heap for the sums -/
def Fs (W H : Nat) (C R lo hi f : Nat → Int) : Prop := Fe H W (W * H) (eR W) R C lo hi f
theorem Fs_K {W H : Nat} {C R lo hi f : Nat → Int} : Fs W H C R lo hi f ↔ Fe W H (W * H) (eK W) C R lo hi f := ⟨fun h => ⟨h.1, h.2.2, h.2.1⟩, fun h => ⟨h.1, h.2.2, h.2.1⟩⟩
theorem sm_rows (W : Nat) (f : Nat → Int) : ∀ H, sm f (W * H) = sm (lS W (eR W) f) H
  | 0 => by rw [Nat.mul_zero]; rfl
  | H + 1 => by
    rw [Nat.mul_succ, sm_split, sm_rows W f H, sm_s]
    unfold lS eR
    rw [Nat.mul_comm W H]
theorem Fs.tot {W H : Nat} {C R lo hi f : Nat → Int} (h : Fs W H C R lo hi f) : sm f (W * H) = sm R H := by
  rw [sm_rows]; exact sm_congr h.2.1
