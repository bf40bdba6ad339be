/-! ===== the world by roles: a role is a place in the list KC; its cell's content is read off two tables of numbers ===== -/
abbrev Wd : Type := (Nat → Nat → Int32) × (Nat → Nat → Int64)
abbrev Ev : Type := va_G × (Nat → Nat) × (Nat → ClassId) × (Nat → Nat)
abbrev Kd : Type := Nat × Nat × List (Nat × Nat)
def uI (w : Wd) (k i : Nat) (x : Int32) : Wd := (fun j => if j = k then upd (w.1 k) i x else w.1 j, w.2)
def uL (w : Wd) (k i : Nat) (x : Int64) : Wd := (w.1, fun j => if j = k then vp_updL (w.2 k) i x else w.2 j)
def rl (x : Int32) : Nat := x.toNatClampNeg
def KC : List Kd := [(4, 8, [(0, 1), (0, 5), (0, 10), (0, 14), (0, 19), (0, 79), (0, 90), (0, 96)]), (4, 2, [(0, 2), (0, 3), (0, 4), (1, 3), (1, 4)]), (0, 25, []), (0, 25, []), (0, 100, []), (2, 4, [(0, 6)]), (0, 25, []), (0, 25, []), (0, 25, []), (0, 25, []), (4, 7, [(0, 1), (0, 11), (0, 12), (0, 13)]), (0, 25, []), (0, 25, []), (0, 25, []), (4, 5, [(0, 1), (0, 10), (0, 15), (0, 18), (1, 4)]), (4, 3, [(0, 16), (0, 17)]), (0, 5, []), (0, 5, []), (0, 25, []), (4, 1, [(0, 1), (0, 14), (0, 20), (0, 21), (0, 22), (0, 23), (0, 50), (2, 7), (2, 8), (1, 9)]), (0, 25, []), (0, 25, []), (0, 25, []), (3, 26, [(0, 24)]), (1, 64, []), (1, 64, []), (1, 64, []), (1, 64, []), (1, 64, []), (1, 64, []), (1, 64, []), (1, 64, []), (1, 64, []), (1, 64, []), (1, 64, []), (1, 64, []), (1, 64, []), (1, 64, []), (1, 64, []), (1, 64, []), (1, 64, []), (1, 64, []), (1, 64, []), (1, 64, []), (1, 64, []), (1, 64, []), (1, 64, []), (1, 64, []), (1, 64, []), (1, 64, []), (3, 26, [(0, 51)]), (1, 64, []), (1, 64, []), (1, 64, []), (1, 64, []), (1, 64, []), (1, 64, []), (1, 64, []), (1, 64, []), (1, 64, []), (1, 64, []), (1, 64, []), (1, 64, []), (1, 64, []), (1, 64, []), (1, 64, []), (1, 64, []), (1, 64, []), (1, 64, []), (1, 64, []), (1, 64, []), (1, 64, []), (1, 64, []), (1, 64, []), (1, 64, []), (1, 64, []), (1, 64, []), (0, 64, []), (0, 64, []), (4, 4, [(0, 1), (0, 14), (0, 80), (0, 83), (0, 84), (0, 85), (0, 86), (0, 87), (0, 88), (0, 89)]), (4, 3, [(0, 81), (0, 82)]), (0, 5, []), (0, 5, []), (0, 25, []), (0, 25, []), (0, 25, []), (0, 10, []), (0, 10, []), (0, 10, []), (0, 10, []), (4, 0, [(0, 1), (0, 91), (0, 92), (0, 93), (0, 94), (0, 95)]), (0, 25, []), (0, 100, []), (0, 25, []), (0, 25, []), (0, 25, []), (4, 6, [(0, 1), (0, 97), (0, 98)]), (0, 25, []), (0, 25, []), (4, 9, [(1, 0), (1, 1), (0, 100), (0, 101), (0, 102), (0, 103), (0, 104), (0, 105), (0, 106), (0, 107), (0, 108), (1, 11), (1, 12), (0, 109), (0, 110), (0, 111), (0, 112), (0, 113), (0, 114), (0, 115), (0, 116), (0, 117), (0, 118), (0, 119), (0, 120), (0, 121)]), (0, 100, []), (0, 5, []), (0, 5, []), (0, 25, []), (0, 5, []), (0, 5, []), (0, 25, []), (1, 1664, []), (0, 1664, []), (0, 25, []), (0, 25, []), (0, 25, []), (0, 5, []), (0, 5, []), (0, 10, []), (0, 25, []), (0, 25, []), (0, 625, []), (0, 52, []), (0, 52, []), (0, 25, []), (0, 25, [])]
def kc (k : Nat) : Kd := KC.getD k (9, 0, [])
def LI (k : Nat) : Nat := if (kc k).1 = 0 then (kc k).2.1 else 0
def LL (k : Nat) : Nat := if (kc k).1 = 1 then (kc k).2.1 else 0
abbrev full : Nat → Prop := fun k => k < 122
theorem fl (k : Nat) (h : Nat.blt k 122 = true) : full k := Nat.blt_eq.mp h
theorem kc_full {k : Nat} (h : (kc k).1 ≠ 9) : full k := by
  by_cases hk : k < 122
  · exact hk
  · refine absurd ?_ h
    have hl : KC.length = 122 := by decide +kernel
    show (KC.getD k (9, 0, [])).1 = 9
    rw [List.getD_eq_getElem?_getD, List.getElem?_eq_none (by omega)]
    rfl
theorem LI_full {k : Nat} (h : 0 < LI k) : full k := kc_full fun z => by
  unfold LI at h
  rw [z] at h
  simp at h
theorem LL_full {k : Nat} (h : 0 < LL k) : full k := kc_full fun z => by
  unfold LL at h
  rw [z] at h
  simp at h
def fv (E : Ev) (f : Nat → Int32) (q : Nat × Nat) : Value := if q.1 = 0 then .ref (E.2.1 q.2) else if q.1 = 1 then .int (f q.2) else .ref (E.2.1 (rl (f q.2)))
def kdc (E : Ev) (c : Kd) (f : Nat → Int32) (g : Nat → Int64) : va_E :=
  if c.1 = 0 then .inl (E.2.2.1 0, c.2.1, .inl f)
  else if c.1 = 1 then .inl (E.2.2.1 1, c.2.1, .inr (.inl g))
  else if c.1 = 2 then .inl (E.2.2.1 2, c.2.1, .inr (.inr (.inr (.inr (fun i => some (E.2.1 ((c.2.2.getD 0 (0, 0)).2 + i)))))))
  else if c.1 = 3 then .inl (E.2.2.1 3, c.2.1, .inr (.inr (.inr (.inr (fun i => some (E.2.1 ((c.2.2.getD 0 (0, 0)).2 + i)))))))
  else .inr (c.2.1, c.2.2.map (fv E f))
theorem kdc_I (E : Ev) {k : Nat} (h : 0 < LI k) (f : Nat → Int32) (g : Nat → Int64) : kdc E (kc k) f g = .inl (E.2.2.1 0, LI k, .inl f) := by
  unfold LI at h ⊢
  by_cases z : (kc k).1 = 0
  · simp [kdc, z]
  · simp [z] at h
theorem kdc_L (E : Ev) {k : Nat} (h : 0 < LL k) (f : Nat → Int32) (g : Nat → Int64) : kdc E (kc k) f g = .inl (E.2.2.1 1, LL k, .inr (.inl g)) := by
  unfold LL at h ⊢
  by_cases z : (kc k).1 = 1
  · simp [kdc, z]
  · simp [z] at h
def wA (E : Ev) (rs : Nat → Prop) : Nat → Prop := fun q => ∃ k, rs k ∧ q = E.2.1 k
def tysE (E : Ev) : List (ClassId × FieldType) := [(E.2.2.1 0, .int), (E.2.2.1 1, .long), (E.2.2.1 2, .array .int), (E.2.2.1 3, .array .long)]
def stX (j : Nat) : Int32 := if j = 0 then -1 else if j = 2 then 1 else 0
def stY (j : Nat) : Int32 := if j = 1 then -1 else if j = 3 then 1 else 0
def World (E : Ev) (rs : Nat → Prop) (w : Wd) (U : State) (H : Heap) : Prop :=
  (∀ k, rs k → va_at E.1 vwCl (E.2.1 k, kdc E (kc k) (w.1 k) (w.2 k)) H) ∧ (∀ j k, rs j → rs k → E.2.1 j = E.2.1 k → j = k) ∧ va_K E.1 vwCl (tysE E) U ∧
  va_Z "CubeHeaps$Ground" "STEP_X" "[I" (.ref (E.2.2.2 0)) (wA E rs) U H ∧ va_T .int (E.2.2.2 0) 4 (fun j => .int (stX j)) (wA E rs) U H ∧
  va_Z "CubeHeaps$Ground" "STEP_Y" "[I" (.ref (E.2.2.2 1)) (wA E rs) U H ∧ va_T .int (E.2.2.2 1) 4 (fun j => .int (stY j)) (wA E rs) U H
theorem World.moved {E : Ev} {rs : Nat → Prop} {w : Wd} {u U : State} {H : Heap} (hvm : u.vm.Alike U.vm) (h : World E rs w u H) : World E rs w U H :=
  ⟨h.1, h.2.1, va_K.moved hvm h.2.2.1, va_Z.moved hvm h.2.2.2.1, va_T.moved hvm h.2.2.2.2.1, va_Z.moved hvm h.2.2.2.2.2.1, va_T.moved hvm h.2.2.2.2.2.2⟩
theorem World.P1 {E : Ev} {rs : Nat → Prop} {w : Wd} {U : State} {H : Heap} (h : World E rs w U H) {k : Nat} (hk : rs k) : va_P E.1 vwCl [(E.2.1 k, kdc E (kc k) (w.1 k) (w.2 k))] H := by
  intro i q hq
  cases i with
  | zero => cases hq; exact h.1 k hk
  | succ i => simp at hq
theorem World.set {E : Ev} {rs : Nat → Prop} {w w1 : Wd} {U : State} {H H1 : Heap} (h : World E rs w U H) {k : Nat} (hk : rs k) (hne : ∀ j, j ≠ k → w1.1 j = w.1 j ∧ w1.2 j = w.2 j) (he : va_at E.1 vwCl (E.2.1 k, kdc E (kc k) (w1.1 k) (w1.2 k)) H1) (oq : ∀ q : Nat, q ≠ E.2.1 k → H1[q]? = H[q]?) : World E rs w1 U H1 := by
  obtain ⟨h1, h2, h3, h4, h5, h6, h7⟩ := h
  have hA : ∀ a : Nat, a < H.size → ¬ wA E rs a → H1[a]? = H[a]? := fun a _ ha => oq a (fun z => ha ⟨k, hk, z⟩)
  refine ⟨fun j hj => ?_, h2, h3, h4.kept hA, h5.kept hA, h6.kept hA, h7.kept hA⟩
  by_cases z : j = k
  · subst z; exact he
  · rw [(hne j z).1, (hne j z).2]
    exact (h1 j hj).kept (oq _ (fun q => z (h2 j k hj hk q)))
theorem uI_ne {w : Wd} {k i : Nat} {x : Int32} : ∀ j, j ≠ k → (uI w k i x).1 j = w.1 j ∧ (uI w k i x).2 j = w.2 j := fun _ h => ⟨if_neg h, rfl⟩
theorem uL_ne {w : Wd} {k i : Nat} {x : Int64} : ∀ j, j ≠ k → (uL w k i x).1 j = w.1 j ∧ (uL w k i x).2 j = w.2 j := fun _ h => ⟨rfl, if_neg h⟩
theorem uI_at {w : Wd} {k i : Nat} {x : Int32} : (uI w k i x).1 k = upd (w.1 k) i x := if_pos rfl
theorem uL_at {w : Wd} {k i : Nat} {x : Int64} : (uL w k i x).2 k = vp_updL (w.2 k) i x := if_pos rfl
/-! ===== the steps of the functions ===== -/
def gI (w : Wd) (k : Nat) (i : Int32) : Option Int32 := if i < 0 ∨ LI k ≤ i.toNatClampNeg then none else some (w.1 k i.toNatClampNeg)
def gL (w : Wd) (k : Nat) (i : Int32) : Option Int64 := if i < 0 ∨ LL k ≤ i.toNatClampNeg then none else some (w.2 k i.toNatClampNeg)
def sI (w : Wd) (k : Nat) (i : Int32) (x : Int32) : Option Wd := if i < 0 ∨ LI k ≤ i.toNatClampNeg then none else some (uI w k i.toNatClampNeg x)
def sL (w : Wd) (k : Nat) (i : Int32) (x : Int64) : Option Wd := if i < 0 ∨ LL k ≤ i.toNatClampNeg then none else some (uL w k i.toNatClampNeg x)
def ixA (n : Nat) (i : Int32) : Option Nat := if i < 0 ∨ n ≤ i.toNatClampNeg then none else some i.toNatClampNeg
def dvI (x y : Int32) : Option Int32 := if y = 0 then none else some (x / y)
def rmI (x y : Int32) : Option Int32 := if y = 0 then none else some (x - x / y * y)
def bnd {α β : Type} (o : Option (α × Wd)) (F : α → Wd → Option β) : Option β := match o with
  | none => none
  | some q => F q.1 q.2
def zr (v : Int32) (w : Wd) : Option (Int32 × Wd) := if v = 0 ∨ v = 1 then some (v, w) else none
theorem bnd_some {α β : Type} {o : Option (α × Wd)} {F : α → Wd → Option β} {r : β} (h : bnd o F = some r) : ∃ v w, o = some (v, w) ∧ F v w = some r := by
  cases o with
  | none => cases h
  | some q => exact ⟨q.1, q.2, rfl, h⟩
theorem bind_some {α β : Type} {o : Option α} {F : α → Option β} {r : β} (h : o.bind F = some r) : ∃ v, o = some v ∧ F v = some r := by
  cases o with
  | none => cases h
  | some q => exact ⟨q, rfl, h⟩
/-! ===== contracts ===== -/
def CtI (l : Launch) (y : MethodName) (ws : List Cond) (rm : Room) (E : Ev) (rs : Nat → Prop) (av : List Value) (w : Wd) (q : Int32 × Wd) : Prop :=
  Met l y ws rm (va_Pc av (fun U => World E rs w U U.heap)) (va_Qi (fun r (_ : Unit) => r = q.1) (fun _ t => World E rs q.2 t t.heap) (wA E rs)) 0 0 (wA E rs)
def CtL (l : Launch) (y : MethodName) (ws : List Cond) (rm : Room) (E : Ev) (rs : Nat → Prop) (av : List Value) (w : Wd) (q : Int64 × Wd) : Prop :=
  Met l y ws rm (va_Pc av (fun U => World E rs w U U.heap)) (va_Ql (fun r (_ : Unit) => r = q.1) (fun _ t => World E rs q.2 t t.heap) (wA E rs)) 0 0 (wA E rs)
def CtV (l : Launch) (y : MethodName) (ws : List Cond) (rm : Room) (E : Ev) (rs : Nat → Prop) (av : List Value) (w : Wd) (q : Unit × Wd) : Prop :=
  Met l y ws rm (va_Pc av (fun U => World E rs w U U.heap)) (va_Qv (fun (_ : Unit) => True) (fun _ t => World E rs q.2 t t.heap) (wA E rs)) 0 0 (wA E rs)
def CtR (l : Launch) (y : MethodName) (ws : List Cond) (rm : Room) (E : Ev) (rs : Nat → Prop) (av : List Value) (w : Wd) (q : Nat × Wd) : Prop :=
  Met l y ws rm (va_Pc av (fun U => World E rs w U U.heap)) (va_Qr (fun (_ : Unit) => True) (fun _ a t => a = E.2.1 q.1 ∧ World E rs q.2 t t.heap) (wA E rs)) 0 0 (wA E rs)
theorem World.blind {E : Ev} {rs : Nat → Prop} {w : Wd} {av : List Value} : FrameBlind (va_Pc av (fun U => World E rs w U U.heap)) := fun a U g mk q => ⟨q.1, World.moved (u := U) (U := U.calling g mk a) (Vm.Alike.refl U.vm) q.2⟩
section ROWS
variable {p : Program} {l : Launch} {e : Env} {R : Room} {s : State} {m : MethodId} {args : Array Value} {below : List Frame} {meth : Method} {c : Code} {H : Heap} {locs : List Loc} {cells slots : Nat} {Q : State → Prop}
variable {cc : ByteArray} {pc : Nat} {ls : Array Slot} {rest : List Value} {E : Ev} {rs : Nat → Prop} {w : Wd} {k : Nat} {β : Type} {r : β}
theorem rw_iald (hx : p.tables.exec = Jvm.exec) (hb : c.code = cc) (hW : World E rs w s H) (hk : 0 < LI k → rs k) {i : Int32} {F : Int32 → Option β} (h : (gI w k i).bind F = some r) (hdg : decode cc pc = .ok (.iaload, 1))
    (kk : ∀ x, F x = some r → W p l e R s m args below meth c H locs cells slots Q (F0 m (pc + 1) ls (.int x :: rest))) : W p l e R s m args below meth c H locs cells slots Q (F0 m pc ls (.int i :: .ref (E.2.1 k) :: rest)) := by
  unfold gI at h
  by_cases hin : i < 0 ∨ LI k ≤ i.toNatClampNeg
  · rw [if_pos hin] at h; cases h
  · rw [if_neg hin] at h
    have hp : 0 < LI k := by omega
    have hP := hW.P1 (hk hp)
    rw [kdc_I E hp] at hP
    exact va_iald hx hb hW.2.2.1 hP 0 0 rfl rfl hin hdg (kk _ h)
theorem rw_lald (hx : p.tables.exec = Jvm.exec) (hb : c.code = cc) (hW : World E rs w s H) (hk : 0 < LL k → rs k) {i : Int32} {F : Int64 → Option β} (h : (gL w k i).bind F = some r) (hdg : decode cc pc = .ok (.laload, 1))
    (kk : ∀ x, F x = some r → W p l e R s m args below meth c H locs cells slots Q (F0 m (pc + 1) ls (.long x :: rest))) : W p l e R s m args below meth c H locs cells slots Q (F0 m pc ls (.int i :: .ref (E.2.1 k) :: rest)) := by
  unfold gL at h
  by_cases hin : i < 0 ∨ LL k ≤ i.toNatClampNeg
  · rw [if_pos hin] at h; cases h
  · rw [if_neg hin] at h
    have hp : 0 < LL k := by omega
    have hP := hW.P1 (hk hp)
    rw [kdc_L E hp] at hP
    exact va_lald hx hb hW.2.2.1 hP 0 1 rfl rfl hin hdg (kk _ h)
theorem rw_iast (hx : p.tables.exec = Jvm.exec) (hb : c.code = cc) (hW : World E rs w s H) (hS : va_S (wA E rs) s.heap H locs) (hk : 0 < LI k → rs k) {i x : Int32} {F : Wd → Option β} (h : (sI w k i x).bind F = some r) (hdg : decode cc pc = .ok (.iastore, 1))
    (kk : ∀ (w : Wd) (H : Heap) (locs : List Loc), F w = some r → World E rs w s H → va_S (wA E rs) s.heap H locs → W p l e R s m args below meth c H locs cells slots Q (F0 m (pc + 1) ls rest)) : W p l e R s m args below meth c H locs cells slots Q (F0 m pc ls (.int x :: .int i :: .ref (E.2.1 k) :: rest)) := by
  unfold sI at h
  by_cases hin : i < 0 ∨ LI k ≤ i.toNatClampNeg
  · rw [if_pos hin] at h; cases h
  · rw [if_neg hin] at h
    have hp : 0 < LI k := by omega
    have hP := hW.P1 (hk hp)
    rw [kdc_I E hp] at hP
    refine W.iast hx hb (hP 0 _ rfl) ((hW.2.2.1.2 0 _ rfl).1 (LI k) (fun j => .int (w.1 k j))) (fun q => by cases q) (by show ¬ (i < 0 ∨ (arrV _ _ _).slots.size ≤ _); rw [arrV_size]; exact hin) rfl rfl hdg fun H1 e z oq => ?_
    refine kk _ H1 _ h (hW.set (hk hp) uI_ne ?_ oq) (hS.put z oq ⟨k, hk hp, rfl⟩)
    rw [kdc_I E hp, uI_at]
    show H1[E.2.1 k]? = some (vp_cell _ _)
    rw [e]
    rw [vp_cell_i, vp_cell_i, arrV_store]
    congr 2
    funext q
    by_cases hq : q = i.toNatClampNeg
    · subst hq
      simp [updV, upd]
    · simp [updV, upd, hq]
theorem rw_last (hx : p.tables.exec = Jvm.exec) (hb : c.code = cc) (hW : World E rs w s H) (hS : va_S (wA E rs) s.heap H locs) (hk : 0 < LL k → rs k) {i : Int32} {x : Int64} {F : Wd → Option β} (h : (sL w k i x).bind F = some r) (hdg : decode cc pc = .ok (.lastore, 1))
    (kk : ∀ (w : Wd) (H : Heap) (locs : List Loc), F w = some r → World E rs w s H → va_S (wA E rs) s.heap H locs → W p l e R s m args below meth c H locs cells slots Q (F0 m (pc + 1) ls rest)) : W p l e R s m args below meth c H locs cells slots Q (F0 m pc ls (.long x :: .int i :: .ref (E.2.1 k) :: rest)) := by
  unfold sL at h
  by_cases hin : i < 0 ∨ LL k ≤ i.toNatClampNeg
  · rw [if_pos hin] at h; cases h
  · rw [if_neg hin] at h
    have hp : 0 < LL k := by omega
    have hP := hW.P1 (hk hp)
    rw [kdc_L E hp] at hP
    refine W.last hx hb (hP 0 _ rfl) ((hW.2.2.1.2 1 _ rfl).1 (LL k) (fun j => .long (w.2 k j))) (fun q => by cases q) (by show ¬ (i < 0 ∨ (arrV _ _ _).slots.size ≤ _); rw [arrV_size]; exact hin) rfl rfl hdg fun H1 e z oq => ?_
    refine kk _ H1 _ h (hW.set (hk hp) uL_ne ?_ oq) (hS.put z oq ⟨k, hk hp, rfl⟩)
    rw [kdc_L E hp, uL_at]
    show H1[E.2.1 k]? = some (vp_cell _ _)
    rw [e]
    rw [vp_cell_l, vp_cell_l, arrV_store]
    congr 2
    funext q
    by_cases hq : q = i.toNatClampNeg
    · subst hq
      simp [updV, vp_updL]
    · simp [updV, vp_updL, hq]
/-- an array of arrays of ints -/
theorem rw_aaldI (hx : p.tables.exec = Jvm.exec) (hb : c.code = cc) (hW : World E rs w s H) (hk : rs k) {n b : Nat} (hc : kc k = (2, n, [(0, b)])) {i : Int32} {F : Nat → Option β} (h : (ixA n i).bind F = some r) (hdg : decode cc pc = .ok (.aaload, 1))
    (kk : ∀ x, F x = some r → W p l e R s m args below meth c H locs cells slots Q (F0 m (pc + 1) ls (.ref (E.2.1 (b + x)) :: rest))) : W p l e R s m args below meth c H locs cells slots Q (F0 m pc ls (.int i :: .ref (E.2.1 k) :: rest)) := by
  unfold ixA at h
  by_cases hin : i < 0 ∨ n ≤ i.toNatClampNeg
  · rw [if_pos hin] at h; cases h
  · rw [if_neg hin] at h
    have hP := hW.P1 hk
    rw [hc] at hP
    have hlt : i.toNatClampNeg < n := by omega
    exact W.aald (v := .ref (E.2.1 (b + i.toNatClampNeg))) (ty := .array .int) hx hb (hP 0 _ rfl) ((hW.2.2.1.2 2 _ rfl).1 n (fun j => va_rf (some (E.2.1 (b + j))))) rfl (fun q => by cases q) (by show ¬ (i < 0 ∨ (arrV _ _ _).slots.size ≤ _); rw [arrV_size]; exact hin) (by show (arrV _ _ _).slots[_]? = _; rw [arrV_read _ _ hlt]; rfl) rfl rfl hdg (kk _ h)
theorem rw_aaldL (hx : p.tables.exec = Jvm.exec) (hb : c.code = cc) (hW : World E rs w s H) (hk : rs k) {n b : Nat} (hc : kc k = (3, n, [(0, b)])) {i : Int32} {F : Nat → Option β} (h : (ixA n i).bind F = some r) (hdg : decode cc pc = .ok (.aaload, 1))
    (kk : ∀ x, F x = some r → W p l e R s m args below meth c H locs cells slots Q (F0 m (pc + 1) ls (.ref (E.2.1 (b + x)) :: rest))) : W p l e R s m args below meth c H locs cells slots Q (F0 m pc ls (.int i :: .ref (E.2.1 k) :: rest)) := by
  unfold ixA at h
  by_cases hin : i < 0 ∨ n ≤ i.toNatClampNeg
  · rw [if_pos hin] at h; cases h
  · rw [if_neg hin] at h
    have hP := hW.P1 hk
    rw [hc] at hP
    have hlt : i.toNatClampNeg < n := by omega
    exact W.aald (v := .ref (E.2.1 (b + i.toNatClampNeg))) (ty := .array .long) hx hb (hP 0 _ rfl) ((hW.2.2.1.2 3 _ rfl).1 n (fun j => va_rf (some (E.2.1 (b + j))))) rfl (fun q => by cases q) (by show ¬ (i < 0 ∨ (arrV _ _ _).slots.size ≤ _); rw [arrV_size]; exact hin) (by show (arrV _ _ _).slots[_]? = _; rw [arrV_read _ _ hlt]; rfl) rfl rfl hdg (kk _ h)
/-- the length of a row of ints; the function asks that it is one -/
theorem rw_alenI (hx : p.tables.exec = Jvm.exec) (hb : c.code = cc) (hW : World E rs w s H) (hk : 0 < LI k → rs k) {P : Option β} (h : (if 0 < LI k then P else none) = some r) (hdg : decode cc pc = .ok (.arraylength, 1))
    (kk : P = some r → W p l e R s m args below meth c H locs cells slots Q (F0 m (pc + 1) ls (.int (nI (LI k)) :: rest))) : W p l e R s m args below meth c H locs cells slots Q (F0 m pc ls (.ref (E.2.1 k) :: rest)) := by
  by_cases hp : 0 < LI k
  · rw [if_pos hp] at h
    have hP := hW.P1 (hk hp)
    rw [kdc_I E hp] at hP
    exact va_alen hx hb hW.2.2.1 hP 0 0 rfl (ty := .int) rfl rfl hdg (kk h)
  · rw [if_neg hp] at h; cases h
theorem rw_alenL (hx : p.tables.exec = Jvm.exec) (hb : c.code = cc) (hW : World E rs w s H) (hk : 0 < LL k → rs k) {P : Option β} (h : (if 0 < LL k then P else none) = some r) (hdg : decode cc pc = .ok (.arraylength, 1))
    (kk : P = some r → W p l e R s m args below meth c H locs cells slots Q (F0 m (pc + 1) ls (.int (nI (LL k)) :: rest))) : W p l e R s m args below meth c H locs cells slots Q (F0 m pc ls (.ref (E.2.1 k) :: rest)) := by
  by_cases hp : 0 < LL k
  · rw [if_pos hp] at h
    have hP := hW.P1 (hk hp)
    rw [kdc_L E hp] at hP
    exact va_alen hx hb hW.2.2.1 hP 0 1 rfl (ty := .long) rfl rfl hdg (kk h)
  · rw [if_neg hp] at h; cases h
/-- fields -/
theorem rw_get (hx : p.tables.exec = Jvm.exec) (hb : c.code = cc) {own C : String} {T : u_T} {N ci index : Nat} {Ts : List Cond} (hts : ∀ w ∈ Ts, w.before args s = true) (hin : ∀ w ∈ u_ws C T N, w ∈ Ts) (hown : s.vm.findClass own = some m.cls) (hW : World E rs w s H) (hk : rs k) {fs : List (Nat × Nat)} (hc : kc k = (4, ci, fs)) (hcl : vwCl[ci]? = some (C, T, N)) (j : Nat) (hj : j < N) (hlink : (Cond.fieldLink own index (T j).1 (T j).2.1 (T j).2.2.1).before args s = true) {q : Nat × Nat} (hq : fs[j]? = some q) {v : Value} (hv : fv E (w.1 k) q = v) (hdg : decode cc pc = .ok (.getfield index, 3))
    (kk : W p l e R s m args below meth c H locs cells slots Q (F0 m (pc + 3) ls (v :: rest))) : W p l e R s m args below meth c H locs cells slots Q (F0 m pc ls (.ref (E.2.1 k) :: rest)) := by
  have hP := hW.P1 hk
  rw [hc] at hP
  exact va_get (D := E.1) (cl := vwCl) (ci := ci) (T := T) (N := N) (C := C) (fs := fs.map (fv E (w.1 k))) hx hb hts hin hown hW.2.2.1 hP 0 rfl hcl j hj hlink (fun _ h => h) (by rw [List.getElem?_map, hq, ← hv]; rfl) hdg kk
theorem rw_put (hx : p.tables.exec = Jvm.exec) (hb : c.code = cc) {own C : String} {T : u_T} {N ci index : Nat} {Ts : List Cond} (hts : ∀ w ∈ Ts, w.before args s = true) (hin : ∀ w ∈ u_ws C T N, w ∈ Ts) {ty0 : Nat → FieldType} (hty : ∀ k, k < N → parseFieldDescriptor (T k).2.2.1 = some (ty0 k)) (hnm : ∀ a, a < N → ∀ b, b < N → a ≠ b → (T a).2.1 ≠ (T b).2.1) (hown : s.vm.findClass own = some m.cls) (hW : World E rs w s H) (hS0 : va_S (wA E rs) s.heap H locs) (hk : rs k) {fs : List (Nat × Nat)} (hc : kc k = (4, ci, fs)) (hcl : vwCl[ci]? = some (C, T, N)) (j : Nat) (hj : j < N) (hlink : (Cond.fieldLink own index (T j).1 (T j).2.1 (T j).2.2.1).before args s = true) (hfin : (T j).2.2.2 = false) (i : Nat) (x : Int32) {v : Value} {L : List Value} (hs1 : (fs.map (fv E (w.1 k))).set j v = L) (hs2 : fs.map (fv E (upd (w.1 k) i x)) = L) (hn : narrow (ty0 j) v = v) (hfit : fits (ty0 j) v = true) (hl : j < fs.length) (hdg : decode cc pc = .ok (.putfield index, 3))
    (kk : ∀ (H : Heap) (locs : List Loc), World E rs (uI w k i x) s H → va_S (wA E rs) s.heap H locs → W p l e R s m args below meth c H locs cells slots Q (F0 m (pc + 3) ls rest)) : W p l e R s m args below meth c H locs cells slots Q (F0 m pc ls (v :: .ref (E.2.1 k) :: rest)) := by
  have hK := hW.2.2.1
  have hap := va_apart (own := own) (D := E.1) (cl := vwCl) (tys := tysE E) hts hin ty0 hty hnm hK hcl
  have hP := hW.P1 hk
  rw [hc] at hP
  obtain ⟨r, h1, cell, q1, q2, q3, q4⟩ := hP 0 (E.2.1 k, .inr (ci, fs.map (fv E (w.1 k)))) rfl
  have hr : r = (C, T, N) := Option.some.inj (h1.symm.trans hcl)
  subst hr
  obtain ⟨hS, hfc, kC, hkC, hkind⟩ := hK.1 ci _ hcl
  obtain ⟨cf, kf, fi, f, hi, hsl⟩ := hS j hj
  have hlay := hts _ (hin _ (u_in_lay hj))
  unfold u_lay at hlay
  rw [if_neg (by rw [hfin]; decide)] at hlay
  have hst := (u_facts hfc hkC (u_lays hts hin hj) hi).1
  have h6 := u_store hfc hkC hkind hlay hi (hty j hj) hn hfit
  refine W.putK hx hb (f := f) ⟨hown, hlink, ⟨_, _, _, hi⟩, hst⟩ (by rw [q2]; exact h6) q1 q3 (by rw [hsl]; exact k2_hasslot (q4 j hj)) rfl rfl hdg fun H' e1 e2 e3 => ?_
  rw [hsl] at e1 ⊢
  refine kk H' _ (hW.set hk uI_ne ?_ e3) (hS0.put e2 e3 ⟨k, hk, rfl⟩)
  rw [hc, uI_at]
  refine ⟨_, hcl, ?_⟩
  show t_OB _ _ _ _ _ (vp_V (fs.map (fv E (upd (w.1 k) i x))))
  rw [hs2, ← hs1]
  exact t_OB.to (V := updV (vp_V (fs.map (fv E (w.1 k)))) j v) ⟨_, e1, q2, q3, t_set q4 hap hj v⟩ (fun a _ => vp_updV_set (by rw [List.length_map]; exact hl) v a)
end ROWS
