/-! ===== loops, returns, static rows ===== -/
def lp {α : Type} (z : α) (b : α → α) : Nat → α
  | 0 => z
  | n + 1 => b (lp z b n)
theorem exG : ∃ n : Nat, 1000000000 < n := ⟨_, Nat.lt_succ_self _⟩
noncomputable def G : Nat := exG.choose
theorem hG : 1000000000 < G := exG.choose_spec
def usr (x y : Int32) : Int32 := (x.toUInt32 >>> (y.toUInt32 &&& Int32.toUInt32 31)).toInt32
theorem rq {β : Type} {P : Option β} {r : β} {c : Prop} {d : Decidable c} (h : (if c then P else none) = some r) : c ∧ P = some r := by
  by_cases z : c
  · rw [if_pos z] at h; exact ⟨z, h⟩
  · rw [if_neg z] at h; cases h
section RR
variable {p : Program} {l : Launch} {e : Env} {R : Room} {s : State} {m : MethodId} {args : Array Value} {below : List Frame} {meth : Method} {c : Code} {H : Heap} {locs : List Loc} {Q : State → Prop}
variable {cc : ByteArray} {pc : Nat} {ls : Array Slot} {rest : List Value} {E : Ev} {rs : Nat → Prop} {w w0 : Wd} {β : Type} {r : β}
theorem rrI {q : Int32 × Wd} (hQ : ∀ (H : Heap) (locs : List Loc) (ls : Array Slot) (pc : Nat), World E rs q.2 s H → va_S (wA E rs) s.heap H locs → decode cc pc = .ok (.ireturn, 1) → W p l e R s m args below meth c H locs 0 0 Q (F0 m pc ls [.int q.1])) (hW : World E rs w s H) (hS : va_S (wA E rs) s.heap H locs) {v : Int32} (h : some (v, w) = some q) (hdg : decode cc pc = .ok (.ireturn, 1)) : W p l e R s m args below meth c H locs 0 0 Q (F0 m pc ls [.int v]) := by
  cases h; exact hQ _ _ _ _ hW hS hdg
theorem rrZ {q : Int32 × Wd} (hQ : ∀ (H : Heap) (locs : List Loc) (ls : Array Slot) (pc : Nat), (q.1 = 0 ∨ q.1 = 1) → World E rs q.2 s H → va_S (wA E rs) s.heap H locs → decode cc pc = .ok (.ireturn, 1) → W p l e R s m args below meth c H locs 0 0 Q (F0 m pc ls [.int q.1])) (hW : World E rs w s H) (hS : va_S (wA E rs) s.heap H locs) {v : Int32} (h : zr v w = some q) (hdg : decode cc pc = .ok (.ireturn, 1)) : W p l e R s m args below meth c H locs 0 0 Q (F0 m pc ls [.int v]) := by
  obtain ⟨h1, h2⟩ := zr_some h
  subst h2; exact hQ _ _ _ _ h1 hW hS hdg
theorem rrL {q : Int64 × Wd} (hQ : ∀ (H : Heap) (locs : List Loc) (ls : Array Slot) (pc : Nat), World E rs q.2 s H → va_S (wA E rs) s.heap H locs → decode cc pc = .ok (.lreturn, 1) → W p l e R s m args below meth c H locs 0 0 Q (F0 m pc ls [.long q.1])) (hW : World E rs w s H) (hS : va_S (wA E rs) s.heap H locs) {v : Int64} (h : some (v, w) = some q) (hdg : decode cc pc = .ok (.lreturn, 1)) : W p l e R s m args below meth c H locs 0 0 Q (F0 m pc ls [.long v]) := by
  cases h; exact hQ _ _ _ _ hW hS hdg
theorem rrV {q : Unit × Wd} (hQ : ∀ (H : Heap) (locs : List Loc) (ls : Array Slot) (pc : Nat), World E rs q.2 s H → va_S (wA E rs) s.heap H locs → decode cc pc = .ok (.return_, 1) → W p l e R s m args below meth c H locs 0 0 Q (F0 m pc ls [])) (hW : World E rs w s H) (hS : va_S (wA E rs) s.heap H locs) {v : Unit} (h : some (v, w) = some q) (hdg : decode cc pc = .ok (.return_, 1)) : W p l e R s m args below meth c H locs 0 0 Q (F0 m pc ls []) := by
  cases h; exact hQ _ _ _ _ hW hS hdg
theorem rrR {q : Nat × Wd} (hQ : ∀ (H : Heap) (locs : List Loc) (ls : Array Slot) (pc : Nat), World E rs q.2 s H → va_S (wA E rs) s.heap H locs → decode cc pc = .ok (.areturn, 1) → W p l e R s m args below meth c H locs 0 0 Q (F0 m pc ls [.ref (E.2.1 q.1)])) (hW : World E rs w s H) (hS : va_S (wA E rs) s.heap H locs) {v : Nat} (h : some (v, w) = some q) (hdg : decode cc pc = .ok (.areturn, 1)) : W p l e R s m args below meth c H locs 0 0 Q (F0 m pc ls [.ref (E.2.1 v)]) := by
  cases h; exact hQ _ _ _ _ hW hS hdg
variable {cells slots : Nat}
theorem rw_stX (hx : p.tables.exec = Jvm.exec) (hb : c.code = cc) (hW : World E rs w0 s s.heap) (hS : va_S (wA E rs) s.heap H locs) {i : Int32} {F : Nat → Option β} (h : (ixA 4 i).bind F = some r) (hdg : decode cc pc = .ok (.iaload, 1))
    (kk : ∀ x, F x = some r → W p l e R s m args below meth c H locs cells slots Q (F0 m (pc + 1) ls (.int (stX x) :: rest))) : W p l e R s m args below meth c H locs cells slots Q (F0 m pc ls (.int i :: .ref (E.2.2.2 0) :: rest)) := by
  unfold ixA at h
  by_cases hin : i < 0 ∨ 4 ≤ i.toNatClampNeg
  · rw [if_pos hin] at h; cases h
  · rw [if_neg hin] at h
    exact va_ti hx hb hW.2.2.2.2.1 hS hin rfl hdg (kk _ h)
theorem rw_stY (hx : p.tables.exec = Jvm.exec) (hb : c.code = cc) (hW : World E rs w0 s s.heap) (hS : va_S (wA E rs) s.heap H locs) {i : Int32} {F : Nat → Option β} (h : (ixA 4 i).bind F = some r) (hdg : decode cc pc = .ok (.iaload, 1))
    (kk : ∀ x, F x = some r → W p l e R s m args below meth c H locs cells slots Q (F0 m (pc + 1) ls (.int (stY x) :: rest))) : W p l e R s m args below meth c H locs cells slots Q (F0 m pc ls (.int i :: .ref (E.2.2.2 1) :: rest)) := by
  unfold ixA at h
  by_cases hin : i < 0 ∨ 4 ≤ i.toNatClampNeg
  · rw [if_pos hin] at h; cases h
  · rw [if_neg hin] at h
    exact va_ti hx hb hW.2.2.2.2.2.2 hS hin rfl hdg (kk _ h)
end RR
