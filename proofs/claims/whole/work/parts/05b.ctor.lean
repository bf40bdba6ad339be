section CR2
variable {p : Program} {l : Launch} {e : Env} {R : Room} {s : State} {m : MethodId} {args : Array Value} {below : List Frame} {meth : Method} {c : Code} {H : Heap} {locs : List Loc} {cells slots : Nat} {Q : State → Prop}
variable {cc bytes : ByteArray} {pc nL maxL k index mc ms : Nat} {ls : Array Slot} {rest As st : List Value} {E : Ev} {lo n n1 ci cj : Nat} {w w1 : Wd} {fs gs : List Value} {y : MethodName} {ws Ts : List Cond} {rm : Room} {own C : String} {ret : Option FieldType} {A : Nat → Prop}
theorem pn_join (hE : ∀ k, E.2.1 k = E.2.1 0 + k) (hl : lo < n) (hP : PQ E lo n w ci fs s H) {H2 : Heap} (ho : ∀ q : Nat, q < E.2.1 n → H2[q]? = H[q]?) (hR : PR E n n1 w1 s H2) : PQ E lo n1 (mixW n n1 w w1) ci fs s H2 := by
  obtain ⟨h1, h2, h3, h4, h5⟩ := hP
  refine ⟨hR.1, fun k q1 q2 => ?_, h3.kept (ho _ (hE_lt hE hl)), h4, h5.kept fun a q1 _ => ho a (by rw [← h1]; exact q1)⟩
  by_cases q : k < n
  · have e1 : (mixW n n1 w w1).1 k = w.1 k := if_pos q
    have e2 : (mixW n n1 w w1).2 k = w.2 k := if_pos q
    rw [e1, e2]
    exact (h2 k q1 q).kept (ho _ (hE_lt hE q))
  · have e1 : (mixW n n1 w w1).1 k = w1.1 k := (if_neg q).trans (if_pos q2)
    have e2 : (mixW n n1 w w1).2 k = w1.2 k := (if_neg q).trans (if_pos q2)
    rw [e1, e2]
    exact hR.2.1 k (by omega) q2
theorem PN.blind {av : List Value} : FrameBlind (va_Pc av (fun U => PN U ∧ PQ E lo n w ci fs U U.heap)) := fun a U g mk q => ⟨q.1, PN.same (u := U) (U := U.calling g mk a) rfl q.2.1, PQ.moved (u := U) (U := U.calling g mk a) (Vm.Alike.refl U.vm) q.2.2⟩
theorem PQ.to {U : State} (hU : U.heap = H) (hvm : s.vm.Alike U.vm) (h : PQ E lo n w ci fs s H) : PQ E lo n w ci fs U U.heap := by
  rw [hU]; exact PQ.moved hvm h
theorem PR.to {U : State} (hU : U.heap = H) (hvm : s.vm.Alike U.vm) (h : PR E lo n w s H) : PR E lo n w U U.heap := by
  rw [hU]; exact PR.moved hvm h
theorem PR.from {U : State} (hU : U.heap = H) (hvm : s.vm.Alike U.vm) (h : PR E lo n w U U.heap) : PR E lo n w s H := by
  rw [hU] at h; exact PR.moved hvm.symm h
theorem pn_call (S : CallFix p m c cc nL s args Ts own) (hN : PQ E n (n + 1) w0 cj gs s H) (hPN : PN s) (hS : va_S A s.heap H locs) (hA : ∀ q, up0 E n q → A q) (hM : CtN l y ws rm E n n1 cj gs (.ref (E.2.1 n) :: As) w1 mc ms) (cw : CallB R s args own index y bytes maxL none ws rm mc ms k ∧ y.name = "<init>" ∧ (Cond.instanceMethod y).before args s = true) (hn : As.length = k) (hsz : ls.size = nL) (hst : st = As.reverse ++ .ref (E.2.1 n) :: rest) (hrm : (rest.map fun v => v.category).sum ≤ 8) (hf : cells + mc ≤ R.cells ∧ slots + ms ≤ R.slots) (hdg : decode cc pc = .ok (.invokespecial index, 3))
    (kk : ∀ (H2 : Heap) (locs : List Loc), PR E n n1 w1 s H2 → (∀ q : Nat, q < E.2.1 n → H2[q]? = H[q]?) → va_S A s.heap H2 locs → W p l e R s m args below meth c H2 locs (cells + mc) (slots + ms) Q (F0 m (pc + 3) ls rest)) : W p l e R s m args below meth c H locs cells slots Q (F0 m pc ls st) := by
  refine va_callv (va_runI S hM cw ⟨PN.blind, fun U hU hWm => ⟨rfl, PN.warm hWm hPN, PQ.to hU hWm.alike hN⟩⟩ rfl hn hsz hst (lv_room hrm) hdg hf) hS (fun q _ z => hA q z) hA (fun u t H1 locs1 ht hvm hp hB hz1 hk1 hS1 => ?_)
  refine kk H1 locs1 (PR.from ht hvm hB) (fun q hq => hk1 q ?_ fun z => ?_) hS1
  · have := hN.2.2.1.lt
    have h9 : E.2.1 n < H.size := this
    omega
  · have z : E.2.1 n ≤ q := z
    omega
theorem pn_callN (S : CallFix p m c cc nL s args Ts own) (hN : PQ E n (n + 1) w0 cj gs s H) (hPN : PN s) (hS : va_S A s.heap H locs) (hA : ∀ q, up0 E n q → A q) (hM : CtN l y ws rm E n n1 cj gs (.ref (E.2.1 n) :: As) w1 mc ms) {host : String} (cw : va_CN R s args own index y host bytes maxL none ws rm mc ms k ∧ y.name = "<init>" ∧ (Cond.instanceMethod y).before args s = true) (hn : As.length = k) (hsz : ls.size = nL) (hst : st = As.reverse ++ .ref (E.2.1 n) :: rest) (hrm : (rest.map fun v => v.category).sum ≤ 8) (hf : cells + mc ≤ R.cells ∧ slots + ms ≤ R.slots) (hdg : decode cc pc = .ok (.invokespecial index, 3))
    (kk : ∀ (H2 : Heap) (locs : List Loc), PR E n n1 w1 s H2 → (∀ q : Nat, q < E.2.1 n → H2[q]? = H[q]?) → va_S A s.heap H2 locs → W p l e R s m args below meth c H2 locs (cells + mc) (slots + ms) Q (F0 m (pc + 3) ls rest)) : W p l e R s m args below meth c H locs cells slots Q (F0 m pc ls st) := by
  refine va_callv (va_runIN S hM cw ⟨PN.blind, fun U hU hWm => ⟨rfl, PN.warm hWm hPN, PQ.to hU hWm.alike hN⟩⟩ rfl hn hsz hst (lv_room hrm) hdg hf) hS (fun q _ z => hA q z) hA (fun u t H1 locs1 ht hvm hp hB hz1 hk1 hS1 => ?_)
  refine kk H1 locs1 (PR.from ht hvm hB) (fun q hq => hk1 q ?_ fun z => ?_) hS1
  · have := hN.2.2.1.lt
    have h9 : E.2.1 n < H.size := this
    omega
  · have z : E.2.1 n ≤ q := z
    omega
/-- a method of the object itself, at the end of its making -/
theorem pn_meth (hE : ∀ k, E.2.1 k = E.2.1 0 + k) (S : CallFix p m c cc nL s args Ts own) (hR : PR E lo n w s H) (hln : lo < n) (hsc : E.2.1 n = s.heap.size + cells) (hS : va_S (up0 E lo) s.heap H locs) {q : Unit × Wd} (hM : CtV l y ws rm E (fun k => lo ≤ k ∧ k < n) (.ref (E.2.1 lo) :: As) w q) (cw : CallW R s args own C index y bytes maxL ret ws rm 0 0 k) {fs : List (Nat × Nat)} (hc : kc lo = (4, ci, fs)) {r : vw_C} (hcl : vwCl[ci]? = some r) (hC : r.1 = C) (hn : As.length = k) (hsz : ls.size = nL) (hst : st = As.reverse ++ .ref (E.2.1 lo) :: rest) (hrm : (rest.map fun v => v.category).sum ≤ 8) (hf : cells ≤ R.cells ∧ slots ≤ R.slots) (hdg : decode cc pc = .ok (.invokevirtual index, 3))
    (kk : ∀ (H : Heap) (locs : List Loc), PR E lo n q.2 s H → va_S (up0 E lo) s.heap H locs → W p l e R s m args below meth c H locs cells slots Q (F0 m (pc + 3) ls rest)) : W p l e R s m args below meth c H locs cells slots Q (F0 m pc ls st) := by
  have hW := hR.world hE
  have hP := hW.P1 (k := lo) ⟨Nat.le_refl _, hln⟩
  rw [hc] at hP
  have hrv := va_recv hW.2.2.1 hP hcl (q0 := 0) rfl
  rw [hC] at hrv
  have hA : ∀ q, wA E (fun k => lo ≤ k ∧ k < n) q → up0 E lo q := fun q ⟨k, hk, hq⟩ => by
    show E.2.1 lo ≤ q
    rw [hq, hE lo, hE k]; omega
  refine va_callv (va_runV S hM cw ⟨World.blind, hrv, fun U hU hWm => ⟨rfl, World.to hU hWm.alike hW⟩⟩ rfl hn hsz hst (lv_room hrm) hdg hf) hS (fun q _ z => hA q z) hA (fun u t H1 locs1 ht hvm hp hB hz1 hk1 hS1 => W.sz fun hsz1 => ?_)
  exact kk H1 locs1 (hR.back (by have := hR.1; have hsz1 : H1.size ≤ s.heap.size + cells := hsz1; omega) hk1 (World.back ht hvm hB) hE) hS1
end CR2
theorem mkN {l : Launch} {E : Ev} {y : MethodName} {ws ws' : List Cond} {rm : Room} {cc : ByteArray} {maxL : Nat} {av : List Value} {lo n ci : Nat} {fs : List Value} {w : Wd} {mc ms : Nat} (hy : plainName y.cls = true) (hw : ws = Cond.code y cc maxL none :: ws') (hz : (lg_sl av).length ≤ maxL) (hnm : y.name = "<init>")
    (body : ∀ (p : Program) (e : Env) (s : State) (m : MethodId) (args : Array Value) (below : List Frame) (meth : Method) (c : Code) (Q : State → Prop), CallFix p m c cc maxL s args ws y.cls → meth.name = "<init>" → PN s → PQ E lo (lo + 1) w0 ci fs s s.heap → (∀ (H : Heap) (locs : List Loc) (ls : Array Slot) (pc : Nat), PR E lo n w s H → va_S (up0 E lo) s.heap H locs → decode cc pc = .ok (.return_, 1) → W p l e rm s m args below meth c H locs mc ms Q (F0 m pc ls [])) → ∀ ls : Array Slot, lv_has ls maxL (lv_args 0 av) → W p l e rm s m args below meth c s.heap [] 0 0 Q (F0 m 0 ls [])) : CtN l y ws rm E lo n ci fs av w mc ms := by
  refine Met.ofW (cc := cc) (maxL := maxL) (ret := none) hy hw ?_
  intro p e s m args below meth c s₁ B hml hv
  obtain ⟨rfl, hN, hP⟩ := hv
  have hts := atoms_spec (ws := ws) B.pre
  have hlocks := B.notSynchronized
  have hin : meth.name = "<init>" := (name_of_methodNamed B.named B.method).1.trans hnm
  have hl := lv_entry av (n := maxL) hz
  rw [lg_entry_eq]
  refine body p e s m _ below meth c _ ⟨B.exec, B.bytes, hml, findClass_of_methodNamed B.named, hts⟩ hin hN hP (fun H locs ls pc hR hS hd => ?_) _ hl
  exact W.vret B.exec B.bytes B.returns (fun t ht hWm => ⟨⟨(), rfl, trivial, PR.to ht hWm.alike hR⟩, hS.F ht⟩) hS.2.2 hd
