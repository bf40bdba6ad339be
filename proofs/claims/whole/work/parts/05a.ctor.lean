/-! ===== BEGIN new T[n][m]: the outer array a place, the inner ones among the pooled ===== -/
/-- f, but v at every address of l -/
def vr_up {α : Type} (f : Nat → α) (l : List Nat) (v : α) : Nat → α := fun a => if a ∈ l then v else f a
theorem vr_up_in {α : Type} {f : Nat → α} {l : List Nat} {v : α} {a : Nat} (h : a ∈ l) : vr_up f l v a = v := if_pos h
theorem vr_up_ne {α : Type} {f : Nat → α} {l : List Nat} {v : α} {a : Nat} (h : a ∉ l) : vr_up f l v a = f a := if_neg h
theorem vr_rows {L l : List Nat} {f : Nat → va_E} {e : va_E} (h : ∀ a, a ∈ l → a ∉ L) : va_pl L f ++ l.map (fun a => (a, e)) = va_pl (L ++ l) (vr_up f l e) := by
  unfold va_pl
  rw [List.map_append]
  congr 1
  · apply List.map_congr_left
    intro a ha
    rw [vr_up_ne (fun q => h a q ha)]
  · apply List.map_congr_left
    intro a ha
    rw [vr_up_in ha]
theorem vr_lay {X rows : va_W} {x : Nat × va_E} {pl : va_W} {D : va_G} {cl : List vw_C} {H : Heap} (hP : va_P D cl (((X ++ pl) ++ [x]) ++ rows) H) : va_P D cl ((X ++ [x]) ++ (pl ++ rows)) H := by
  rw [List.append_assoc (X ++ pl)] at hP
  have h := va_P.swap hP
  rw [← List.append_assoc X] at h
  have h2 := va_P.swap h
  rw [List.append_assoc (X ++ [x])] at h2
  exact h2
theorem vr_layD {X rows : va_W} {x : Nat × va_E} {pl : va_W} {A : Nat → Prop} (hD : va_D A (((X ++ pl) ++ [x]) ++ rows)) : va_D A ((X ++ [x]) ++ (pl ++ rows)) := by
  rw [List.append_assoc (X ++ pl)] at hD
  have h := va_D.swap hD
  rw [← List.append_assoc X] at h
  have h2 := va_D.swap h
  rw [List.append_assoc (X ++ [x])] at h2
  exact h2
theorem vr_outer (c : ClassId) (N h0 : Nat) : ∀ i : Nat, Jvm.Free.Multi.outerC c N h0 i = arrV c N (fun j => va_rf (if j < i then some (h0 + 1 + j) else none))
  | 0 => by
    show ({ cls := c, slots := Array.replicate N .null, vm := .none } : Cell) = _
    rw [arrV_new]
    refine congrArg (arrV c N) (funext fun j => ?_)
    simp [va_rf]
  | i + 1 => by
    show (Jvm.Free.Multi.outerC c N h0 i).setSlot i (.ref (h0 + 1 + i)) = _
    rw [vr_outer c N h0 i, arrV_store]
    refine congrArg (arrV c N) (funext fun j => ?_)
    by_cases e : j = i
    · subst e
      simp [updV, va_rf]
    · by_cases h : j < i
      · simp [updV, e, h, Nat.lt_succ_of_lt h]
      · simp [updV, e, h, show ¬ j < i + 1 by omega]
/-! ===== making objects: addresses run on, role k lies at the start's address + k ===== -/
def va_AOA (ty : FieldType) (U : State) : Prop := (Cond.arrayOver (.array ty)).before #[] U = true
theorem va_AOA.use {ty : FieldType} {A : Array Value} {U : State} (h : va_AOA ty U) : (Cond.arrayOver (.array ty)).before A U = true := h
theorem va_AOA.moved {ty : FieldType} {u U : State} (hal : u.vm.Alike U.vm) (h : va_AOA ty u) : va_AOA ty U := by
  unfold va_AOA at h ⊢
  simp only [Cond.before, Cond.holds, Cond.value] at h ⊢
  rw [hal.findClass]
  cases hf : u.vm.findClass (FieldType.array ty).toString with
  | none => rw [hf] at h; simp at h
  | some comp =>
    rw [hf] at h
    simp only [Option.bind_some] at h ⊢
    rw [hal.findIdx_congr _ (fun _ _ _ _ => rfl)]
    generalize hF : (u.vm.classes.findIdx? fun (x : Class) => match x.kind with | .array component _ => component == comp | _ => false) = fi at h ⊢
    cases fi with
    | none => simp at h
    | some c =>
      simp only [Option.bind_some] at h ⊢
      cases hk : u.vm.classes[c]? with
      | none => rw [hk] at h; simp at h
      | some k =>
        obtain ⟨k', hk', ek⟩ := hal.2.2 _ _ hk
        rw [hk] at h
        rw [hk', hal.findClass]
        have ekind : k'.kind = k.kind := by rw [ek]
        simp only [Option.map_some] at h ⊢
        rw [ekind]
        exact h
/-- the world of numbers as objects are made -/
def w0 : Wd := (fun k i => if k = 19 then (if i = 7 then 77 else if i = 8 then 78 else 0) else if k = 99 then (if i = 11 then -9 else 0) else 0, fun _ _ => 0)
def up0 (E : Ev) (lo : Nat) : Nat → Prop := fun q => E.2.1 lo ≤ q
def PS (E : Ev) (lo : Nat) (U : State) (H : Heap) : Prop :=
  va_Z "CubeHeaps$Ground" "STEP_X" "[I" (.ref (E.2.2.2 0)) (up0 E lo) U H ∧ va_T .int (E.2.2.2 0) 4 (fun j => .int (stX j)) (up0 E lo) U H ∧
  va_Z "CubeHeaps$Ground" "STEP_Y" "[I" (.ref (E.2.2.2 1)) (up0 E lo) U H ∧ va_T .int (E.2.2.2 1) 4 (fun j => .int (stY j)) (up0 E lo) U H
def PN (U : State) : Prop := va_Nw (.methodLinkNest RX5 11 yX3_init "CubeHeaps") U ∧ va_Nw (.methodLinkNest RX4 11 yX3_init "CubeHeaps") U ∧ va_AOA .int U ∧ va_AOA .long U
theorem PN.same {u U : State} (h : u.vm = U.vm) (hN : PN u) : PN U := ⟨va_Nw.same rfl h hN.1, va_Nw.same rfl h hN.2.1, va_AOA.moved (by rw [h]; exact Vm.Alike.refl _) hN.2.2.1, va_AOA.moved (by rw [h]; exact Vm.Alike.refl _) hN.2.2.2⟩
theorem PN.warm {s U : State} (h : s.WarmedH U.vm) (hN : PN s) : PN U := ⟨va_Nw.warmM h hN.1, va_Nw.warmM h hN.2.1, va_AOA.moved h.alike hN.2.2.1, va_AOA.moved h.alike hN.2.2.2⟩
/-- roles lo to n - 1 are there, as w says -/
def PR (E : Ev) (lo n : Nat) (w : Wd) (U : State) (H : Heap) : Prop :=
  H.size = E.2.1 n ∧ (∀ k, lo ≤ k → k < n → va_at E.1 vwCl (E.2.1 k, kdc E (kc k) (w.1 k) (w.2 k)) H) ∧ va_K E.1 vwCl (tysE E) U ∧ PS E lo U H
/-- an object at lo with fields fs, and roles lo + 1 to n - 1 as w says -/
def PQ (E : Ev) (lo n : Nat) (w : Wd) (ci : Nat) (fs : List Value) (U : State) (H : Heap) : Prop :=
  H.size = E.2.1 n ∧ (∀ k, lo < k → k < n → va_at E.1 vwCl (E.2.1 k, kdc E (kc k) (w.1 k) (w.2 k)) H) ∧ va_at E.1 vwCl (E.2.1 lo, .inr (ci, fs)) H ∧ va_K E.1 vwCl (tysE E) U ∧ PS E lo U H
theorem PS.moved {E : Ev} {lo : Nat} {u U : State} {H : Heap} (hvm : u.vm.Alike U.vm) (h : PS E lo u H) : PS E lo U H := ⟨va_Z.moved hvm h.1, va_T.moved hvm h.2.1, va_Z.moved hvm h.2.2.1, va_T.moved hvm h.2.2.2⟩
theorem PS.kept {E : Ev} {lo : Nat} {U : State} {H H1 : Heap} (h : PS E lo U H) (hA : ∀ a : Nat, a < H.size → ¬ up0 E lo a → H1[a]? = H[a]?) : PS E lo U H1 := ⟨h.1.kept hA, h.2.1.kept hA, h.2.2.1.kept hA, h.2.2.2.kept hA⟩
theorem PS.narrow {E : Ev} {lo lo' : Nat} {U : State} {H : Heap} (h : PS E lo U H) (hl : E.2.1 lo ≤ E.2.1 lo') : PS E lo' U H :=
  ⟨h.1.narrow fun _ z => Nat.le_trans hl z, h.2.1.narrow fun _ z => Nat.le_trans hl z, h.2.2.1.narrow fun _ z => Nat.le_trans hl z, h.2.2.2.narrow fun _ z => Nat.le_trans hl z⟩
theorem PR.moved {E : Ev} {lo n : Nat} {w : Wd} {u U : State} {H : Heap} (hvm : u.vm.Alike U.vm) (h : PR E lo n w u H) : PR E lo n w U H := ⟨h.1, h.2.1, va_K.moved hvm h.2.2.1, PS.moved hvm h.2.2.2⟩
theorem PQ.moved {E : Ev} {lo n : Nat} {w : Wd} {ci : Nat} {fs : List Value} {u U : State} {H : Heap} (hvm : u.vm.Alike U.vm) (h : PQ E lo n w ci fs u H) : PQ E lo n w ci fs U H := ⟨h.1, h.2.1, h.2.2.1, va_K.moved hvm h.2.2.2.1, PS.moved hvm h.2.2.2.2⟩
theorem PQ.done {E : Ev} {lo n : Nat} {w : Wd} {ci : Nat} {fs : List Value} {U : State} {H : Heap} (h : PQ E lo n w ci fs U H) (hk : kdc E (kc lo) (w.1 lo) (w.2 lo) = .inr (ci, fs)) : PR E lo n w U H := by
  refine ⟨h.1, fun k h1 h2 => ?_, h.2.2.2.1, h.2.2.2.2⟩
  by_cases z : k = lo
  · subst z; rw [hk]; exact h.2.2.1
  · exact h.2.1 k (by omega) h2
/-- what a method sees of it -/
theorem PR.world {E : Ev} (hE : ∀ k, E.2.1 k = E.2.1 0 + k) {lo n : Nat} {w : Wd} {U : State} {H : Heap} (h : PR E lo n w U H) : World E (fun k => lo ≤ k ∧ k < n) w U H := by
  have hn : ∀ q, wA E (fun k => lo ≤ k ∧ k < n) q → up0 E lo q := fun q ⟨k, hk, hq⟩ => by
    show E.2.1 lo ≤ q
    rw [hq, hE lo, hE k]; omega
  exact ⟨fun k hk => h.2.1 k hk.1 hk.2, fun j k _ _ z => by rw [hE j, hE k] at z; omega, h.2.2.1, h.2.2.2.1.narrow hn, h.2.2.2.2.1.narrow hn, h.2.2.2.2.2.1.narrow hn, h.2.2.2.2.2.2.narrow hn⟩
theorem PR.back {E : Ev} {lo n : Nat} {w w' : Wd} {U : State} {H H1 : Heap} (h : PR E lo n w U H) (hz : H1.size = H.size) (hk : ∀ q : Nat, q < H.size → ¬ wA E (fun k => lo ≤ k ∧ k < n) q → H1[q]? = H[q]?) (hW : World E (fun k => lo ≤ k ∧ k < n) w' U H1) (hE : ∀ k, E.2.1 k = E.2.1 0 + k) : PR E lo n w' U H1 := by
  refine ⟨hz.trans h.1, fun k h1 h2 => hW.1 k ⟨h1, h2⟩, h.2.2.1, h.2.2.2.kept fun a h1 h2 => hk a h1 fun ⟨k, q1, q2⟩ => h2 ?_⟩
  show E.2.1 lo ≤ a
  rw [q2, hE lo, hE k]; omega
def mixW (n n1 : Nat) (w w1 : Wd) : Wd := (fun k => if k < n then w.1 k else if k < n1 then w1.1 k else w0.1 k, fun k => if k < n then w.2 k else if k < n1 then w1.2 k else w0.2 k)
theorem mixW_0 (n n1 : Nat) : mixW n n1 w0 w0 = w0 := by
  unfold mixW
  refine Prod.ext (funext fun k => ?_) (funext fun k => ?_)
  · by_cases h : k < n
    · exact if_pos h
    · show (if k < n then w0.1 k else if k < n1 then w0.1 k else w0.1 k) = w0.1 k
      rw [if_neg h]; exact ite_self _
  · by_cases h : k < n
    · exact if_pos h
    · show (if k < n then w0.2 k else if k < n1 then w0.2 k else w0.2 k) = w0.2 k
      rw [if_neg h]; exact ite_self _
/-- a maker's contract -/
def CtN (l : Launch) (y : MethodName) (ws : List Cond) (rm : Room) (E : Ev) (lo n : Nat) (ci : Nat) (fs : List Value) (av : List Value) (w : Wd) (mc ms : Nat) : Prop :=
  Met l y ws rm (va_Pc av (fun U => PN U ∧ PQ E lo (lo + 1) w0 ci fs U U.heap)) (va_Qv (fun (_ : Unit) => True) (fun _ t => PR E lo n w t t.heap) (up0 E lo)) mc ms (up0 E lo)
section CR
variable {p : Program} {l : Launch} {e : Env} {R : Room} {s : State} {m : MethodId} {args : Array Value} {below : List Frame} {meth : Method} {c : Code} {H : Heap} {locs : List Loc} {cells slots : Nat} {Q : State → Prop}
variable {cc : ByteArray} {pc : Nat} {ls : Array Slot} {rest : List Value} {E : Ev} {lo n ci : Nat} {w : Wd} {fs : List Value}
theorem W.sz {g : JFrame} (h : H.size ≤ s.heap.size + cells → W p l e R s m args below meth c H locs cells slots Q g) : W p l e R s m args below meth c H locs cells slots Q g := fun T hT X => h (by
  have h1 : T.heap.size ≤ s.heap.size + cells := X.same.2.2.1
  rw [← hT]; exact h1) T hT X
theorem hE_lt (hE : ∀ k, E.2.1 k = E.2.1 0 + k) {j k : Nat} (h : j < k) : E.2.1 j < E.2.1 k := by rw [hE j, hE k]; omega
theorem PQ.grow (hE : ∀ k, E.2.1 k = E.2.1 0 + k) (h : PQ E lo n w ci fs s H) (hl : lo < n) {N : Nat} {H1 : Heap} (z : H1.size = E.2.1 (n + N)) (o : ∀ q : Nat, q < E.2.1 n → H1[q]? = H[q]?) (hv : ∀ k, n ≤ k → k < n + N → va_at E.1 vwCl (E.2.1 k, kdc E (kc k) (w.1 k) (w.2 k)) H1) : PQ E lo (n + N) w ci fs s H1 := by
  obtain ⟨h1, h2, h3, h4, h5⟩ := h
  refine ⟨z, fun k q1 q2 => ?_, h3.kept (o _ (hE_lt hE hl)), h4, h5.kept fun a q1 _ => o a (by rw [← h1]; exact q1)⟩
  by_cases q : k < n
  · exact (h2 k q1 q).kept (o _ (hE_lt hE q))
  · exact hv k (by omega) q2
theorem pn_newI (hx : p.tables.exec = Jvm.exec) (hb : c.code = cc) (hE : ∀ k, E.2.1 k = E.2.1 0 + k) (hl : lo < n) (harr : (Cond.arrayClass .int).before args s = true) (hP : PQ E lo n w ci fs s H) (hS : va_S (up0 E lo) s.heap H locs) {N : Int32} {N' : Nat} (hk : kdc E (kc n) (w.1 n) (w.2 n) = .inl (E.2.2.1 0, N', .inl (fun _ => 0))) (hn : ¬ N < 0) (hN : N.toNatClampNeg = N') (hbytes : N' * componentBytes .int ≤ 536870912) (hcells : cells + 1 ≤ R.cells) (hslots : slots + N' ≤ R.slots) (hdg : decode cc pc = .ok (.newarray .int, 2))
    (kk : ∀ H, PQ E lo (n + 1) w ci fs s H → va_S (up0 E lo) s.heap H locs → W p l e R s m args below meth c H locs (cells + 1) (slots + N') Q (F0 m (pc + 2) ls (.ref (E.2.1 n) :: rest))) : W p l e R s m args below meth c H locs cells slots Q (F0 m pc ls (.int N :: rest)) := by
  refine va_newaK (atype := .int) (h := E.2.1 n) hx hb harr rfl hdg rfl hn hN hbytes hcells hslots hP.1 fun H1 cA e1 z1 o1 hAr hNm => ?_
  have hcA : cA = E.2.2.1 0 := Option.some.inj (hNm.symm.trans (hP.2.2.2.1.2 0 _ rfl).2)
  subst hcA
  refine kk H1 (hP.grow hE hl (N := 1) (by rw [z1, hE n, hE (n + 1)]; omega) o1 fun k q1 q2 => ?_) ⟨Nat.le_trans hS.1 (by rw [z1, hP.1]; omega), fun x h1 h2 => (o1 x (by rw [← hP.1]; exact Nat.lt_of_lt_of_le h1 hS.1)).trans (hS.2.1 x h1 h2), hS.2.2⟩
  have : k = n := by omega
  subst this
  rw [hk]
  exact e1
theorem pn_newL (hx : p.tables.exec = Jvm.exec) (hb : c.code = cc) (hE : ∀ k, E.2.1 k = E.2.1 0 + k) (hl : lo < n) (harr : (Cond.arrayClass .long).before args s = true) (hP : PQ E lo n w ci fs s H) (hS : va_S (up0 E lo) s.heap H locs) {N : Int32} {N' : Nat} (hk : kdc E (kc n) (w.1 n) (w.2 n) = .inl (E.2.2.1 1, N', .inr (.inl (fun _ => 0)))) (hn : ¬ N < 0) (hN : N.toNatClampNeg = N') (hbytes : N' * componentBytes .long ≤ 536870912) (hcells : cells + 1 ≤ R.cells) (hslots : slots + N' ≤ R.slots) (hdg : decode cc pc = .ok (.newarray .long, 2))
    (kk : ∀ H, PQ E lo (n + 1) w ci fs s H → va_S (up0 E lo) s.heap H locs → W p l e R s m args below meth c H locs (cells + 1) (slots + N') Q (F0 m (pc + 2) ls (.ref (E.2.1 n) :: rest))) : W p l e R s m args below meth c H locs cells slots Q (F0 m pc ls (.int N :: rest)) := by
  refine va_newaK (atype := .long) (h := E.2.1 n) hx hb harr rfl hdg rfl hn hN hbytes hcells hslots hP.1 fun H1 cA e1 z1 o1 hAr hNm => ?_
  have hcA : cA = E.2.2.1 1 := Option.some.inj (hNm.symm.trans (hP.2.2.2.1.2 1 _ rfl).2)
  subst hcA
  refine kk H1 (hP.grow hE hl (N := 1) (by rw [z1, hE n, hE (n + 1)]; omega) o1 fun k q1 q2 => ?_) ⟨Nat.le_trans hS.1 (by rw [z1, hP.1]; omega), fun x h1 h2 => (o1 x (by rw [← hP.1]; exact Nat.lt_of_lt_of_le h1 hS.1)).trans (hS.2.1 x h1 h2), hS.2.2⟩
  have : k = n := by omega
  subst this
  rw [hk]
  exact e1
/-- new T[N][K]: the outer row at n, the inner ones behind it; t is 0 for int, 1 for long -/
theorem pn_mna (hx : p.tables.exec = Jvm.exec) (hb : c.code = cc) (hE : ∀ k, E.2.1 k = E.2.1 0 + k) (hl : lo < n) {own : String} {index : Nat} {ty : FieldType} {t : Nat} (hown : s.vm.findClass own = some m.cls) (hclink : (Cond.classLink own index ("[" ++ (FieldType.array ty).toString)).before args s = true) (hover : va_AOA ty s) (harr : (Cond.arrayClass ty).before args s = true) (hP : PQ E lo n w ci fs s H) (hS : va_S (up0 E lo) s.heap H locs) (hty1 : va_RA s (E.2.2.1 t) ty) (hstr : (FieldType.array ty).toString = "[" ++ ty.toString) (hty2 : va_RA s (E.2.2.1 (2 + t)) (.array ty)) (hra1 : va_RA s (E.2.2.1 t) ty = (s.vm.findClass ("[" ++ ty.toString) = some (E.2.2.1 t)))
    {N K : Int32} {N' K' : Nat} {z : vp_A} (hn : ¬ N < 0) (hk : ¬ K < 0) (hN : N.toNatClampNeg = N') (hM : K.toNatClampNeg = K') (ho : kdc E (kc n) (w.1 n) (w.2 n) = .inl (E.2.2.1 (2 + t), N', .inr (.inr (.inr (.inr (fun i => some (E.2.1 (n + 1 + i)))))))) (hi : ∀ i, i < N' → kdc E (kc (n + 1 + i)) (w.1 (n + 1 + i)) (w.2 (n + 1 + i)) = .inl (E.2.2.1 t, z))
    (hb1 : N' * 4 ≤ 536870912) (hb2 : K' * componentBytes ty ≤ 536870912) (hb3 : K' ≤ 536870912) (hdf : fits ty (defaultValue ty) = true) (hdd : (defaultValue ty).isDefault = true) (hcells : cells + (1 + N') ≤ R.cells) (hslots : slots + (N' + N' * K') ≤ R.slots) (hz : ∀ c : ClassId, Jvm.Free.Multi.innerC c K' (defaultValue ty) = vp_cell c z) (hdg : decode cc pc = .ok (.multianewarray index 2, 4))
    (kk : ∀ H, PQ E lo (n + (1 + N')) w ci fs s H → va_S (up0 E lo) s.heap H locs → W p l e R s m args below meth c H locs (cells + (1 + N')) (slots + (N' + N' * K')) Q (F0 m (pc + 4) ls (.ref (E.2.1 n) :: rest))) : W p l e R s m args below meth c H locs cells slots Q (F0 m pc ls (.int K :: .int N :: rest)) := by
  subst hN
  subst hM
  intro T hT Xs
  obtain ⟨vm₁, cA, comp, -, fA, fC, hO, -, X', step⟩ := Xs.multianewarray2F hx hown hclink (va_AOA.use hover) harr (g := F0 m pc ls (.int K :: .int N :: rest)) rfl (by rw [hb]; exact hdg) rfl hn hk hb1 hb2 hb3 hdf hdd hcells hslots
  have ec : comp = E.2.2.1 t := by
    rw [hra1] at hty1
    rw [hstr] at fC
    exact Option.some.inj (fC.symm.trans hty1)
  have eA : cA = E.2.2.1 (2 + t) := Option.some.inj (fA.symm.trans hty2)
  subst ec
  subst eA
  generalize hF : Jvm.Free.Multi.fill (T.setVm vm₁) (E.2.2.1 (2 + t)) (E.2.2.1 t) N.toNatClampNeg K.toNatClampNeg (defaultValue ty) N.toNatClampNeg = F at X' step
  have hTh : (T.setVm vm₁).heap = H := hT
  obtain ⟨f1, f2, -, -⟩ := Jvm.Free.Multi.fill_facts (T.setVm vm₁) (E.2.2.1 (2 + t)) (E.2.2.1 t) N.toNatClampNeg K.toNatClampNeg (defaultValue ty) N.toNatClampNeg
  rw [hF, hTh] at f1 f2
  have hold : ∀ x : Nat, x < H.size → F.heap[x]? = H[x]? := fun x hx => by
    have := Jvm.Free.Multi.fill_old (T.setVm vm₁) (E.2.2.1 (2 + t)) (E.2.2.1 t) N.toNatClampNeg K.toNatClampNeg (defaultValue ty) (a := x) (by rw [hTh]; exact hx) N.toNatClampNeg
    rw [hF, hTh] at this
    exact this
  have hrow : ∀ j : Nat, j < N.toNatClampNeg → F.heap[H.size + 1 + j]? = some (vp_cell (E.2.2.1 t) z) := fun j hj => by
    have := Jvm.Free.Multi.fill_inner (T.setVm vm₁) (E.2.2.1 (2 + t)) (E.2.2.1 t) N.toNatClampNeg K.toNatClampNeg (defaultValue ty) N.toNatClampNeg j hj
    rw [hF, hTh, hz] at this
    exact this
  have hout : Jvm.Free.Multi.outerC (E.2.2.1 (2 + t)) N.toNatClampNeg H.size N.toNatClampNeg = vp_cell (E.2.2.1 (2 + t)) (N.toNatClampNeg, .inr (.inr (.inr (.inr (fun i => some (E.2.1 (n + 1 + i))))))) := by
    rw [vp_cell_q, vr_outer (E.2.2.1 (2 + t)) N.toNatClampNeg H.size N.toNatClampNeg]
    unfold arrV
    congr 2
    funext j
    show va_rf (if j.1 < N.toNatClampNeg then some (Array.size H + 1 + j.1) else none) = va_rf (some (E.2.1 (n + 1 + j.1)))
    have e8 : Array.size H + 1 + j.1 = E.2.1 (n + 1 + j.1) := by rw [hP.1, hE n, hE (n + 1 + j.1)]; omega
    rw [if_pos j.2, e8]
  rw [hout] at f2
  have hsz := hP.1
  obtain ⟨t2, a1, b1⟩ := kk F.heap (hP.grow hE hl (N := 1 + N.toNatClampNeg) (by rw [f1, hsz, hE n, hE (n + (1 + N.toNatClampNeg))]; omega) (fun q hq => hold q (by rw [hsz]; exact hq)) (fun k q1 q2 => by
    by_cases q : k = n
    · subst q
      rw [ho, ← hsz]
      exact f2
    · obtain ⟨i, rfl⟩ : ∃ i, k = n + 1 + i := ⟨k - n - 1, by omega⟩
      rw [hi i (by omega)]
      have e9 : E.2.1 (n + 1 + i) = H.size + 1 + i := by rw [hsz, hE n, hE (n + 1 + i)]; omega
      rw [e9]
      exact hrow i (by omega))) ⟨Nat.le_trans hS.1 (by rw [f1]; omega), fun x h1 h2 => (hold x (Nat.lt_of_lt_of_le h1 hS.1)).trans (hS.2.1 x h1 h2), hS.2.2⟩ F rfl (by rw [← Nat.add_assoc, ← Nat.add_assoc]; exact X')
  refine ⟨t2, step t2 ?_, b1⟩
  have e9 : T.heap.size = E.2.1 n := by rw [hT]; exact hsz
  rw [e9]
  exact a1
/-- a field of the object that is being made; final or not -/
theorem pn_put (hx : p.tables.exec = Jvm.exec) (hb : c.code = cc) (hE : ∀ k, E.2.1 k = E.2.1 0 + k) {own C : String} {T : u_T} {N index : Nat} {Ts : List Cond} (hts : ∀ w ∈ Ts, w.before args s = true) (hin : ∀ w ∈ u_ws C T N, w ∈ Ts) {ty0 : Nat → FieldType} (hty : ∀ k, k < N → parseFieldDescriptor (T k).2.2.1 = some (ty0 k)) (hnm : ∀ a, a < N → ∀ b, b < N → a ≠ b → (T a).2.1 ≠ (T b).2.1) (hown : s.vm.findClass own = some m.cls) (hP : PQ E lo n w ci fs s H) (hS0 : va_S (up0 E lo) s.heap H locs) (hcl : vwCl[ci]? = some (C, T, N)) (j : Nat) (hj : j < N) (hlink : (Cond.fieldLink own index (T j).1 (T j).2.1 (T j).2.2.1).before args s = true) (hin2 : meth.name = "<init>") (hdecl : (T j).1 = own) {v : Value} (hn : narrow (ty0 j) v = v) (hfit : fits (ty0 j) v = true) (hl : j < fs.length) {fs' : List Value} (hfs : fs.set j v = fs') (hdg : decode cc pc = .ok (.putfield index, 3))
    (kk : ∀ (H : Heap) (locs : List Loc), PQ E lo n w ci fs' s H → va_S (up0 E lo) s.heap H locs → W p l e R s m args below meth c H locs cells slots Q (F0 m (pc + 3) ls rest)) : W p l e R s m args below meth c H locs cells slots Q (F0 m pc ls (v :: .ref (E.2.1 lo) :: rest)) := by
  subst hfs
  have hK := hP.2.2.2.1
  have hap := va_apart (own := own) (D := E.1) (cl := vwCl) (tys := tysE E) hts hin ty0 hty hnm hK hcl
  obtain ⟨r, h1, cell, q1, q2, q3, q4⟩ := hP.2.2.1
  have hr : r = (C, T, N) := Option.some.inj (h1.symm.trans hcl)
  subst hr
  obtain ⟨hS, hfc, kC, hkC, hkind⟩ := hK.1 ci _ hcl
  obtain ⟨cf, kf, fi, f, hi, hsl⟩ := hS j hj
  have hlay := hts _ (hin _ (u_in_lay hj))
  have hst := (u_facts hfc hkC (u_lays hts hin hj) hi).1
  have fin : ∀ H' : Heap, H'[E.2.1 lo]? = some (cell.setSlot ((E.1.2 ci) j) v) → H'.size = H.size → (∀ q : Nat, q ≠ E.2.1 lo → H'[q]? = H[q]?) → ∀ locs1, va_S (up0 E lo) s.heap H' locs1 → W p l e R s m args below meth c H' locs1 cells slots Q (F0 m (pc + 3) ls rest) := by
    intro H' e1 e2 e3 locs1 hS1
    refine kk H' locs1 ⟨e2.trans hP.1, fun k z1 z2 => (hP.2.1 k z1 z2).kept (e3 _ fun z => ?_), ⟨_, hcl, ?_⟩, hK, hP.2.2.2.2.kept fun a _ h2 => e3 a fun z => h2 ?_⟩ hS1
    · have := hE_lt hE z1
      have z : E.2.1 k = E.2.1 lo := z
      omega
    · exact t_OB.to (V := updV (vp_V fs) j v) ⟨_, e1, q2, q3, t_set q4 hap hj v⟩ (fun a _ => vp_updV_set hl v a)
    · show E.2.1 lo ≤ a
      rw [z]; exact Nat.le_refl _
  by_cases hfin : (T j).2.2.2 = true
  · unfold u_lay at hlay
    rw [if_pos hfin] at hlay
    have hcf : m.cls = cf := by
      obtain ⟨_, _, c', _, _, _, -, -, hf', -, -, -, hown2, -⟩ := Cond.laysFinal_spec hlay
      have e1 : c' = cf := by have := hi.symm.trans hf'; simp at this; exact this.1.symm
      rw [hdecl] at hown2
      rw [← e1]; exact Option.some.inj (hown.symm.trans hown2)
    have h6 := u_fits hfc hkC hkind (Or.inr hlay) hi (hty j hj) hn hfit
    refine W.putFinK hx hb hown hlink hi hst hcf hin2 (by rw [q2]; exact h6) q1 q3 (by rw [hsl]; exact k2_hasslot (q4 j hj)) rfl rfl hdg fun H' e1 e2 e3 => ?_
    rw [hsl] at e1 ⊢
    exact fin H' e1 e2 e3 _ (hS0.put e2 e3 (Nat.le_refl _))
  · unfold u_lay at hlay
    rw [if_neg hfin] at hlay
    have h6 := u_store hfc hkC hkind hlay hi (hty j hj) hn hfit
    refine W.putK hx hb (f := f) ⟨hown, hlink, ⟨_, _, _, hi⟩, hst⟩ (by rw [q2]; exact h6) q1 q3 (by rw [hsl]; exact k2_hasslot (q4 j hj)) rfl rfl hdg fun H' e1 e2 e3 => ?_
    rw [hsl] at e1 ⊢
    exact fin H' e1 e2 e3 _ (hS0.put e2 e3 (Nat.le_refl _))
theorem pn_get (hx : p.tables.exec = Jvm.exec) (hb : c.code = cc) {own C : String} {T : u_T} {N index : Nat} {Ts : List Cond} (hts : ∀ w ∈ Ts, w.before args s = true) (hin : ∀ w ∈ u_ws C T N, w ∈ Ts) (hown : s.vm.findClass own = some m.cls) (hK : va_K E.1 vwCl (tysE E) s) (hP : va_at E.1 vwCl (E.2.1 lo, .inr (ci, fs)) H) (hcl : vwCl[ci]? = some (C, T, N)) (j : Nat) (hj : j < N) (hlink : (Cond.fieldLink own index (T j).1 (T j).2.1 (T j).2.2.1).before args s = true) {v : Value} (hv : fs[j]? = some v) (hdg : decode cc pc = .ok (.getfield index, 3))
    (kk : W p l e R s m args below meth c H locs cells slots Q (F0 m (pc + 3) ls (v :: rest))) : W p l e R s m args below meth c H locs cells slots Q (F0 m pc ls (.ref (E.2.1 lo) :: rest)) := by
  have hP1 : va_P E.1 vwCl [(E.2.1 lo, .inr (ci, fs))] H := fun i q hq => by
    cases i with
    | zero => cases hq; exact hP
    | succ i => simp at hq
  exact va_get (D := E.1) (cl := vwCl) (ci := ci) (T := T) (N := N) (C := C) (fs := fs) hx hb hts hin hown hK hP1 0 rfl hcl j hj hlink (fun _ h => h) hv hdg kk
/-- a new object behind all that is there -/
theorem pn_new (hx : p.tables.exec = Jvm.exec) (hb : c.code = cc) (hE : ∀ k, E.2.1 k = E.2.1 0 + k) {own C : String} {T : u_T} {N cj index : Nat} {Ts : List Cond} (hts : ∀ w ∈ Ts, w.before args s = true) (hin : ∀ w ∈ u_ws C T N, w ∈ Ts) {ty : Nat → FieldType} (hty : ∀ k, k < N → parseFieldDescriptor (T k).2.2.1 = some (ty k)) (hown : s.vm.findClass own = some m.cls) (hcl : (Cond.classLink own index C).before args s = true) (hinst : (Cond.instantiable C N).before args s = true) (hini : (Cond.initialized C).before args s = true) (hK : va_K E.1 vwCl (tysE E) s) (hz : H.size = E.2.1 n) (hPs : PS E lo s H) {A : Nat → Prop} (hS : va_S A s.heap H locs) (hc : vwCl[cj]? = some (C, T, N)) {gs : List Value} (hgs : ∀ j, j < N → defaultValue (ty j) = vp_V gs j) (hln : E.2.1 lo ≤ E.2.1 n) (hcells : cells + 1 ≤ R.cells) (hslots : slots + N ≤ R.slots) (hdg : decode cc pc = .ok (.new index, 3))
    (kk : ∀ H1 : Heap, PQ E n (n + 1) w0 cj gs s H1 → (∀ q : Nat, q < E.2.1 n → H1[q]? = H[q]?) → va_S A s.heap H1 locs → W p l e R s m args below meth c H1 locs (cells + 1) (slots + N) Q (F0 m (pc + 3) ls (.ref (E.2.1 n) :: rest))) : W p l e R s m args below meth c H locs cells slots Q (F0 m pc ls rest) := by
  have hKn := hK.1 cj _ hc
  refine W.newcK hx hb hown hcl hinst hini rfl hdg hcells hslots hKn.2.1 hz fun H1 kC hkC e1 z1 o1 => ?_
  refine kk H1 ⟨by rw [z1, hE n, hE (n + 1)]; omega, fun k h1 h2 => absurd h1 (by omega), ⟨_, hc, (u_born ty hts hin hKn hkC e1 hty).to hgs⟩, hK, (hPs.kept fun a h1 _ => o1 a (by rw [← hz]; exact h1)).narrow hln⟩ o1 ⟨Nat.le_trans hS.1 (by rw [z1, hz]; omega), fun x h1 h2 => (o1 x (by rw [← hz]; exact Nat.lt_of_lt_of_le h1 hS.1)).trans (hS.2.1 x h1 h2), hS.2.2⟩
end CR
