/-! ===== branches, calls, returns, methods ===== -/
theorem World.to {E : Ev} {rs : Nat → Prop} {w : Wd} {s U : State} {H : Heap} (hU : U.heap = H) (hvm : s.vm.Alike U.vm) (h : World E rs w s H) : World E rs w U U.heap := by
  rw [hU]; exact World.moved hvm h
theorem World.back {E : Ev} {rs : Nat → Prop} {w : Wd} {s U : State} {H : Heap} (hU : U.heap = H) (hvm : s.vm.Alike U.vm) (h : World E rs w U U.heap) : World E rs w s H := by
  rw [hU] at h; exact World.moved hvm.symm h
section BR
variable {p : Program} {l : Launch} {e : Env} {R : Room} {s : State} {m : MethodId} {args : Array Value} {below : List Frame} {meth : Method} {c : Code} {H : Heap} {locs : List Loc} {cells slots : Nat} {Q : State → Prop}
variable {cc : ByteArray} {pc : Nat} {ls : Array Slot} {rest : List Value} {β : Type} {r : β} {P N : Option β}
theorem rb_if_eq (hx : p.tables.exec = Jvm.exec) (hb : c.code = cc) {x : Int32} {off : Int} {tgt : Nat} (h : (if x = 0 then P else N) = some r) (hdg : decode cc pc = .ok (.ifCond .eq off, 3)) (ht : (pc : Int) + off = (tgt : Int)) (kt : P = some r → W p l e R s m args below meth c H locs cells slots Q (F0 m tgt ls rest)) (kf : N = some r → W p l e R s m args below meth c H locs cells slots Q (F0 m (pc + 3) ls rest)) : W p l e R s m args below meth c H locs cells slots Q (F0 m pc ls (.int x :: rest)) := lv_if_eq hx hb hdg ht (fun q => kt (by rw [if_pos q] at h; exact h)) (fun q => kf (by rw [if_neg q] at h; exact h))
theorem rb_icmp_eq (hx : p.tables.exec = Jvm.exec) (hb : c.code = cc) {x y : Int32} {off : Int} {tgt : Nat} (h : (if x = y then P else N) = some r) (hdg : decode cc pc = .ok (.if_icmp .eq off, 3)) (ht : (pc : Int) + off = (tgt : Int)) (kt : P = some r → W p l e R s m args below meth c H locs cells slots Q (F0 m tgt ls rest)) (kf : N = some r → W p l e R s m args below meth c H locs cells slots Q (F0 m (pc + 3) ls rest)) : W p l e R s m args below meth c H locs cells slots Q (F0 m pc ls (.int y :: .int x :: rest)) := lv_icmp_eq hx hb hdg ht (fun q => kt (by rw [if_pos q] at h; exact h)) (fun q => kf (by rw [if_neg q] at h; exact h))
theorem rb_if_ne (hx : p.tables.exec = Jvm.exec) (hb : c.code = cc) {x : Int32} {off : Int} {tgt : Nat} (h : (if x = 0 then N else P) = some r) (hdg : decode cc pc = .ok (.ifCond .ne off, 3)) (ht : (pc : Int) + off = (tgt : Int)) (kt : P = some r → W p l e R s m args below meth c H locs cells slots Q (F0 m tgt ls rest)) (kf : N = some r → W p l e R s m args below meth c H locs cells slots Q (F0 m (pc + 3) ls rest)) : W p l e R s m args below meth c H locs cells slots Q (F0 m pc ls (.int x :: rest)) := lv_if_ne hx hb hdg ht (fun q => kt (by rw [if_neg q] at h; exact h)) (fun q => kf (by rw [if_pos q] at h; exact h))
theorem rb_icmp_ne (hx : p.tables.exec = Jvm.exec) (hb : c.code = cc) {x y : Int32} {off : Int} {tgt : Nat} (h : (if x = y then N else P) = some r) (hdg : decode cc pc = .ok (.if_icmp .ne off, 3)) (ht : (pc : Int) + off = (tgt : Int)) (kt : P = some r → W p l e R s m args below meth c H locs cells slots Q (F0 m tgt ls rest)) (kf : N = some r → W p l e R s m args below meth c H locs cells slots Q (F0 m (pc + 3) ls rest)) : W p l e R s m args below meth c H locs cells slots Q (F0 m pc ls (.int y :: .int x :: rest)) := lv_icmp_ne hx hb hdg ht (fun q => kt (by rw [if_neg q] at h; exact h)) (fun q => kf (by rw [if_pos q] at h; exact h))
theorem rb_if_lt (hx : p.tables.exec = Jvm.exec) (hb : c.code = cc) {x : Int32} {off : Int} {tgt : Nat} (h : (if x < 0 then P else N) = some r) (hdg : decode cc pc = .ok (.ifCond .lt off, 3)) (ht : (pc : Int) + off = (tgt : Int)) (kt : P = some r → W p l e R s m args below meth c H locs cells slots Q (F0 m tgt ls rest)) (kf : N = some r → W p l e R s m args below meth c H locs cells slots Q (F0 m (pc + 3) ls rest)) : W p l e R s m args below meth c H locs cells slots Q (F0 m pc ls (.int x :: rest)) := lv_if_lt hx hb hdg ht (fun q => kt (by rw [if_pos q] at h; exact h)) (fun q => kf (by rw [if_neg q] at h; exact h))
theorem rb_icmp_lt (hx : p.tables.exec = Jvm.exec) (hb : c.code = cc) {x y : Int32} {off : Int} {tgt : Nat} (h : (if x < y then P else N) = some r) (hdg : decode cc pc = .ok (.if_icmp .lt off, 3)) (ht : (pc : Int) + off = (tgt : Int)) (kt : P = some r → W p l e R s m args below meth c H locs cells slots Q (F0 m tgt ls rest)) (kf : N = some r → W p l e R s m args below meth c H locs cells slots Q (F0 m (pc + 3) ls rest)) : W p l e R s m args below meth c H locs cells slots Q (F0 m pc ls (.int y :: .int x :: rest)) := lv_icmp_lt hx hb hdg ht (fun q => kt (by rw [if_pos q] at h; exact h)) (fun q => kf (by rw [if_neg q] at h; exact h))
theorem rb_if_ge (hx : p.tables.exec = Jvm.exec) (hb : c.code = cc) {x : Int32} {off : Int} {tgt : Nat} (h : (if 0 ≤ x then P else N) = some r) (hdg : decode cc pc = .ok (.ifCond .ge off, 3)) (ht : (pc : Int) + off = (tgt : Int)) (kt : P = some r → W p l e R s m args below meth c H locs cells slots Q (F0 m tgt ls rest)) (kf : N = some r → W p l e R s m args below meth c H locs cells slots Q (F0 m (pc + 3) ls rest)) : W p l e R s m args below meth c H locs cells slots Q (F0 m pc ls (.int x :: rest)) := lv_if_ge hx hb hdg ht (fun q => kt (by rw [if_pos q] at h; exact h)) (fun q => kf (by rw [if_neg q] at h; exact h))
theorem rb_icmp_ge (hx : p.tables.exec = Jvm.exec) (hb : c.code = cc) {x y : Int32} {off : Int} {tgt : Nat} (h : (if y ≤ x then P else N) = some r) (hdg : decode cc pc = .ok (.if_icmp .ge off, 3)) (ht : (pc : Int) + off = (tgt : Int)) (kt : P = some r → W p l e R s m args below meth c H locs cells slots Q (F0 m tgt ls rest)) (kf : N = some r → W p l e R s m args below meth c H locs cells slots Q (F0 m (pc + 3) ls rest)) : W p l e R s m args below meth c H locs cells slots Q (F0 m pc ls (.int y :: .int x :: rest)) := lv_icmp_ge hx hb hdg ht (fun q => kt (by rw [if_pos q] at h; exact h)) (fun q => kf (by rw [if_neg q] at h; exact h))
theorem rb_if_gt (hx : p.tables.exec = Jvm.exec) (hb : c.code = cc) {x : Int32} {off : Int} {tgt : Nat} (h : (if 0 < x then P else N) = some r) (hdg : decode cc pc = .ok (.ifCond .gt off, 3)) (ht : (pc : Int) + off = (tgt : Int)) (kt : P = some r → W p l e R s m args below meth c H locs cells slots Q (F0 m tgt ls rest)) (kf : N = some r → W p l e R s m args below meth c H locs cells slots Q (F0 m (pc + 3) ls rest)) : W p l e R s m args below meth c H locs cells slots Q (F0 m pc ls (.int x :: rest)) := lv_if_gt hx hb hdg ht (fun q => kt (by rw [if_pos q] at h; exact h)) (fun q => kf (by rw [if_neg q] at h; exact h))
theorem rb_icmp_gt (hx : p.tables.exec = Jvm.exec) (hb : c.code = cc) {x y : Int32} {off : Int} {tgt : Nat} (h : (if y < x then P else N) = some r) (hdg : decode cc pc = .ok (.if_icmp .gt off, 3)) (ht : (pc : Int) + off = (tgt : Int)) (kt : P = some r → W p l e R s m args below meth c H locs cells slots Q (F0 m tgt ls rest)) (kf : N = some r → W p l e R s m args below meth c H locs cells slots Q (F0 m (pc + 3) ls rest)) : W p l e R s m args below meth c H locs cells slots Q (F0 m pc ls (.int y :: .int x :: rest)) := lv_icmp_gt hx hb hdg ht (fun q => kt (by rw [if_pos q] at h; exact h)) (fun q => kf (by rw [if_neg q] at h; exact h))
theorem rb_if_le (hx : p.tables.exec = Jvm.exec) (hb : c.code = cc) {x : Int32} {off : Int} {tgt : Nat} (h : (if x ≤ 0 then P else N) = some r) (hdg : decode cc pc = .ok (.ifCond .le off, 3)) (ht : (pc : Int) + off = (tgt : Int)) (kt : P = some r → W p l e R s m args below meth c H locs cells slots Q (F0 m tgt ls rest)) (kf : N = some r → W p l e R s m args below meth c H locs cells slots Q (F0 m (pc + 3) ls rest)) : W p l e R s m args below meth c H locs cells slots Q (F0 m pc ls (.int x :: rest)) := lv_if_le hx hb hdg ht (fun q => kt (by rw [if_pos q] at h; exact h)) (fun q => kf (by rw [if_neg q] at h; exact h))
theorem rb_icmp_le (hx : p.tables.exec = Jvm.exec) (hb : c.code = cc) {x y : Int32} {off : Int} {tgt : Nat} (h : (if x ≤ y then P else N) = some r) (hdg : decode cc pc = .ok (.if_icmp .le off, 3)) (ht : (pc : Int) + off = (tgt : Int)) (kt : P = some r → W p l e R s m args below meth c H locs cells slots Q (F0 m tgt ls rest)) (kf : N = some r → W p l e R s m args below meth c H locs cells slots Q (F0 m (pc + 3) ls rest)) : W p l e R s m args below meth c H locs cells slots Q (F0 m pc ls (.int y :: .int x :: rest)) := lv_icmp_le hx hb hdg ht (fun q => kt (by rw [if_pos q] at h; exact h)) (fun q => kf (by rw [if_neg q] at h; exact h))
theorem rb_div (hx : p.tables.exec = Jvm.exec) (hb : c.code = cc) {x y : Int32} {F : Int32 → Option β} (h : (dvI x y).bind F = some r) (hdg : decode cc pc = .ok (.idiv, 1)) (kk : ∀ z, F z = some r → W p l e R s m args below meth c H locs cells slots Q (F0 m (pc + 1) ls (.int z :: rest))) : W p l e R s m args below meth c H locs cells slots Q (F0 m pc ls (.int y :: .int x :: rest)) := by
  unfold dvI at h
  by_cases q : y = 0
  · rw [if_pos q] at h; cases h
  · rw [if_neg q] at h; exact lv_idiv hx hb hdg q (kk _ h)
theorem rb_rem (hx : p.tables.exec = Jvm.exec) (hb : c.code = cc) {x y : Int32} {F : Int32 → Option β} (h : (rmI x y).bind F = some r) (hdg : decode cc pc = .ok (.irem, 1)) (kk : ∀ z, F z = some r → W p l e R s m args below meth c H locs cells slots Q (F0 m (pc + 1) ls (.int z :: rest))) : W p l e R s m args below meth c H locs cells slots Q (F0 m pc ls (.int y :: .int x :: rest)) := by
  unfold rmI at h
  by_cases q : y = 0
  · rw [if_pos q] at h; cases h
  · rw [if_neg q] at h; exact lv_irem hx hb hdg q (kk _ h)
theorem lc_lt (x y : Int64) : lg_cmp x y < 0 ↔ x < y := by
  unfold lg_cmp
  by_cases h1 : x > y
  · rw [if_pos h1]
    refine ⟨fun h => absurd h (by decide), fun h => ?_⟩
    have h1' : y < x := h1
    rw [Int64.lt_iff_toInt_lt] at h1' h
    omega
  · rw [if_neg h1]
    by_cases h2 : x = y
    · rw [if_pos h2]
      refine ⟨fun h => absurd h (by decide), fun h => ?_⟩
      subst h2
      rw [Int64.lt_iff_toInt_lt] at h
      omega
    · rw [if_neg h2]
      refine ⟨fun _ => ?_, fun _ => by decide⟩
      have h1' : ¬ y < x := h1
      rw [Int64.lt_iff_toInt_lt] at h1' ⊢
      have : x.toInt ≠ y.toInt := fun q => h2 (Int64.toInt_inj.mp q)
      omega
theorem lc_gt (x y : Int64) : 0 < lg_cmp x y ↔ y < x := by
  unfold lg_cmp
  by_cases h1 : x > y
  · rw [if_pos h1]
    exact ⟨fun _ => h1, fun _ => by decide⟩
  · rw [if_neg h1]
    by_cases h2 : x = y
    · rw [if_pos h2]
      exact ⟨fun h => absurd h (by decide), fun h => absurd h h1⟩
    · rw [if_neg h2]
      exact ⟨fun h => absurd h (by decide), fun h => absurd h h1⟩
theorem lc_eq (x y : Int64) : lg_cmp x y = 0 ↔ x = y := by
  unfold lg_cmp
  by_cases h1 : x > y
  · rw [if_pos h1]
    refine ⟨fun h => absurd h (by decide), fun h => ?_⟩
    subst h
    have h1' : x < x := h1
    rw [Int64.lt_iff_toInt_lt] at h1'
    omega
  · rw [if_neg h1]
    by_cases h2 : x = y
    · rw [if_pos h2]
      exact ⟨fun _ => h2, fun _ => rfl⟩
    · rw [if_neg h2]
      exact ⟨fun h => absurd h (by decide), fun h => absurd h h2⟩
theorem lc_ge (x y : Int64) : 0 ≤ lg_cmp x y ↔ ¬ x < y := by
  rw [← lc_lt, Int32.le_iff_toInt_le, Int32.lt_iff_toInt_lt]; omega
theorem lc_le (x y : Int64) : lg_cmp x y ≤ 0 ↔ ¬ y < x := by
  rw [← lc_gt, Int32.le_iff_toInt_le, Int32.lt_iff_toInt_lt]; omega
/-- lcmp and the branch behind it; the condition is the jump's, or its opposite -/
theorem rb_lcmp_lt (hx : p.tables.exec = Jvm.exec) (hb : c.code = cc) {x y : Int64} {off : Int} {tgt : Nat} (h : (if x < y then P else N) = some r) (hd0 : decode cc pc = .ok (.lcmp, 1)) (hdg : decode cc (pc + 1) = .ok (.ifCond .lt off, 3)) (ht : ((pc + 1 : Nat) : Int) + off = (tgt : Int)) (kt : P = some r → W p l e R s m args below meth c H locs cells slots Q (F0 m tgt ls rest)) (kf : N = some r → W p l e R s m args below meth c H locs cells slots Q (F0 m (pc + 1 + 3) ls rest)) : W p l e R s m args below meth c H locs cells slots Q (F0 m pc ls (.long y :: .long x :: rest)) := by
  refine W.lcmp hx hb hd0 (lv_if_lt hx hb hdg ht (fun q => ?_) (fun q => ?_))
  · rw [lc_lt] at q; rw [if_pos q] at h; exact kt h
  · rw [lc_lt] at q; rw [if_neg q] at h; exact kf h
theorem rb_lcmp_ge (hx : p.tables.exec = Jvm.exec) (hb : c.code = cc) {x y : Int64} {off : Int} {tgt : Nat} (h : (if x < y then N else P) = some r) (hd0 : decode cc pc = .ok (.lcmp, 1)) (hdg : decode cc (pc + 1) = .ok (.ifCond .ge off, 3)) (ht : ((pc + 1 : Nat) : Int) + off = (tgt : Int)) (kt : P = some r → W p l e R s m args below meth c H locs cells slots Q (F0 m tgt ls rest)) (kf : N = some r → W p l e R s m args below meth c H locs cells slots Q (F0 m (pc + 1 + 3) ls rest)) : W p l e R s m args below meth c H locs cells slots Q (F0 m pc ls (.long y :: .long x :: rest)) := by
  refine W.lcmp hx hb hd0 (lv_if_ge hx hb hdg ht (fun q => ?_) (fun q => ?_))
  · rw [lc_ge] at q; rw [if_neg q] at h; exact kt h
  · rw [lc_ge] at q; rw [if_pos (Decidable.not_not.mp q)] at h; exact kf h
theorem rb_lcmp_gt (hx : p.tables.exec = Jvm.exec) (hb : c.code = cc) {x y : Int64} {off : Int} {tgt : Nat} (h : (if y < x then P else N) = some r) (hd0 : decode cc pc = .ok (.lcmp, 1)) (hdg : decode cc (pc + 1) = .ok (.ifCond .gt off, 3)) (ht : ((pc + 1 : Nat) : Int) + off = (tgt : Int)) (kt : P = some r → W p l e R s m args below meth c H locs cells slots Q (F0 m tgt ls rest)) (kf : N = some r → W p l e R s m args below meth c H locs cells slots Q (F0 m (pc + 1 + 3) ls rest)) : W p l e R s m args below meth c H locs cells slots Q (F0 m pc ls (.long y :: .long x :: rest)) := by
  refine W.lcmp hx hb hd0 (lv_if_gt hx hb hdg ht (fun q => ?_) (fun q => ?_))
  · rw [lc_gt] at q; rw [if_pos q] at h; exact kt h
  · rw [lc_gt] at q; rw [if_neg q] at h; exact kf h
theorem rb_lcmp_le (hx : p.tables.exec = Jvm.exec) (hb : c.code = cc) {x y : Int64} {off : Int} {tgt : Nat} (h : (if y < x then N else P) = some r) (hd0 : decode cc pc = .ok (.lcmp, 1)) (hdg : decode cc (pc + 1) = .ok (.ifCond .le off, 3)) (ht : ((pc + 1 : Nat) : Int) + off = (tgt : Int)) (kt : P = some r → W p l e R s m args below meth c H locs cells slots Q (F0 m tgt ls rest)) (kf : N = some r → W p l e R s m args below meth c H locs cells slots Q (F0 m (pc + 1 + 3) ls rest)) : W p l e R s m args below meth c H locs cells slots Q (F0 m pc ls (.long y :: .long x :: rest)) := by
  refine W.lcmp hx hb hd0 (lv_if_le hx hb hdg ht (fun q => ?_) (fun q => ?_))
  · rw [lc_le] at q; rw [if_neg q] at h; exact kt h
  · rw [lc_le] at q; rw [if_pos (Decidable.not_not.mp q)] at h; exact kf h
theorem rb_lcmp_eq (hx : p.tables.exec = Jvm.exec) (hb : c.code = cc) {x y : Int64} {off : Int} {tgt : Nat} (h : (if x = y then P else N) = some r) (hd0 : decode cc pc = .ok (.lcmp, 1)) (hdg : decode cc (pc + 1) = .ok (.ifCond .eq off, 3)) (ht : ((pc + 1 : Nat) : Int) + off = (tgt : Int)) (kt : P = some r → W p l e R s m args below meth c H locs cells slots Q (F0 m tgt ls rest)) (kf : N = some r → W p l e R s m args below meth c H locs cells slots Q (F0 m (pc + 1 + 3) ls rest)) : W p l e R s m args below meth c H locs cells slots Q (F0 m pc ls (.long y :: .long x :: rest)) := by
  refine W.lcmp hx hb hd0 (lv_if_eq hx hb hdg ht (fun q => ?_) (fun q => ?_))
  · rw [lc_eq] at q; rw [if_pos q] at h; exact kt h
  · rw [lc_eq] at q; rw [if_neg q] at h; exact kf h
theorem rb_lcmp_ne (hx : p.tables.exec = Jvm.exec) (hb : c.code = cc) {x y : Int64} {off : Int} {tgt : Nat} (h : (if x = y then N else P) = some r) (hd0 : decode cc pc = .ok (.lcmp, 1)) (hdg : decode cc (pc + 1) = .ok (.ifCond .ne off, 3)) (ht : ((pc + 1 : Nat) : Int) + off = (tgt : Int)) (kt : P = some r → W p l e R s m args below meth c H locs cells slots Q (F0 m tgt ls rest)) (kf : N = some r → W p l e R s m args below meth c H locs cells slots Q (F0 m (pc + 1 + 3) ls rest)) : W p l e R s m args below meth c H locs cells slots Q (F0 m pc ls (.long y :: .long x :: rest)) := by
  refine W.lcmp hx hb hd0 (lv_if_ne hx hb hdg ht (fun q => ?_) (fun q => ?_))
  · rw [lc_eq] at q; rw [if_neg q] at h; exact kt h
  · rw [lc_eq] at q; rw [if_pos q] at h; exact kf h
end BR
section CALLS
variable {p : Program} {l : Launch} {e : Env} {R : Room} {s : State} {m : MethodId} {args : Array Value} {below : List Frame} {meth : Method} {c : Code} {H : Heap} {locs : List Loc} {cells slots : Nat} {Q : State → Prop}
variable {cc bytes : ByteArray} {pc nL maxL n index : Nat} {ls : Array Slot} {rest As st : List Value} {E : Ev} {rs : Nat → Prop} {w : Wd} {k : Nat} {β : Type} {r : β} {y : MethodName} {ws Ts : List Cond} {rm : Room} {own C : String} {ret : Option FieldType}
theorem rc_Vi (S : CallFix p m c cc nL s args Ts own) (hW : World E rs w s H) (hS : va_S (wA E rs) s.heap H locs) {f : Option (Int32 × Wd)} {F : Int32 → Wd → Option β} (h : bnd f F = some r) (hM : ∀ q, f = some q → CtI l y ws rm E rs (.ref (E.2.1 k) :: As) w q) (cw : CallW R s args own C index y bytes maxL ret ws rm 0 0 n) (hk : rs k) {ci : Nat} {fs : List (Nat × Nat)} (hc : kc k = (4, ci, fs)) {q : vw_C} (hcl : vwCl[ci]? = some q) (hC : q.1 = C) (hn : As.length = n) (hsz : ls.size = nL) (hst : st = As.reverse ++ .ref (E.2.1 k) :: rest) (hrm : (rest.map fun v => v.category).sum ≤ 8) (hf : cells ≤ R.cells ∧ slots ≤ R.slots) (hdg : decode cc pc = .ok (.invokevirtual index, 3))
    (kk : ∀ (v : Int32) (w : Wd) (H : Heap) (locs : List Loc), F v w = some r → World E rs w s H → va_S (wA E rs) s.heap H locs → W p l e R s m args below meth c H locs cells slots Q (F0 m (pc + 3) ls (.int v :: rest))) : W p l e R s m args below meth c H locs cells slots Q (F0 m pc ls st) := by
  obtain ⟨v, w', hf', hF⟩ := bnd_some h
  have hP := hW.P1 hk
  rw [hc] at hP
  have hrv := va_recv hW.2.2.1 hP hcl (q0 := 0) rfl
  rw [hC] at hrv
  refine va_calli (va_runV S (hM _ hf') cw ⟨World.blind, hrv, fun U hU hWm => ⟨rfl, World.to hU hWm.alike hW⟩⟩ rfl hn hsz hst (lv_room hrm) hdg hf) hS (fun _ _ z => z) (fun _ z => z) (fun v1 u t H1 locs1 ht hvm hp hB _ _ hS1 => ?_)
  cases hp
  exact kk _ _ H1 locs1 hF (World.back ht hvm hB) hS1
theorem rc_Vl (S : CallFix p m c cc nL s args Ts own) (hW : World E rs w s H) (hS : va_S (wA E rs) s.heap H locs) {f : Option (Int64 × Wd)} {F : Int64 → Wd → Option β} (h : bnd f F = some r) (hM : ∀ q, f = some q → CtL l y ws rm E rs (.ref (E.2.1 k) :: As) w q) (cw : CallW R s args own C index y bytes maxL ret ws rm 0 0 n) (hk : rs k) {ci : Nat} {fs : List (Nat × Nat)} (hc : kc k = (4, ci, fs)) {q : vw_C} (hcl : vwCl[ci]? = some q) (hC : q.1 = C) (hn : As.length = n) (hsz : ls.size = nL) (hst : st = As.reverse ++ .ref (E.2.1 k) :: rest) (hrm : (rest.map fun v => v.category).sum ≤ 8) (hf : cells ≤ R.cells ∧ slots ≤ R.slots) (hdg : decode cc pc = .ok (.invokevirtual index, 3))
    (kk : ∀ (v : Int64) (w : Wd) (H : Heap) (locs : List Loc), F v w = some r → World E rs w s H → va_S (wA E rs) s.heap H locs → W p l e R s m args below meth c H locs cells slots Q (F0 m (pc + 3) ls (.long v :: rest))) : W p l e R s m args below meth c H locs cells slots Q (F0 m pc ls st) := by
  obtain ⟨v, w', hf', hF⟩ := bnd_some h
  have hP := hW.P1 hk
  rw [hc] at hP
  have hrv := va_recv hW.2.2.1 hP hcl (q0 := 0) rfl
  rw [hC] at hrv
  refine va_calll (va_runV S (hM _ hf') cw ⟨World.blind, hrv, fun U hU hWm => ⟨rfl, World.to hU hWm.alike hW⟩⟩ rfl hn hsz hst (lv_room hrm) hdg hf) hS (fun _ _ z => z) (fun _ z => z) (fun v1 u t H1 locs1 ht hvm hp hB _ _ hS1 => ?_)
  cases hp
  exact kk _ _ H1 locs1 hF (World.back ht hvm hB) hS1
theorem rc_Vv (S : CallFix p m c cc nL s args Ts own) (hW : World E rs w s H) (hS : va_S (wA E rs) s.heap H locs) {f : Option (Unit × Wd)} {F : Unit → Wd → Option β} (h : bnd f F = some r) (hM : ∀ q, f = some q → CtV l y ws rm E rs (.ref (E.2.1 k) :: As) w q) (cw : CallW R s args own C index y bytes maxL ret ws rm 0 0 n) (hk : rs k) {ci : Nat} {fs : List (Nat × Nat)} (hc : kc k = (4, ci, fs)) {q : vw_C} (hcl : vwCl[ci]? = some q) (hC : q.1 = C) (hn : As.length = n) (hsz : ls.size = nL) (hst : st = As.reverse ++ .ref (E.2.1 k) :: rest) (hrm : (rest.map fun v => v.category).sum ≤ 8) (hf : cells ≤ R.cells ∧ slots ≤ R.slots) (hdg : decode cc pc = .ok (.invokevirtual index, 3))
    (kk : ∀ (v : Unit) (w : Wd) (H : Heap) (locs : List Loc), F v w = some r → World E rs w s H → va_S (wA E rs) s.heap H locs → W p l e R s m args below meth c H locs cells slots Q (F0 m (pc + 3) ls rest)) : W p l e R s m args below meth c H locs cells slots Q (F0 m pc ls st) := by
  obtain ⟨v, w', hf', hF⟩ := bnd_some h
  have hP := hW.P1 hk
  rw [hc] at hP
  have hrv := va_recv hW.2.2.1 hP hcl (q0 := 0) rfl
  rw [hC] at hrv
  refine va_callv (va_runV S (hM _ hf') cw ⟨World.blind, hrv, fun U hU hWm => ⟨rfl, World.to hU hWm.alike hW⟩⟩ rfl hn hsz hst (lv_room hrm) hdg hf) hS (fun _ _ z => z) (fun _ z => z) (fun u t H1 locs1 ht hvm hp hB _ _ hS1 => ?_)
  exact kk _ _ H1 locs1 hF (World.back ht hvm hB) hS1
theorem rc_Vr (S : CallFix p m c cc nL s args Ts own) (hW : World E rs w s H) (hS : va_S (wA E rs) s.heap H locs) {f : Option (Nat × Wd)} {F : Nat → Wd → Option β} (h : bnd f F = some r) (hM : ∀ q, f = some q → CtR l y ws rm E rs (.ref (E.2.1 k) :: As) w q) (cw : CallW R s args own C index y bytes maxL ret ws rm 0 0 n) (hk : rs k) {ci : Nat} {fs : List (Nat × Nat)} (hc : kc k = (4, ci, fs)) {q : vw_C} (hcl : vwCl[ci]? = some q) (hC : q.1 = C) (hn : As.length = n) (hsz : ls.size = nL) (hst : st = As.reverse ++ .ref (E.2.1 k) :: rest) (hrm : (rest.map fun v => v.category).sum ≤ 8) (hf : cells ≤ R.cells ∧ slots ≤ R.slots) (hdg : decode cc pc = .ok (.invokevirtual index, 3))
    (kk : ∀ (v : Nat) (w : Wd) (H : Heap) (locs : List Loc), F v w = some r → World E rs w s H → va_S (wA E rs) s.heap H locs → W p l e R s m args below meth c H locs cells slots Q (F0 m (pc + 3) ls (.ref (E.2.1 v) :: rest))) : W p l e R s m args below meth c H locs cells slots Q (F0 m pc ls st) := by
  obtain ⟨v, w', hf', hF⟩ := bnd_some h
  have hP := hW.P1 hk
  rw [hc] at hP
  have hrv := va_recv hW.2.2.1 hP hcl (q0 := 0) rfl
  rw [hC] at hrv
  refine va_callr (va_runV S (hM _ hf') cw ⟨World.blind, hrv, fun U hU hWm => ⟨rfl, World.to hU hWm.alike hW⟩⟩ rfl hn hsz hst (lv_room hrm) hdg hf) hS (fun _ _ z => z) (fun _ z => z) (fun u ra t H1 locs1 ht hvm hp hB _ _ hS1 => ?_)
  obtain ⟨rfl, hB⟩ := hB
  exact kk _ _ H1 locs1 hF (World.back ht hvm hB) hS1
theorem rc_Si (S : CallFix p m c cc nL s args Ts own) (hW : World E rs w s H) (hS : va_S (wA E rs) s.heap H locs) {f : Option (Int32 × Wd)} {F : Int32 → Wd → Option β} (h : bnd f F = some r) (hM : ∀ q, f = some q → CtI l y ws rm E rs As w q) (cw : CallB R s args own index y bytes maxL ret ws rm 0 0 n ∧ (Cond.static y).before args s = true) (hn : As.length = n) (hsz : ls.size = nL) (hst : st = As.reverse ++ rest) (hrm : (rest.map fun v => v.category).sum ≤ 8) (hf : cells ≤ R.cells ∧ slots ≤ R.slots) (hdg : decode cc pc = .ok (.invokestatic index, 3))
    (kk : ∀ (v : Int32) (w : Wd) (H : Heap) (locs : List Loc), F v w = some r → World E rs w s H → va_S (wA E rs) s.heap H locs → W p l e R s m args below meth c H locs cells slots Q (F0 m (pc + 3) ls (.int v :: rest))) : W p l e R s m args below meth c H locs cells slots Q (F0 m pc ls st) := by
  obtain ⟨v, w', hf', hF⟩ := bnd_some h
  refine va_calli (va_runS S (hM _ hf') cw ⟨World.blind, fun U hU hWm => ⟨rfl, World.to hU hWm.alike hW⟩⟩ rfl hn hsz hst (lv_room hrm) hdg hf) hS (fun _ _ z => z) (fun _ z => z) (fun v1 u t H1 locs1 ht hvm hp hB _ _ hS1 => ?_)
  cases hp
  exact kk _ _ H1 locs1 hF (World.back ht hvm hB) hS1
theorem rc_Sv (S : CallFix p m c cc nL s args Ts own) (hW : World E rs w s H) (hS : va_S (wA E rs) s.heap H locs) {f : Option (Unit × Wd)} {F : Unit → Wd → Option β} (h : bnd f F = some r) (hM : ∀ q, f = some q → CtV l y ws rm E rs As w q) (cw : CallB R s args own index y bytes maxL ret ws rm 0 0 n ∧ (Cond.static y).before args s = true) (hn : As.length = n) (hsz : ls.size = nL) (hst : st = As.reverse ++ rest) (hrm : (rest.map fun v => v.category).sum ≤ 8) (hf : cells ≤ R.cells ∧ slots ≤ R.slots) (hdg : decode cc pc = .ok (.invokestatic index, 3))
    (kk : ∀ (v : Unit) (w : Wd) (H : Heap) (locs : List Loc), F v w = some r → World E rs w s H → va_S (wA E rs) s.heap H locs → W p l e R s m args below meth c H locs cells slots Q (F0 m (pc + 3) ls rest)) : W p l e R s m args below meth c H locs cells slots Q (F0 m pc ls st) := by
  obtain ⟨v, w', hf', hF⟩ := bnd_some h
  refine va_callv (va_runS S (hM _ hf') cw ⟨World.blind, fun U hU hWm => ⟨rfl, World.to hU hWm.alike hW⟩⟩ rfl hn hsz hst (lv_room hrm) hdg hf) hS (fun _ _ z => z) (fun _ z => z) (fun u t H1 locs1 ht hvm hp hB _ _ hS1 => ?_)
  exact kk _ _ H1 locs1 hF (World.back ht hvm hB) hS1
end CALLS
section MK
variable {l : Launch} {E : Ev} {rs : Nat → Prop} {w : Wd} {y : MethodName} {ws ws' : List Cond} {rm : Room} {cc : ByteArray} {maxL : Nat} {av : List Value}
theorem mkI {q : Int32 × Wd} (hy : plainName y.cls = true) (hw : ws = Cond.code y cc maxL (some .int) :: ws') (hz : (lg_sl av).length ≤ maxL)
    (body : ∀ (p : Program) (e : Env) (s : State) (m : MethodId) (args : Array Value) (below : List Frame) (meth : Method) (c : Code) (Q : State → Prop), CallFix p m c cc maxL s args ws y.cls → World E rs w s s.heap → (∀ (H : Heap) (locs : List Loc) (ls : Array Slot) (pc : Nat), World E rs q.2 s H → va_S (wA E rs) s.heap H locs → decode cc pc = .ok (.ireturn, 1) → W p l e rm s m args below meth c H locs 0 0 Q (F0 m pc ls [.int q.1])) → ∀ ls : Array Slot, lv_has ls maxL (lv_args 0 av) → W p l e rm s m args below meth c s.heap [] 0 0 Q (F0 m 0 ls [])) : CtI l y ws rm E rs av w q := by
  refine Met.ofW (cc := cc) (maxL := maxL) (ret := some .int) hy hw ?_
  intro p e s m args below meth c s₁ B hml hv
  obtain ⟨rfl, hW⟩ := hv
  have hts := atoms_spec (ws := ws) B.pre
  have hlocks := B.notSynchronized
  have hl := lv_entry av (n := maxL) hz
  rw [lg_entry_eq]
  refine body p e s m _ below meth c _ ⟨B.exec, B.bytes, hml, findClass_of_methodNamed B.named, hts⟩ hW (fun H locs ls pc hW' hS hd => ?_) _ hl
  exact W.iret (v := q.1) B.exec B.bytes B.returns (fun t ht hWm => ⟨⟨q.1, (), rfl, rfl, World.to ht hWm.alike hW'⟩, hS.F ht⟩) hS.2.2 hd
theorem mkZ {q : Int32 × Wd} (hy : plainName y.cls = true) (hw : ws = Cond.code y cc maxL (some .boolean) :: ws') (hz : (lg_sl av).length ≤ maxL)
    (body : ∀ (p : Program) (e : Env) (s : State) (m : MethodId) (args : Array Value) (below : List Frame) (meth : Method) (c : Code) (Q : State → Prop), CallFix p m c cc maxL s args ws y.cls → World E rs w s s.heap → (∀ (H : Heap) (locs : List Loc) (ls : Array Slot) (pc : Nat), (q.1 = 0 ∨ q.1 = 1) → World E rs q.2 s H → va_S (wA E rs) s.heap H locs → decode cc pc = .ok (.ireturn, 1) → W p l e rm s m args below meth c H locs 0 0 Q (F0 m pc ls [.int q.1])) → ∀ ls : Array Slot, lv_has ls maxL (lv_args 0 av) → W p l e rm s m args below meth c s.heap [] 0 0 Q (F0 m 0 ls [])) : CtI l y ws rm E rs av w q := by
  refine Met.ofW (cc := cc) (maxL := maxL) (ret := some .boolean) hy hw ?_
  intro p e s m args below meth c s₁ B hml hv
  obtain ⟨rfl, hW⟩ := hv
  have hts := atoms_spec (ws := ws) B.pre
  have hlocks := B.notSynchronized
  have hl := lv_entry av (n := maxL) hz
  rw [lg_entry_eq]
  refine body p e s m _ below meth c _ ⟨B.exec, B.bytes, hml, findClass_of_methodNamed B.named, hts⟩ hW (fun H locs ls pc h01 hW' hS hd => ?_) _ hl
  refine W.zret (v := q.1) B.exec B.bytes B.returns ?_ (fun t ht hWm => ⟨⟨q.1, (), rfl, rfl, World.to ht hWm.alike hW'⟩, hS.F ht⟩) hS.2.2 hd
  rcases h01 with z | z <;> rw [z] <;> decide
theorem mkL {q : Int64 × Wd} (hy : plainName y.cls = true) (hw : ws = Cond.code y cc maxL (some .long) :: ws') (hz : (lg_sl av).length ≤ maxL)
    (body : ∀ (p : Program) (e : Env) (s : State) (m : MethodId) (args : Array Value) (below : List Frame) (meth : Method) (c : Code) (Q : State → Prop), CallFix p m c cc maxL s args ws y.cls → World E rs w s s.heap → (∀ (H : Heap) (locs : List Loc) (ls : Array Slot) (pc : Nat), World E rs q.2 s H → va_S (wA E rs) s.heap H locs → decode cc pc = .ok (.lreturn, 1) → W p l e rm s m args below meth c H locs 0 0 Q (F0 m pc ls [.long q.1])) → ∀ ls : Array Slot, lv_has ls maxL (lv_args 0 av) → W p l e rm s m args below meth c s.heap [] 0 0 Q (F0 m 0 ls [])) : CtL l y ws rm E rs av w q := by
  refine Met.ofW (cc := cc) (maxL := maxL) (ret := some .long) hy hw ?_
  intro p e s m args below meth c s₁ B hml hv
  obtain ⟨rfl, hW⟩ := hv
  have hts := atoms_spec (ws := ws) B.pre
  have hlocks := B.notSynchronized
  have hl := lv_entry av (n := maxL) hz
  rw [lg_entry_eq]
  refine body p e s m _ below meth c _ ⟨B.exec, B.bytes, hml, findClass_of_methodNamed B.named, hts⟩ hW (fun H locs ls pc hW' hS hd => ?_) _ hl
  exact W.lret (v := q.1) B.exec B.bytes B.returns (fun t ht hWm => ⟨⟨q.1, (), rfl, rfl, World.to ht hWm.alike hW'⟩, hS.F ht⟩) hS.2.2 hd
theorem mkV {q : Unit × Wd} (hy : plainName y.cls = true) (hw : ws = Cond.code y cc maxL none :: ws') (hz : (lg_sl av).length ≤ maxL)
    (body : ∀ (p : Program) (e : Env) (s : State) (m : MethodId) (args : Array Value) (below : List Frame) (meth : Method) (c : Code) (Q : State → Prop), CallFix p m c cc maxL s args ws y.cls → World E rs w s s.heap → (∀ (H : Heap) (locs : List Loc) (ls : Array Slot) (pc : Nat), World E rs q.2 s H → va_S (wA E rs) s.heap H locs → decode cc pc = .ok (.return_, 1) → W p l e rm s m args below meth c H locs 0 0 Q (F0 m pc ls [])) → ∀ ls : Array Slot, lv_has ls maxL (lv_args 0 av) → W p l e rm s m args below meth c s.heap [] 0 0 Q (F0 m 0 ls [])) : CtV l y ws rm E rs av w q := by
  refine Met.ofW (cc := cc) (maxL := maxL) (ret := none) hy hw ?_
  intro p e s m args below meth c s₁ B hml hv
  obtain ⟨rfl, hW⟩ := hv
  have hts := atoms_spec (ws := ws) B.pre
  have hlocks := B.notSynchronized
  have hl := lv_entry av (n := maxL) hz
  rw [lg_entry_eq]
  refine body p e s m _ below meth c _ ⟨B.exec, B.bytes, hml, findClass_of_methodNamed B.named, hts⟩ hW (fun H locs ls pc hW' hS hd => ?_) _ hl
  exact W.vret B.exec B.bytes B.returns (fun t ht hWm => ⟨⟨(), rfl, trivial, World.to ht hWm.alike hW'⟩, hS.F ht⟩) hS.2.2 hd
theorem mkR {q : Nat × Wd} {rt : String} (hy : plainName y.cls = true) (hw : ws = Cond.code y cc maxL (some (.object rt)) :: ws') (hz : (lg_sl av).length ≤ maxL)
    (body : ∀ (p : Program) (e : Env) (s : State) (m : MethodId) (args : Array Value) (below : List Frame) (meth : Method) (c : Code) (Q : State → Prop), CallFix p m c cc maxL s args ws y.cls → World E rs w s s.heap → (∀ (H : Heap) (locs : List Loc) (ls : Array Slot) (pc : Nat), World E rs q.2 s H → va_S (wA E rs) s.heap H locs → decode cc pc = .ok (.areturn, 1) → W p l e rm s m args below meth c H locs 0 0 Q (F0 m pc ls [.ref (E.2.1 q.1)])) → ∀ ls : Array Slot, lv_has ls maxL (lv_args 0 av) → W p l e rm s m args below meth c s.heap [] 0 0 Q (F0 m 0 ls [])) : CtR l y ws rm E rs av w q := by
  refine Met.ofW (cc := cc) (maxL := maxL) (ret := some (.object rt)) hy hw ?_
  intro p e s m args below meth c s₁ B hml hv
  obtain ⟨rfl, hW⟩ := hv
  have hts := atoms_spec (ws := ws) B.pre
  have hlocks := B.notSynchronized
  have hl := lv_entry av (n := maxL) hz
  rw [lg_entry_eq]
  refine body p e s m _ below meth c _ ⟨B.exec, B.bytes, hml, findClass_of_methodNamed B.named, hts⟩ hW (fun H locs ls pc hW' hS hd => ?_) _ hl
  exact W.aret (v := .ref (E.2.1 q.1)) B.exec B.bytes B.returns (Or.inl ⟨_, rfl⟩) (Or.inr ⟨_, rfl⟩) (fun t ht hWm => ⟨⟨(), _, rfl, trivial, rfl, World.to ht hWm.alike hW'⟩, hS.F ht⟩) hS.2.2 hd
theorem zr_some {v : Int32} {q : Int32 × Wd} (h : zr v w = some q) : (q.1 = 0 ∨ q.1 = 1) ∧ q = (v, w) := by
  unfold zr at h
  by_cases z : v = 0 ∨ v = 1
  · rw [if_pos z] at h; cases h; exact ⟨z, rfl⟩
  · rw [if_neg z] at h; cases h
end MK
