/-! ===== the law: what its steps are, and the makers' worlds put together ===== -/
def bz (a : Int32) : Int32 := if a = 0 then 0 else 1
theorem PR.join {E : Ev} (hE : ∀ k, E.2.1 k = E.2.1 0 + k) {lo n n1 : Nat} {w w1 : Wd} {s : State} {H H2 : Heap} (hP : PR E lo n w s H) (ho : ∀ q : Nat, q < E.2.1 n → H2[q]? = H[q]?) (hR : PR E n n1 w1 s H2) : PR E lo n1 (mixW n n1 w w1) s H2 := by
  obtain ⟨h1, h2, h4, h5⟩ := hP
  refine ⟨hR.1, fun k q1 q2 => ?_, h4, h5.kept fun a q1 _ => ho a (by rw [← h1]; exact q1)⟩
  by_cases q : k < n
  · have e1 : (mixW n n1 w w1).1 k = w.1 k := if_pos q
    have e2 : (mixW n n1 w w1).2 k = w.2 k := if_pos q
    rw [e1, e2]
    exact (h2 k q1 q).kept (ho _ (hE_lt hE q))
  · have e1 : (mixW n n1 w w1).1 k = w1.1 k := (if_neg q).trans (if_pos q2)
    have e2 : (mixW n n1 w w1).2 k = w1.2 k := (if_neg q).trans (if_pos q2)
    rw [e1, e2]
    exact hR.2.1 k (by omega) q2
theorem full_eq : (fun k => 0 ≤ k ∧ k < 122) = full := funext fun k => propext ⟨fun h => h.2, fun h => ⟨Nat.zero_le _, h⟩⟩
theorem arrC {s : State} {args : Array Value} {ty : FieldType} (h : (Cond.arrayClass ty).before args s = true) : ∃ cA, s.vm.findClass ("[" ++ ty.toString) = some cA ∧ ArrOfT s cA ty := by
  unfold Cond.before Cond.holds at h
  simp only [Cond.value] at h
  cases hf : s.vm.findClass ("[" ++ ty.toString) with
  | none => rw [hf] at h; simp at h
  | some cA =>
    rw [hf] at h
    simp only [Option.bind_some] at h
    cases hk : s.vm.classes[cA]? with
    | none => rw [hk] at h; simp at h
    | some k =>
      rw [hk] at h
      simp only [Option.map_some] at h
      cases hkd : k.kind with
      | array comp t =>
        rw [hkd] at h
        have ht : t = ty := by simpa using h
        subst ht
        exact ⟨cA, rfl, fun n z => ⟨fun k h => (by cases h), k, hk, comp, hkd⟩⟩
      | _ => rw [hkd] at h; simp at h
theorem arrO {s : State} {args : Array Value} {ty : FieldType} (h : (Cond.arrayOver (.array ty)).before args s = true) : ∃ cA, s.vm.findClass ("[" ++ (FieldType.array ty).toString) = some cA ∧ ArrOfT s cA (.array ty) := by
  simp only [Cond.before, Cond.holds, Cond.value] at h
  cases hf : s.vm.findClass (FieldType.array ty).toString with
  | none => rw [hf] at h; simp at h
  | some comp =>
    rw [hf] at h
    simp only [Option.bind_some] at h
    generalize hF : (s.vm.classes.findIdx? fun (x : Class) => match x.kind with | .array component _ => component == comp | _ => false) = fi at h
    cases fi with
    | none => simp at h
    | some c =>
      simp only [Option.bind_some] at h
      cases hk : s.vm.classes[c]? with
      | none => rw [hk] at h; simp at h
      | some k =>
        rw [hk] at h
        simp only [Option.map_some] at h
        cases hkd : k.kind with
        | array comp' t =>
          rw [hkd] at h
          have ht : t = .array ty ∧ s.vm.findClass ("[" ++ (FieldType.array ty).toString) = some c := by simpa using h
          obtain ⟨rfl, h2⟩ := ht
          exact ⟨c, h2, fun n z => ⟨fun k h => (by cases h), k, hk, comp', hkd⟩⟩
        | _ => rw [hkd] at h; simp at h
noncomputable def st0 (a b d : Int32) (w : Wd) : Option Wd := bnd (fX8_ground a b w) fun x w1 => bnd (fX9_ground a b w1) fun y w2 => if x = y then some w2 else none
noncomputable def st1 (a b d : Int32) (w : Wd) : Option Wd := bnd (fX8_set a b d w) fun x w1 => bnd (fX9_set a b d w1) fun y w2 => if x = y then some w2 else none
noncomputable def st2 (a b d : Int32) (w : Wd) : Option Wd := bnd (fX8_height a b w) fun x w1 => bnd (fX9_height a b w1) fun y w2 => if x = y then some w2 else none
noncomputable def st3 (a b d : Int32) (w : Wd) : Option Wd := bnd (fX8_copy a b w) fun x w1 => bnd (fX9_copy a b w1) fun y w2 => if x = y then some w2 else none
noncomputable def st4 (a b d : Int32) (w : Wd) : Option Wd := bnd (fX8_cubes a w) fun x w1 => bnd (fX9_cubes a w1) fun y w2 => if x = y then some w2 else none
noncomputable def st5 (a b d : Int32) (w : Wd) : Option Wd := bnd (fX8_front a b w) fun x w1 => bnd (fX9_front a b w1) fun y w2 => if x = y then some w2 else none
noncomputable def st6 (a b d : Int32) (w : Wd) : Option Wd := bnd (fX8_side a b w) fun x w1 => bnd (fX9_side a b w1) fun y w2 => if x = y then some w2 else none
noncomputable def st7 (a b d : Int32) (w : Wd) : Option Wd := bnd (fX8_sum a (bz b) d w) fun x w1 => bnd (fX9_sum a (bz b) d w1) fun y w2 => if x = y then some w2 else none
noncomputable def st8 (a b d : Int32) (w : Wd) : Option Wd := bnd (fX8_seen a b d w) fun x w1 => bnd (fX9_seen a b d w1) fun y w2 => if x = y then some w2 else none
noncomputable def st9 (a b d : Int32) (w : Wd) : Option Wd := bnd (fX8_skin a w) fun x w1 => bnd (fX9_skin a w1) fun y w2 => if x = y then some w2 else none
noncomputable def st10 (a b d : Int32) (w : Wd) : Option Wd := bnd (fX8_layer a b (bz d) w) fun x w1 => bnd (fX9_layer a b (bz d) w1) fun y w2 => if x = y then some w2 else none
noncomputable def st11 (a b d : Int32) (w : Wd) : Option Wd := bnd (fX8_water a w) fun x w1 => bnd (fX9_water a w1) fun y w2 => if x = y then some w2 else none
noncomputable def st12 (a b d : Int32) (w : Wd) : Option Wd := bnd (fX8_level a b w) fun x w1 => bnd (fX9_level a b w1) fun y w2 => if x = y then some w2 else none
noncomputable def st13 (a b d : Int32) (w : Wd) : Option Wd := bnd (fX8_tell (bz a) b d w) fun x w1 => bnd (fX9_tell (bz a) b d w1) fun y w2 => if x = y then some w2 else none
noncomputable def st14 (a b d : Int32) (w : Wd) : Option Wd := bnd (fX8_tellTop a b w) fun x w1 => bnd (fX9_tellTop a b w1) fun y w2 => if x = y then some w2 else none
noncomputable def st15 (a b d : Int32) (w : Wd) : Option Wd := bnd (fX8_tellAs a (bz b) w) fun x w1 => bnd (fX9_tellAs a (bz b) w1) fun y w2 => if x = y then some w2 else none
noncomputable def st16 (a b d : Int32) (w : Wd) : Option Wd := bnd (fX8_fits a w) fun x w1 => bnd (fX9_fits a w1) fun y w2 => if x = y then some w2 else none
noncomputable def st17 (a b d : Int32) (w : Wd) : Option Wd := bnd (fX8_heaps w) fun x w1 => bnd (fX9_heaps w1) fun y w2 => if x = y then some w2 else none
noncomputable def st18 (a b d : Int32) (w : Wd) : Option Wd := bnd (fX8_with a b w) fun x w1 => bnd (fX9_with a b w1) fun y w2 => if x = y then some w2 else none
noncomputable def st19 (a b d : Int32) (w : Wd) : Option Wd := bnd (fX8_span a (bz b) w) fun x w1 => bnd (fX9_span a (bz b) w1) fun y w2 => if x = y then some w2 else none
noncomputable def st20 (a b d : Int32) (w : Wd) : Option Wd := bnd (fX8_count (bz a) w) fun x w1 => bnd (fX9_count (bz a) w1) fun y w2 => if x = y then some w2 else none
noncomputable def st21 (a b d : Int32) (w : Wd) : Option Wd := bnd (fX8_lay a (((b.toInt64) <<< ((32 : Int32).toInt64 &&& 63)) ||| ((d.toInt64) &&& (4294967295 : Int64))) w) fun x w1 => bnd (fX9_lay a (((b.toInt64) <<< ((32 : Int32).toInt64 &&& 63)) ||| ((d.toInt64) &&& (4294967295 : Int64))) w1) fun y w2 => if x = y then some w2 else none
noncomputable def st22 (a b d : Int32) (w : Wd) : Option Wd := bnd (fX8_place a w) fun x w1 => bnd (fX9_place a w1) fun y w2 => if x = y then some w2 else none
noncomputable def st23 (a b d : Int32) (w : Wd) : Option Wd := bnd (fX8_tellSum (bz a) b d w) fun x w1 => bnd (fX9_tellSum (bz a) b d w1) fun y w2 => if x = y then some w2 else none
noncomputable def st24 (a b d : Int32) (w : Wd) : Option Wd := bnd (fX8_sumsAs a w) fun x w1 => bnd (fX9_sumsAs a w1) fun y w2 => if x = y then some w2 else none
noncomputable def st25 (a b d : Int32) (w : Wd) : Option Wd := bnd (fX8_bySums w) fun x w1 => bnd (fX9_bySums w1) fun y w2 => if x = y then some w2 else none
noncomputable def st26 (a b d : Int32) (w : Wd) : Option Wd := bnd (fX8_laySums a w) fun x w1 => bnd (fX9_laySums a w1) fun y w2 => if x = y then some w2 else none
noncomputable def st27 (a b d : Int32) (w : Wd) : Option Wd := bnd (fX8_spanSums a (bz b) w) fun x w1 => bnd (fX9_spanSums a (bz b) w1) fun y w2 => if x = y then some w2 else none
noncomputable def st28 (a b d : Int32) (w : Wd) : Option Wd := bnd (fX8_carry a b w) fun x w1 => bnd (fX9_carry a b w1) fun y w2 => if x = y then some w2 else none
noncomputable def st29 (a b d : Int32) (w : Wd) : Option Wd := bnd (fX8_turn a b w) fun x w1 => bnd (fX9_turn a b w1) fun y w2 => if x = y then some w2 else none
noncomputable def st30 (a b d : Int32) (w : Wd) : Option Wd := bnd (fX8_alike a b w) fun x w1 => bnd (fX9_alike a b w1) fun y w2 => if x = y then some w2 else none
noncomputable def st31 (a b d : Int32) (w : Wd) : Option Wd := bnd (fX8_same a w) fun x w1 => bnd (fX9_same a w1) fun y w2 => if x = y then some w2 else none
noncomputable def st32 (a b d : Int32) (w : Wd) : Option Wd := bnd (fX8_least a w) fun x w1 => bnd (fX9_least a w1) fun y w2 => if x = y then some w2 else none
noncomputable def st33 (a b d : Int32) (w : Wd) : Option Wd := bnd (fX8_about a w) fun x w1 => bnd (fX9_about a w1) fun y w2 => if x = y then some w2 else none
noncomputable def stepL (c a b d : Int32) (w : Wd) : Option Wd := if c = 0 then st0 a b d w else if c = 1 then st1 a b d w else if c = 2 then st2 a b d w else if c = 3 then st3 a b d w else if c = 4 then st4 a b d w else if c = 5 then st5 a b d w else if c = 6 then st6 a b d w else if c = 7 then st7 a b d w else if c = 8 then st8 a b d w else if c = 9 then st9 a b d w else if c = 10 then st10 a b d w else if c = 11 then st11 a b d w else if c = 12 then st12 a b d w else if c = 13 then st13 a b d w else if c = 14 then st14 a b d w else if c = 15 then st15 a b d w else if c = 16 then st16 a b d w else if c = 17 then st17 a b d w else if c = 18 then st18 a b d w else if c = 19 then st19 a b d w else if c = 20 then st20 a b d w else if c = 21 then st21 a b d w else if c = 22 then st22 a b d w else if c = 23 then st23 a b d w else if c = 24 then st24 a b d w else if c = 25 then st25 a b d w else if c = 26 then st26 a b d w else if c = 27 then st27 a b d w else if c = 28 then st28 a b d w else if c = 29 then st29 a b d w else if c = 30 then st30 a b d w else if c = 31 then st31 a b d w else if c = 32 then st32 a b d w else if c = 33 then st33 a b d w else some w
