/-! ===== every step keeps the picture ===== -/
theorem all_steps (t : Nat) (o x y z : Int32) (w : Wd) (ht : t < 512) (hg : Good FTc t w) : ∃ w', stepL o x y z w = some w' ∧ Good FTc (t + 1) w' := by
  unfold stepL
  by_cases c0 : o = 0
  · rw [if_pos c0]; exact g0 FTkc hg x y z
  rw [if_neg c0]
  by_cases c1 : o = 1
  · rw [if_pos c1]; exact g1 FTkc hg x y z
  rw [if_neg c1]
  by_cases c2 : o = 2
  · rw [if_pos c2]; exact g2 FTkc hg x y z
  rw [if_neg c2]
  by_cases c3 : o = 3
  · rw [if_pos c3]; exact g3 FTkc hg x y z
  rw [if_neg c3]
  by_cases c4 : o = 4
  · rw [if_pos c4]; exact g4 FTkc hg x y z
  rw [if_neg c4]
  by_cases c5 : o = 5
  · rw [if_pos c5]; exact g5 FTkc hg x y z
  rw [if_neg c5]
  by_cases c6 : o = 6
  · rw [if_pos c6]; exact g6 FTkc hg x y z
  rw [if_neg c6]
  by_cases c7 : o = 7
  · rw [if_pos c7]; exact g7 FTkc hg x y z
  rw [if_neg c7]
  by_cases c8 : o = 8
  · rw [if_pos c8]; exact g8 FTkc hg x y z
  rw [if_neg c8]
  by_cases c9 : o = 9
  · rw [if_pos c9]; exact g9 FTkc hg x y z
  rw [if_neg c9]
  by_cases c10 : o = 10
  · rw [if_pos c10]; exact g10 FTkc hg x y z
  rw [if_neg c10]
  by_cases c11 : o = 11
  · rw [if_pos c11]; exact g11 FTkc hg x y z
  rw [if_neg c11]
  by_cases c12 : o = 12
  · rw [if_pos c12]; exact g12 FTkc hg x y z
  rw [if_neg c12]
  by_cases c13 : o = 13
  · rw [if_pos c13]; exact g13 FTkc hg x y z
  rw [if_neg c13]
  by_cases c14 : o = 14
  · rw [if_pos c14]; exact g14 FTkc hg x y z
  rw [if_neg c14]
  by_cases c15 : o = 15
  · rw [if_pos c15]; exact g15 FTkc hg x y z
  rw [if_neg c15]
  by_cases c16 : o = 16
  · rw [if_pos c16]; exact g16 FTkc hg x y z
  rw [if_neg c16]
  by_cases c17 : o = 17
  · rw [if_pos c17]; exact g17 ht hg x y z
  rw [if_neg c17]
  by_cases c18 : o = 18
  · rw [if_pos c18]; exact g18 ht hg x y z
  rw [if_neg c18]
  by_cases c19 : o = 19
  · rw [if_pos c19]; exact g19 ht hg x y z
  rw [if_neg c19]
  by_cases c20 : o = 20
  · rw [if_pos c20]; exact g20 ht hg x y z
  rw [if_neg c20]
  by_cases c21 : o = 21
  · rw [if_pos c21]; exact g21 ht hg x y z
  rw [if_neg c21]
  by_cases c22 : o = 22
  · rw [if_pos c22]; exact g22 ht hg x y z
  rw [if_neg c22]
  by_cases c23 : o = 23
  · rw [if_pos c23]; exact g23 FTkc hg x y z
  rw [if_neg c23]
  by_cases c24 : o = 24
  · rw [if_pos c24]; exact g24 FTkc hg x y z
  rw [if_neg c24]
  by_cases c25 : o = 25
  · rw [if_pos c25]; exact g25 FTkc hg x y z
  rw [if_neg c25]
  by_cases c26 : o = 26
  · rw [if_pos c26]; exact g26 FTkc hg x y z
  rw [if_neg c26]
  by_cases c27 : o = 27
  · rw [if_pos c27]; exact g27 FTkc hg x y z
  rw [if_neg c27]
  by_cases c28 : o = 28
  · rw [if_pos c28]; exact g28 FTkc hg x y z
  rw [if_neg c28]
  by_cases c29 : o = 29
  · rw [if_pos c29]; exact g29 FTkc hg x y z
  rw [if_neg c29]
  by_cases c30 : o = 30
  · rw [if_pos c30]; exact g30 FTkc hg x y z
  rw [if_neg c30]
  by_cases c31 : o = 31
  · rw [if_pos c31]; exact g31 FTkc hg x y z
  rw [if_neg c31]
  by_cases c32 : o = 32
  · rw [if_pos c32]; exact g32 FTkc hg x y z
  rw [if_neg c32]
  by_cases c33 : o = 33
  · rw [if_pos c33]; exact g33 FTkc hg x y z
  rw [if_neg c33]
  obtain ⟨a, ha, hc, hm, hv⟩ := hg
  exact ⟨w, rfl, Good.same FTkc ha hc hm hv Kp.rf Kp.rf⟩
