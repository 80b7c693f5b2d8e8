theorem z_86_0 : ((List.range 125).all fun s => decide (mC0 86 (0 + s) = 0)) = true := by decide +kernel
theorem z_86_1 : ((List.range 125).all fun s => decide (mC0 86 (125 + s) = 0)) = true := by decide +kernel
theorem z_86_2 : ((List.range 125).all fun s => decide (mC0 86 (250 + s) = 0)) = true := by decide +kernel
theorem z_86_3 : ((List.range 125).all fun s => decide (mC0 86 (375 + s) = 0)) = true := by decide +kernel
theorem z_86_4 : ((List.range 125).all fun s => decide (mC0 86 (500 + s) = 0)) = true := by decide +kernel
theorem z_90_0 : ((List.range 125).all fun s => decide (mC0 90 (0 + s) = 0)) = true := by decide +kernel
theorem z_90_1 : ((List.range 125).all fun s => decide (mC0 90 (125 + s) = 0)) = true := by decide +kernel
theorem z_90_2 : ((List.range 125).all fun s => decide (mC0 90 (250 + s) = 0)) = true := by decide +kernel
theorem z_90_3 : ((List.range 125).all fun s => decide (mC0 90 (375 + s) = 0)) = true := by decide +kernel
theorem z_90_4 : ((List.range 125).all fun s => decide (mC0 90 (500 + s) = 0)) = true := by decide +kernel
theorem z_95_0 : ((List.range 125).all fun s => decide (mC0 95 (0 + s) = 0)) = true := by decide +kernel
theorem z_95_1 : ((List.range 125).all fun s => decide (mC0 95 (125 + s) = 0)) = true := by decide +kernel
theorem z_95_2 : ((List.range 125).all fun s => decide (mC0 95 (250 + s) = 0)) = true := by decide +kernel
theorem z_95_3 : ((List.range 125).all fun s => decide (mC0 95 (375 + s) = 0)) = true := by decide +kernel
theorem z_95_4 : ((List.range 125).all fun s => decide (mC0 95 (500 + s) = 0)) = true := by decide +kernel
theorem z_99_0 : ((List.range 125).all fun s => decide (mC0 99 (0 + s) = 0)) = true := by decide +kernel
theorem z_99_1 : ((List.range 125).all fun s => decide (mC0 99 (125 + s) = 0)) = true := by decide +kernel
theorem z_99_2 : ((List.range 125).all fun s => decide (mC0 99 (250 + s) = 0)) = true := by decide +kernel
theorem z_99_3 : ((List.range 125).all fun s => decide (mC0 99 (375 + s) = 0)) = true := by decide +kernel
theorem z_99_4 : ((List.range 125).all fun s => decide (mC0 99 (500 + s) = 0)) = true := by decide +kernel
theorem z_103_0 : ((List.range 125).all fun s => decide (mC0 103 (0 + s) = 0)) = true := by decide +kernel
theorem z_103_1 : ((List.range 125).all fun s => decide (mC0 103 (125 + s) = 0)) = true := by decide +kernel
theorem z_103_2 : ((List.range 125).all fun s => decide (mC0 103 (250 + s) = 0)) = true := by decide +kernel
theorem z_103_3 : ((List.range 125).all fun s => decide (mC0 103 (375 + s) = 0)) = true := by decide +kernel
theorem z_103_4 : ((List.range 125).all fun s => decide (mC0 103 (500 + s) = 0)) = true := by decide +kernel
theorem z_107_0 : ((List.range 125).all fun s => decide (mC0 107 (0 + s) = 0)) = true := by decide +kernel
theorem z_107_1 : ((List.range 125).all fun s => decide (mC0 107 (125 + s) = 0)) = true := by decide +kernel
theorem z_107_2 : ((List.range 125).all fun s => decide (mC0 107 (250 + s) = 0)) = true := by decide +kernel
theorem z_107_3 : ((List.range 125).all fun s => decide (mC0 107 (375 + s) = 0)) = true := by decide +kernel
theorem z_107_4 : ((List.range 125).all fun s => decide (mC0 107 (500 + s) = 0)) = true := by decide +kernel
theorem z_111_0 : ((List.range 125).all fun s => decide (mC0 111 (0 + s) = 0)) = true := by decide +kernel
theorem z_111_1 : ((List.range 125).all fun s => decide (mC0 111 (125 + s) = 0)) = true := by decide +kernel
theorem z_111_2 : ((List.range 125).all fun s => decide (mC0 111 (250 + s) = 0)) = true := by decide +kernel
theorem z_111_3 : ((List.range 125).all fun s => decide (mC0 111 (375 + s) = 0)) = true := by decide +kernel
theorem z_111_4 : ((List.range 125).all fun s => decide (mC0 111 (500 + s) = 0)) = true := by decide +kernel
theorem z_of {a : Nat} (h0 : ((List.range 125).all fun s => decide (mC0 a (0 + s) = 0)) = true) (h1 : ((List.range 125).all fun s => decide (mC0 a (125 + s) = 0)) = true) (h2 : ((List.range 125).all fun s => decide (mC0 a (250 + s) = 0)) = true) (h3 : ((List.range 125).all fun s => decide (mC0 a (375 + s) = 0)) = true) (h4 : ((List.range 125).all fun s => decide (mC0 a (500 + s) = 0)) = true) : ∀ s, s < 625 → mC0 a s = 0 := by
  intro s hs
  have key : ∀ b : Nat, ((List.range 125).all fun s => decide (mC0 a (b + s) = 0)) = true → b ≤ s → s < b + 125 → mC0 a s = 0 := fun b h h5 h6 => by
    have h7 := List.all_eq_true.mp h (s - b) (List.mem_range.mpr (by omega))
    simp only [decide_eq_true_eq] at h7
    rwa [show b + (s - b) = s by omega] at h7
  rcases (show s < 125 ∨ (125 ≤ s ∧ s < 250) ∨ (250 ≤ s ∧ s < 375) ∨ (375 ≤ s ∧ s < 500) ∨ 500 ≤ s by omega) with h | h | h | h | h
  · exact key 0 h0 (by omega) (by omega)
  · exact key 125 h1 (by omega) (by omega)
  · exact key 250 h2 (by omega) (by omega)
  · exact key 375 h3 (by omega) (by omega)
  · exact key 500 h4 (by omega) (by omega)
theorem z4_C : ∀ r ∈ rrL, ∀ s, s < 625 → mC0 (r + 3) s = 0 := by
  intro r hr
  simp only [rrL, List.mem_cons, List.not_mem_nil, or_false] at hr
  rcases hr with rfl | rfl | rfl | rfl | rfl | rfl | rfl
  · exact z_of z_86_0 z_86_1 z_86_2 z_86_3 z_86_4
  · exact z_of z_90_0 z_90_1 z_90_2 z_90_3 z_90_4
  · exact z_of z_95_0 z_95_1 z_95_2 z_95_3 z_95_4
  · exact z_of z_99_0 z_99_1 z_99_2 z_99_3 z_99_4
  · exact z_of z_103_0 z_103_1 z_103_2 z_103_3 z_103_4
  · exact z_of z_107_0 z_107_1 z_107_2 z_107_3 z_107_4
  · exact z_of z_111_0 z_111_1 z_111_2 z_111_3 z_111_4
