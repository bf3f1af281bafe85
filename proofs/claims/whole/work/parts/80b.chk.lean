/-! every graph of five vertices is tried (kernel) -/
theorem t_gl0 : gl0.all chkM = true := by decide +kernel
theorem t_gl1 : gl1.all chkM = true := by decide +kernel
theorem t_gl2 : gl2.all chkM = true := by decide +kernel
theorem t_gl3 : gl3.all chkM = true := by decide +kernel
theorem t_gl4 : gl4.all chkM = true := by decide +kernel
theorem t_gl5 : gl5.all chkM = true := by decide +kernel
theorem t_gl6 : gl6.all chkM = true := by decide +kernel
theorem t_gl7 : gl7.all chkM = true := by decide +kernel
theorem t_gl8 : gl8.all chkM = true := by decide +kernel
theorem t_gl9 : gl9.all chkM = true := by decide +kernel
theorem t_gl10 : gl10.all chkM = true := by decide +kernel
theorem t_gl11 : gl11.all chkM = true := by decide +kernel
theorem t_gl12 : gl12.all chkM = true := by decide +kernel
theorem t_gl13 : gl13.all chkM = true := by decide +kernel
theorem t_gl14 : gl14.all chkM = true := by decide +kernel
theorem t_gl15 : gl15.all chkM = true := by decide +kernel
def GLA : List (List Nat) := [gl0, gl1, gl2, gl3, gl4, gl5, gl6, gl7, gl8, gl9, gl10, gl11, gl12, gl13, gl14, gl15]
theorem t_GLA : ∀ L ∈ GLA, L.all chkM = true := by
  intro L hL
  simp only [GLA, List.mem_cons, List.not_mem_nil, or_false] at hL
  rcases hL with rfl | rfl | rfl | rfl | rfl | rfl | rfl | rfl | rfl | rfl | rfl | rfl | rfl | rfl | rfl | rfl
  · exact t_gl0
  · exact t_gl1
  · exact t_gl2
  · exact t_gl3
  · exact t_gl4
  · exact t_gl5
  · exact t_gl6
  · exact t_gl7
  · exact t_gl8
  · exact t_gl9
  · exact t_gl10
  · exact t_gl11
  · exact t_gl12
  · exact t_gl13
  · exact t_gl14
  · exact t_gl15
def pkA (A : Nat → Nat) : Nat := A 0 + 32 * A 1 + 1024 * A 2 + 32768 * A 3 + 1048576 * A 4
theorem t_rows : ∀ g, g < 1024 → ((GLA[g / 64]?.getD []).contains (pkA (adjG g))) = true := by decide +kernel
