theorem ne10 {a : Int32} (h : a = 1) : ¬ a = 0 := by rw [h]; decide
theorem z_m1 : ¬ (-1 : Int32) = 0 := by decide
theorem z_m2 : ¬ (-2 : Int32) = 0 := by decide
theorem z_m3 : ¬ (-3 : Int32) = 0 := by decide
theorem z_m4 : ¬ (-4 : Int32) = 0 := by decide
theorem z_1 : ¬ (1 : Int32) = 0 := by decide
/-- a slot: out of range, empty, or with a table -/
theorem X_slot3 {n : Nat} {sl : List (Option Nat)} {s_f m_t : List Int64} {m_f : List Int32} (hn : n ≤ 5) (h : rS n sl s_f m_t m_f) (x : Int32) :
    (f_X7_isSlot x = 0 ∧ f_X8_isSlot x = 0 ∧ f_X7_slotError x s_f = some (-2) ∧ f_X8_wrong x m_f = some (-2)) ∨
    (∃ j : Nat, j < 8 ∧ x = nI j ∧ sl[j]? = some none ∧ f_X7_isSlot x = 1 ∧ f_X8_isSlot x = 1 ∧ f_X7_slotError x s_f = some (-3) ∧ f_X8_wrong x m_f = some (-3) ∧ tld s_f x = some (-1) ∧ tld m_f x = some 0 ∧ f_X6_holds x s_f = some 0) ∨
    (∃ j t : Nat, j < 8 ∧ x = nI j ∧ sl[j]? = some (some t) ∧ f_X7_isSlot x = 1 ∧ f_X8_isSlot x = 1 ∧ f_X7_slotError x s_f = some 0 ∧ f_X8_wrong x m_f = some 0 ∧ tld s_f x = some (lN t) ∧ tld m_f x = some 1 ∧ f_X6_holds x s_f = some 1 ∧ t < tabs n ∧ tld m_t x = some (lN t)) := by
  rcases X_slotError hn h x with ⟨a1, a2, a3, a4⟩ | ⟨j, o, hj, rfl, ho, a3, a4, a1, a2⟩
  · exact Or.inl ⟨a4, a3, a1, a2⟩
  · obtain ⟨o', b1, b2, b3⟩ := h.ld hj
    rw [ho] at b1; cases b1
    cases o with
    | none => exact Or.inr (Or.inl ⟨j, hj, rfl, ho, a3, a4, a1, a2, b2, b3, X_holds hn h hj ho⟩)
    | some t => exact Or.inr (Or.inr ⟨j, t, hj, rfl, ho, a3, a4, a1, a2, b2, b3, X_holds hn h hj ho, h.2.1 j t ho, h.ldt ho⟩)
