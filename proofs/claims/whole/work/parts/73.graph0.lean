/-! graphs of five vertices, by ten bits -/
theorem tabN_bit (b : Nat → Bool) : ∀ k i, (tabN b k).testBit i = (decide (i < k) && b i)
  | 0, i => by rw [show tabN b 0 = 0 from rfl, Nat.zero_testBit]; rfl
  | k + 1, i => by
    rw [tabN, Nat.testBit_or, tabN_bit b k i]
    have h2 : ((b k).toNat * 2 ^ k).testBit i = (decide (i = k) && b k) := by
      cases b k
      · rw [Bool.toNat_false, Nat.zero_mul, Nat.zero_testBit, Bool.and_false]
      · rw [Bool.toNat_true, Nat.one_mul, Nat.testBit_two_pow, Bool.and_true]
        by_cases h : k = i
        · subst h; simp
        · simp [h]; omega
    rw [h2]
    by_cases h : i = k
    · subst h; simp
    · by_cases h3 : i < k
      · rw [decide_eq_true h3, decide_eq_false h, decide_eq_true (by omega : i < k + 1)]; simp
      · rw [decide_eq_false h3, decide_eq_false h, decide_eq_false (by omega : ¬ i < k + 1)]; simp
/-- the place of an edge -/
def eIx (u v : Nat) : Nat := match u, v with
  | 0, 1 => 0 | 1, 0 => 0 | 0, 2 => 1 | 2, 0 => 1 | 0, 3 => 2 | 3, 0 => 2 | 0, 4 => 3 | 4, 0 => 3
  | 1, 2 => 4 | 2, 1 => 4 | 1, 3 => 5 | 3, 1 => 5 | 1, 4 => 6 | 4, 1 => 6 | 2, 3 => 7 | 3, 2 => 7 | 2, 4 => 8 | 4, 2 => 8
  | 3, 4 => 9 | 4, 3 => 9 | _, _ => 10
def adjG (g v : Nat) : Nat := tabN (fun i => g.testBit (eIx v i)) 5
def adjL (A : Nat → Nat) : List Int32 := [nI (A 0), nI (A 1), nI (A 2), nI (A 3), nI (A 4)]
