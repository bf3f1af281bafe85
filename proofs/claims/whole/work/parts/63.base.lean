/-! numbers: the generated functions at nI and lN -/
theorem bt_nI (a i : Nat) (hi : i < 32) : bt (nI a) i = a.testBit i := by
  show (BitVec.ofNat 32 a).getLsbD i = a.testBit i
  rw [BitVec.getLsbD_ofNat, decide_eq_true hi, Bool.true_and]
theorem n_sh1 : ∀ k, k < 31 → (1 : Int32) <<< (nI k &&& 31) = nI (2 ^ k) := by decide +kernel
theorem n_shr {a k : Nat} (ha : a < 2 ^ 31) (hk : k < 32) : nI a >>> (nI k &&& 31) = nI (a / 2 ^ k) := pk_shrN ha _ k (s_l k hk)
theorem n_mod2 (a k : Nat) : a / 2 ^ k % 2 = (a.testBit k).toNat := (Nat.toNat_testBit a k).symm
theorem n_and1 (a : Nat) : nI a &&& 1 = nI (a % 2) := by
  have h := fa_mask a 1
  exact h
theorem n_bit {a k : Nat} (ha : a < 2 ^ 31) (hk : k < 32) : (nI a >>> (nI k &&& 31)) &&& 1 = nI (a.testBit k).toNat := by
  rw [n_shr ha hk, n_and1, n_mod2]
theorem n_toNat_1 (b : Bool) : nI b.toNat = 1 ↔ b = true := by cases b <;> decide
theorem n_toNat_0 (b : Bool) : nI b.toNat = 0 ↔ b = false := by cases b <;> decide
def andn (a b : Nat) : Nat := a ^^^ (a &&& b)
theorem andn_bit (a b i : Nat) : (andn a b).testBit i = (a.testBit i && !b.testBit i) := by
  unfold andn
  rw [Nat.testBit_xor, Nat.testBit_and]
  cases a.testBit i <;> cases b.testBit i <;> rfl
theorem n_andn (a b : Nat) : nI a &&& (nI b ^^^ (-1)) = nI (andn a b) := by
  apply b_ext
  intro i hi
  rw [b_and, b_xor, b_m1 i hi, bt_nI _ _ hi, bt_nI _ _ hi, bt_nI _ _ hi, andn_bit, Bool.xor_true]
theorem n_andn2 (a b c : Nat) : (nI a &&& (nI b ^^^ (-1))) &&& (nI c ^^^ (-1)) = nI (andn (andn a b) c) := by rw [n_andn, n_andn]
theorem andn_le (a b : Nat) : andn a b ≤ a := by
  apply Nat.le_of_testBit
  intro i h
  rw [andn_bit] at h
  exact (Bool.and_eq_true_iff.mp h).1
theorem n_shl64 (t : Nat) {k : Nat} (hk : k < 64) : tlshl (lN t) (nI k) = lN (t * 2 ^ k) := wb_shl t hk
theorem n_sh1L {k : Nat} (hk : k < 64) : tlshl 1 (nI k) = lN (2 ^ k) := by
  have h := wb_shl 1 hk
  rw [Nat.one_mul] at h
  exact h
theorem n_ushr64 {t k : Nat} (ht : t < 2 ^ 64) (hk : k < 64) : tlushr (lN t) (nI k) = lN (t / 2 ^ k) := wb_shr ht hk
theorem n_smod : ∀ k, k < 64 → (((nI k).toInt64 &&& 63).toBitVec.smod 64).toNat = k := by decide +kernel
theorem n_sshr64 {t k : Nat} (ht : t < 2 ^ 62) (hk : k < 64) : tlshr (lN t) (nI k) = lN (t / 2 ^ k) := pf_shr (n_smod k hk) ht
theorem n_bitAt {t k : Nat} (ht : t < 2 ^ 64) (hk : k < 64) : f_X7_bitAt (lN t) (nI k) = nI (t.testBit k).toNat := by
  unfold f_X7_bitAt
  have h1 : t / 2 ^ k < 2 ^ 64 := Nat.lt_of_le_of_lt (Nat.div_le_self _ _) ht
  rw [n_ushr64 ht hk, wb_a1 h1, lN_i, n_mod2]
theorem n_at {t k : Nat} (ht : t < 2 ^ 62) (hk : k < 64) : f_X8_at (lN t) (nI k) = nI (t.testBit k).toNat := by
  unfold f_X8_at
  have h1 : t / 2 ^ k < 2 ^ 64 := Nat.lt_of_le_of_lt (Nat.div_le_self _ _) (by omega)
  rw [n_sshr64 ht hk, wb_a1 h1, n_mod2]
  cases t.testBit k <;> decide
theorem n_full (n : Nat) : f_X7_pointCount (nI n) = (1 : Int32) <<< (nI n &&& 31) := rfl
theorem n_pc {n : Nat} (h : n < 31) : f_X7_pointCount (nI n) = nI (2 ^ n) := n_sh1 n h
theorem n_p5 {n : Nat} (h : n ≤ 5) : 2 ^ n ≤ 32 := by
  have : 2 ^ n ≤ 2 ^ 5 := Nat.pow_le_pow_right (by decide) h
  exact this
/-- the points of n variables; the tables -/
def pts (n : Nat) : Nat := 2 ^ n
def tabs (n : Nat) : Nat := 2 ^ 2 ^ n
theorem tabs_le {n : Nat} (h : n ≤ 5) : tabs n ≤ 2 ^ 32 := Nat.pow_le_pow_right (by decide) (n_p5 h)
theorem tabs_pos (n : Nat) : 0 < tabs n := Nat.two_pow_pos _
theorem n_fullT {n : Nat} (h : n ≤ 5) : f_X7_fullTable (nI n) = lN (tabs n - 1) := by
  unfold f_X7_fullTable
  rw [n_pc (by omega), n_sh1L (by have := n_p5 h; omega)]
  exact lN_sub (Nat.two_pow_pos _)
theorem n_allM {n : Nat} (h : n ≤ 5) : f_X8_all (nI (pts n)) = lN (tabs n - 1) := by
  unfold f_X8_all
  rw [n_sh1L (by have := n_p5 h; unfold pts; omega)]
  exact lN_sub (Nat.two_pow_pos _)
/-! arguments -/
theorem n_isIndex1 {j N : Nat} (h : j < N) (hN : N < 2 ^ 31) : f_X7_isIndex (nI j) (nI N) = 1 := by
  unfold f_X7_isIndex
  rw [if_neg (nI_pos (by omega)), if_neg (nI_ge h hN)]
theorem n_isIn1 {j a N : Nat} (h : j ≤ N) (h2 : a ≤ j) (hN : N < 2 ^ 31) : f_X8_isIn (lN j) (lN a) (lN N) = 1 := by
  unfold f_X8_isIn
  rw [if_neg (by rw [lg_cmp_lt, lN_lt (by omega) (by omega)]; omega), if_neg (by rw [lg_cmp_gt, lN_lt (by omega) (by omega)]; omega)]
theorem n_ix (x : Int32) {N : Nat} (h0 : 0 < N) (hN : N < 2 ^ 31) : (f_X7_isIndex x (nI N) = 0 ∧ f_X8_isIn x.toInt64 (lN 0) (lN (N - 1)) = 0) ∨ ∃ j, j < N ∧ x = nI j ∧ f_X7_isIndex x (nI N) = 1 ∧ f_X8_isIn x.toInt64 (lN 0) (lN (N - 1)) = 1 := by
  rcases pk_ix x hN with h | h | ⟨j, hj, rfl⟩
  · refine Or.inl ⟨by unfold f_X7_isIndex; rw [if_pos h], ?_⟩
    unfold f_X8_isIn
    rw [if_pos]
    rw [lg_cmp_lt]
    exact (fa_wide_lt x 0).mpr h
  · refine Or.inl ⟨?_, ?_⟩
    · unfold f_X7_isIndex
      split
      · rfl
      · rfl
    · unfold f_X8_isIn
      split
      · rfl
      · rw [if_pos]
        rw [lg_cmp_gt, ← nI_l (by omega)]
        refine (fa_wide_lt _ x).mpr ?_
        rw [fa_le, nI_toInt hN] at h
        rw [fa_lt, nI_toInt (by omega)]
        omega
  · refine Or.inr ⟨j, hj, rfl, n_isIndex1 hj hN, ?_⟩
    rw [nI_l (by omega)]
    exact n_isIn1 (by omega) (Nat.zero_le j) (by omega)
theorem n_slot (x : Int32) : (f_X7_isSlot x = 0 ∧ f_X8_isSlot x = 0) ∨ ∃ j, j < 8 ∧ x = nI j ∧ f_X7_isSlot x = 1 ∧ f_X8_isSlot x = 1 := n_ix x (N := 8) (by decide) (by decide)
theorem n_array (x : Int32) : (f_X7_isIndex x 4 = 0 ∧ f_X8_isArray x = 0) ∨ ∃ j, j < 4 ∧ x = nI j ∧ f_X7_isIndex x 4 = 1 ∧ f_X8_isArray x = 1 := n_ix x (N := 4) (by decide) (by decide)
theorem n_point (x : Int32) {n : Nat} (h : n ≤ 5) : (f_X7_isPoint x (nI n) = 0 ∧ f_X8_isPoint x (nI (pts n)) = 0) ∨ ∃ j, j < pts n ∧ x = nI j ∧ f_X7_isPoint x (nI n) = 1 ∧ f_X8_isPoint x (nI (pts n)) = 1 := by
  have h2 := n_p5 h
  have h3 : 0 < pts n := Nat.two_pow_pos n
  have e : (nI (pts n) - 1).toInt64 = lN (pts n - 1) := by
    have : nI (pts n) - 1 = nI (pts n - 1) := pk_sub (b := 1) h3
    rw [this, nI_l (by unfold pts; omega)]
  have := n_ix x (N := pts n) h3 (by unfold pts; omega)
  unfold f_X7_isPoint f_X8_isPoint
  rw [e, n_pc (by omega)]
  exact this
theorem n_var (x : Int32) {n : Nat} (h0 : 0 < n) (h : n ≤ 5) : (f_X7_isVariable x (nI n) = 0 ∧ f_X8_isVariable x (nI n) = 0) ∨ ∃ j, j < n ∧ x = nI j ∧ f_X7_isVariable x (nI n) = 1 ∧ f_X8_isVariable x (nI n) = 1 := by
  have e : (nI n - 1).toInt64 = lN (n - 1) := by
    have : nI n - 1 = nI (n - 1) := pk_sub (b := 1) h0
    rw [this, nI_l (by omega)]
  have := n_ix x (N := n) h0 (by omega)
  unfold f_X7_isVariable f_X8_isVariable
  rw [e]
  exact this
theorem n_bit01 (x : Int32) : (f_X7_isBit x = 0 ∧ f_X8_isIn x.toInt64 0 1 = 0) ∨ ∃ j, j < 2 ∧ x = nI j ∧ f_X7_isBit x = 1 ∧ f_X8_isIn x.toInt64 0 1 = 1 := by
  rcases n_ix x (N := 2) (by decide) (by decide) with ⟨h1, h2⟩ | ⟨j, hj, rfl, h1, h2⟩
  · refine Or.inl ⟨?_, h2⟩
    unfold f_X7_isBit
    split
    · next h => subst h; exact absurd h1 (by decide)
    · split
      · next h => subst h; exact absurd h1 (by decide)
      · rfl
  · refine Or.inr ⟨j, hj, rfl, ?_, h2⟩
    match j, hj with
    | 0, _ => decide
    | 1, _ => decide
