/-! counting bits -/
theorem and_byte {b r k m : Nat} (hb : b < 256) (hk : k < 256) : (b + 256 * r) &&& (k + 256 * m) = (b &&& k) + 256 * (r &&& m) := by
  have h1 := Nat.and_mod_two_pow (a := b + 256 * r) (b := k + 256 * m) (n := 8)
  have h2 := Nat.and_div_two_pow (a := b + 256 * r) (b := k + 256 * m) (n := 8)
  rw [show (2 : Nat) ^ 8 = 256 from rfl] at h1 h2
  rw [show (b + 256 * r) % 256 = b from by omega, show (k + 256 * m) % 256 = k from by omega] at h1
  rw [show (b + 256 * r) / 256 = r from by omega, show (k + 256 * m) / 256 = m from by omega] at h2
  omega
def by4 (a b c d : Nat) : Nat := a + 256 * (b + 256 * (c + 256 * d))
theorem and_by4 {a b c d k M M1 M2 M3 M4 : Nat} (ha : a < 256) (hb : b < 256) (hc : c < 256) (hd : d < 256) (hk : k < 256) (e : M = k + 256 * M1) (e1 : M1 = k + 256 * M2) (e2 : M2 = k + 256 * M3) (e3 : M3 = k + 256 * M4) : by4 a b c d &&& M = by4 (a &&& k) (b &&& k) (c &&& k) (d &&& k) := by
  unfold by4
  rw [e, and_byte ha hk, e1, and_byte hb hk, e2, and_byte hc hk, e3]
  have h := and_byte (r := 0) (m := M4) hd hk
  rw [Nat.mul_zero, Nat.add_zero, Nat.zero_and, Nat.mul_zero, Nat.add_zero] at h
  rw [h]
theorem by4_lt {a b c d : Nat} (ha : a < 256) (hb : b < 256) (hc : c < 256) (hd : d < 256) : by4 a b c d < 2 ^ 32 := by unfold by4; omega
def B1 (a : Nat) : Nat := a - ((a / 2) &&& 85)
def B2 (a : Nat) : Nat := (B1 a &&& 51) + ((B1 a / 4) &&& 51)
def B3 (a : Nat) : Nat := (B2 a + B2 a / 16) &&& 15
def pop8 (a : Nat) : Nat := fb_ct (fun k => a.testBit k) 8
theorem B_f1 : ∀ a, a < 256 → ∀ e, e < 2 → (a / 2 + 128 * e) &&& 85 = (a / 2) &&& 85 := by decide +kernel
theorem B_f2 : ∀ a, a < 256 → (a / 2) &&& 85 ≤ a ∧ B1 a < 256 := by decide +kernel
theorem B_f3 : ∀ a, a < 256 → ∀ e, e < 4 → (B1 a / 4 + 64 * e) &&& 51 = (B1 a / 4) &&& 51 := by decide +kernel
theorem B_f4 : ∀ a, a < 256 → B2 a ≤ 68 ∧ B2 a % 16 ≤ 4 := by decide +kernel
theorem B_f5 : ∀ a, a < 256 → ∀ e, e < 5 → (B2 a + B2 a / 16 + 16 * e) &&& 15 = B3 a := by decide +kernel
theorem B_f6 : ∀ a, a < 256 → B3 a = pop8 a ∧ B3 a ≤ 8 := by decide +kernel
def b1L (x : Int64) : Int64 := x - ((tlushr x 1) &&& 6148914691236517205)
def b2L (x : Int64) : Int64 := (x &&& 3689348814741910323) + ((tlushr x 2) &&& 3689348814741910323)
def b3L (x : Int64) : Int64 := (x + tlushr x 4) &&& 1085102592571150095
theorem bc_eq (x : Int64) : f_J13_bitCount_95d88 x = (Int64.toInt32 (((b3L (b2L (b1L x)) + tlushr (b3L (b2L (b1L x))) 8) + tlushr (b3L (b2L (b1L x)) + tlushr (b3L (b2L (b1L x))) 8) 16) + tlushr ((b3L (b2L (b1L x)) + tlushr (b3L (b2L (b1L x))) 8) + tlushr (b3L (b2L (b1L x)) + tlushr (b3L (b2L (b1L x))) 8) 16) 32)) &&& 127 := rfl
theorem b1_by {a b c d : Nat} (ha : a < 256) (hb : b < 256) (hc : c < 256) (hd : d < 256) : b1L (lN (by4 a b c d)) = lN (by4 (B1 a) (B1 b) (B1 c) (B1 d)) := by
  have ht := by4_lt ha hb hc hd
  unfold b1L
  rw [show (1 : Int32) = nI 1 from rfl, n_ushr64 (by omega) (by decide)]
  have e : by4 a b c d / 2 ^ 1 = by4 (a / 2 + 128 * (b % 2)) (b / 2 + 128 * (c % 2)) (c / 2 + 128 * (d % 2)) (d / 2 + 128 * 0) := by unfold by4; omega
  rw [e, show (6148914691236517205 : Int64) = lN 6148914691236517205 from rfl, fb_andL,
    and_by4 (k := 85) (M1 := 24019198012642645) (M2 := 93824992236885) (M3 := 366503875925) (M4 := 1431655765) (by omega) (by omega) (by omega) (by omega) (by decide) (by decide) (by decide) (by decide) (by decide),
    B_f1 a ha _ (by omega), B_f1 b hb _ (by omega), B_f1 c hc _ (by omega), B_f1 d hd _ (by omega)]
  have h1 := (B_f2 a ha).1
  have h2 := (B_f2 b hb).1
  have h3 := (B_f2 c hc).1
  have h4 := (B_f2 d hd).1
  rw [lN_sub (by unfold by4; omega)]
  congr 1
  unfold by4 B1
  omega
theorem b2_by {a b c d : Nat} (ha : a < 256) (hb : b < 256) (hc : c < 256) (hd : d < 256) : b2L (lN (by4 (B1 a) (B1 b) (B1 c) (B1 d))) = lN (by4 (B2 a) (B2 b) (B2 c) (B2 d)) := by
  have h1 := (B_f2 a ha).2
  have h2 := (B_f2 b hb).2
  have h3 := (B_f2 c hc).2
  have h4 := (B_f2 d hd).2
  have ht := by4_lt h1 h2 h3 h4
  unfold b2L
  rw [show (2 : Int32) = nI 2 from rfl, n_ushr64 (by omega) (by decide)]
  have e : by4 (B1 a) (B1 b) (B1 c) (B1 d) / 2 ^ 2 = by4 (B1 a / 4 + 64 * (B1 b % 4)) (B1 b / 4 + 64 * (B1 c % 4)) (B1 c / 4 + 64 * (B1 d % 4)) (B1 d / 4 + 64 * 0) := by unfold by4; omega
  rw [e, show (3689348814741910323 : Int64) = lN 3689348814741910323 from rfl, fb_andL, fb_andL,
    and_by4 (k := 51) (M1 := 14411518807585587) (M2 := 56294995342131) (M3 := 219902325555) (M4 := 858993459) h1 h2 h3 h4 (by decide) (by decide) (by decide) (by decide) (by decide),
    and_by4 (k := 51) (M1 := 14411518807585587) (M2 := 56294995342131) (M3 := 219902325555) (M4 := 858993459) (by omega) (by omega) (by omega) (by omega) (by decide) (by decide) (by decide) (by decide) (by decide),
    B_f3 a ha _ (by omega), B_f3 b hb _ (by omega), B_f3 c hc _ (by omega), B_f3 d hd _ (by omega), lN_add]
  congr 1
  unfold by4 B2
  omega
theorem b3_by {a b c d : Nat} (ha : a < 256) (hb : b < 256) (hc : c < 256) (hd : d < 256) : b3L (lN (by4 (B2 a) (B2 b) (B2 c) (B2 d))) = lN (by4 (B3 a) (B3 b) (B3 c) (B3 d)) := by
  have h1 := B_f4 a ha
  have h2 := B_f4 b hb
  have h3 := B_f4 c hc
  have h4 := B_f4 d hd
  have ht := by4_lt (a := B2 a) (b := B2 b) (c := B2 c) (d := B2 d) (by omega) (by omega) (by omega) (by omega)
  unfold b3L
  rw [show (4 : Int32) = nI 4 from rfl, n_ushr64 (by omega) (by decide), lN_add]
  have e : by4 (B2 a) (B2 b) (B2 c) (B2 d) + by4 (B2 a) (B2 b) (B2 c) (B2 d) / 2 ^ 4 = by4 (B2 a + B2 a / 16 + 16 * (B2 b % 16)) (B2 b + B2 b / 16 + 16 * (B2 c % 16)) (B2 c + B2 c / 16 + 16 * (B2 d % 16)) (B2 d + B2 d / 16 + 16 * 0) := by unfold by4; omega
  rw [e, show (1085102592571150095 : Int64) = lN 1085102592571150095 from rfl, fb_andL,
    and_by4 (k := 15) (M1 := 4238682002231055) (M2 := 16557351571215) (M3 := 64677154575) (M4 := 252645135) (by omega) (by omega) (by omega) (by omega) (by decide) (by decide) (by decide) (by decide) (by decide),
    B_f5 a ha _ (by omega), B_f5 b hb _ (by omega), B_f5 c hc _ (by omega), B_f5 d hd _ (by omega)]
theorem bc_by {a b c d : Nat} (ha : a < 256) (hb : b < 256) (hc : c < 256) (hd : d < 256) : f_J13_bitCount_95d88 (lN (by4 a b c d)) = nI (B3 a + B3 b + B3 c + B3 d) := by
  rw [bc_eq, b1_by ha hb hc hd, b2_by ha hb hc hd, b3_by ha hb hc hd]
  have h1 := (B_f6 a ha).2
  have h2 := (B_f6 b hb).2
  have h3 := (B_f6 c hc).2
  have h4 := (B_f6 d hd).2
  generalize B3 a = a at *
  generalize B3 b = b at *
  generalize B3 c = c at *
  generalize B3 d = d at *
  have ht : by4 a b c d < 2 ^ 32 := by unfold by4; omega
  rw [show (8 : Int32) = nI 8 from rfl, show (16 : Int32) = nI 16 from rfl, show (32 : Int32) = nI 32 from rfl, n_ushr64 (by omega) (by decide), lN_add, n_ushr64 (by omega) (by decide), lN_add, n_ushr64 (by omega) (by decide), lN_add, lN_i,
    show (127 : Int32) = nI (2 ^ 7 - 1) from rfl, fa_mask]
  have e1 : by4 a b c d / 2 ^ 8 = b + 256 * (c + 256 * d) := by unfold by4; omega
  have e2 : by4 a b c d + by4 a b c d / 2 ^ 8 = (a + b) + 256 * (b + c) + 65536 * (c + d) + 16777216 * d := by rw [e1]; unfold by4; omega
  have e3 : ((a + b) + 256 * (b + c) + 65536 * (c + d) + 16777216 * d) / 2 ^ 16 = (c + d) + 256 * d := by omega
  rw [e2, e3]
  have e4 : ((a + b) + 256 * (b + c) + 65536 * (c + d) + 16777216 * d + ((c + d) + 256 * d)) / 2 ^ 32 = 0 := by omega
  rw [e4]
  congr 1
  omega
theorem ct_shift (t : Nat) (m n : Nat) : fb_ct (fun k => t.testBit (m + k)) n = fb_ct (fun k => (t / 2 ^ m).testBit k) n := fb_ct_cong fun k _ => by rw [Nat.testBit_div_two_pow]; congr 1; omega
theorem ct_mod (t : Nat) : fb_ct (fun k => t.testBit k) 8 = pop8 (t % 256) := fb_ct_cong fun k hk => by
  show t.testBit k = (t % 2 ^ 8).testBit k
  rw [Nat.testBit_mod_two_pow, decide_eq_true hk, Bool.true_and]
theorem ct_32 (t : Nat) : fb_ct (fun k => t.testBit k) 32 = pop8 (t % 256) + pop8 (t / 256 % 256) + pop8 (t / 65536 % 256) + pop8 (t / 16777216 % 256) := by
  have a1 := fb_ct_split (fun k => t.testBit k) 8 24
  have a2 := fb_ct_split (fun k => (t / 2 ^ 8).testBit k) 8 16
  have a3 := fb_ct_split (fun k => (t / 2 ^ 8 / 2 ^ 8).testBit k) 8 8
  rw [ct_shift, ct_mod] at a1
  rw [ct_shift, ct_mod] at a2
  rw [ct_shift, ct_mod, ct_mod] at a3
  rw [show (32 : Nat) = 8 + 24 from rfl, a1, show (24 : Nat) = 8 + 16 from rfl, a2, show (16 : Nat) = 8 + 8 from rfl, a3]
  rw [show (2 : Nat) ^ 8 = 256 from rfl, Nat.div_div_eq_div_mul, Nat.div_div_eq_div_mul, show (256 * 256 : Nat) = 65536 from rfl, show (65536 * 256 : Nat) = 16777216 from rfl]
  omega
theorem bc_ct {t : Nat} (ht : t < 2 ^ 32) : f_J13_bitCount_95d88 (lN t) = nI (fb_ct (fun k => t.testBit k) 32) := by
  have e : t = by4 (t % 256) (t / 256 % 256) (t / 65536 % 256) (t / 16777216 % 256) := by unfold by4; omega
  rw [ct_32]
  conv => lhs; rw [e]
  rw [bc_by (Nat.mod_lt _ (by decide)) (Nat.mod_lt _ (by decide)) (Nat.mod_lt _ (by decide)) (Nat.mod_lt _ (by decide)), (B_f6 _ (Nat.mod_lt _ (by decide))).1, (B_f6 _ (Nat.mod_lt _ (by decide))).1, (B_f6 _ (Nat.mod_lt _ (by decide))).1, (B_f6 _ (Nat.mod_lt _ (by decide))).1]
theorem ones_loop {t N : Nat} (ht : t < 2 ^ 62) (hN : N ≤ 32) {K : Int32 → Option Int32} : ∀ (m k fu : Nat), k + m = N → m < fu → f_X8_ones_L5 (lN t) (nI N) K fu (nI (fb_ct (fun j => t.testBit j) k)) (nI k) = K (nI (fb_ct (fun j => t.testBit j) N)) := by
  intro m
  induction m with
  | zero =>
    intro k fu hk hf
    obtain ⟨fu, rfl⟩ : ∃ q, fu = q + 1 := ⟨fu - 1, by omega⟩
    have : k = N := by omega
    subst this
    rw [f_X8_ones_L5, if_pos (nI_le (Nat.le_refl k) (by omega))]
  | succ m ih =>
    intro k fu hk hf
    obtain ⟨fu, rfl⟩ : ∃ q, fu = q + 1 := ⟨fu - 1, by omega⟩
    rw [f_X8_ones_L5, if_neg (nI_ge (by omega) (by omega)), n_at ht (by omega), nI_1, ← ih (k + 1) fu (by omega) (by omega), fb_ct_succ]
    cases t.testBit k with
    | false => rw [if_pos (by decide), Int32.add_zero]; rfl
    | true => rw [if_neg (by decide)]; congr 1; exact nI_1 _
theorem ones_ct {t N : Nat} (ht : t < 2 ^ 62) (hN : N ≤ 32) : f_X8_ones (lN t) (nI N) = some (nI (fb_ct (fun j => t.testBit j) N)) := ones_loop ht hN N 0 tFU (by omega) (by unfold tFU; omega)
theorem ct_low {t N : Nat} (ht : t < 2 ^ N) (hN : N ≤ 32) : fb_ct (fun j => t.testBit j) 32 = fb_ct (fun j => t.testBit j) N := by
  have h := fb_ct_split (fun j => t.testBit j) N (32 - N)
  rw [show N + (32 - N) = 32 from by omega] at h
  have hz : fb_ct (fun k => t.testBit (N + k)) (32 - N) = 0 := fb_ct_zero.mpr fun k _ => Nat.testBit_lt_two_pow (Nat.lt_of_lt_of_le ht (Nat.pow_le_pow_right (by decide) (by omega)))
  rw [h, hz, Nat.add_zero]
/-- the number of ones of a table -/
def pop (t : Nat) : Nat := fb_ct (fun j => t.testBit j) 32
theorem X_pop {n t : Nat} (hn : n ≤ 5) (ht : t < tabs n) : f_J13_bitCount_95d88 (lN t) = nI (pop t) := bc_ct (Nat.lt_of_lt_of_le ht (tabs_le hn))
theorem M_pop {n t : Nat} (hn : n ≤ 5) (ht : t < tabs n) : f_X8_ones (lN t) (nI (pts n)) = some (nI (pop t)) := by
  have h1 := tabs_le hn
  have h2 := n_p5 hn
  rw [ones_ct (N := pts n) (by omega) h2]
  unfold pop
  rw [ct_low (N := pts n) ht h2]
theorem bc32 : ∀ s, s < 32 → f_J6_bitCount_0f7a4 (nI s) = nI (fb_ct (fun j => s.testBit j) 5) := by decide +kernel
