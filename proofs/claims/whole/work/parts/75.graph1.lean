/-! what the primes of a monotone function say -/
theorem PL_mem {n t : Nat} : ∀ {k q : Nat}, q ∈ PL n t k ↔ q < k ∧ prm n t q = true
  | 0, q => ⟨fun h => (nomatch h), fun h => absurd h.1 (by omega)⟩
  | k + 1, q => by
    rw [PL]
    constructor
    · intro h
      split at h
      · next hp =>
        rcases List.mem_append.mp h with h | h
        · have := PL_mem.mp h; exact ⟨by omega, this.2⟩
        · rcases List.mem_singleton.mp h with rfl
          exact ⟨by omega, hp⟩
      · have := PL_mem.mp h; exact ⟨by omega, this.2⟩
    · rintro ⟨h1, h2⟩
      by_cases hq : q = k
      · subst hq
        rw [if_pos h2]
        exact List.mem_append_right _ (List.mem_singleton.mpr rfl)
      · have := (PL_mem (n := n) (t := t) (k := k) (q := q)).mpr ⟨by omega, h2⟩
        split
        · exact List.mem_append_left _ this
        · exact this
theorem VS_bit {n t : Nat} : ∀ {k v : Nat}, (VS n t k).testBit v = true ↔ ∃ q, q < k ∧ prm n t q = true ∧ q.testBit v = true
  | 0, v => ⟨fun h => (by rw [show VS n t 0 = 0 from rfl, Nat.zero_testBit] at h; cases h), fun ⟨q, h, _⟩ => absurd h (by omega)⟩
  | k + 1, v => by
    rw [VS]
    constructor
    · intro h
      split at h
      · next hp =>
        rw [Nat.testBit_or, Bool.or_eq_true] at h
        rcases h with h | h
        · obtain ⟨q, h1, h2⟩ := VS_bit.mp h; exact ⟨q, by omega, h2⟩
        · exact ⟨k, by omega, hp, h⟩
      · obtain ⟨q, h1, h2⟩ := VS_bit.mp h; exact ⟨q, by omega, h2⟩
    · rintro ⟨q, h1, h2, h3⟩
      by_cases hq : q = k
      · subst hq
        rw [if_pos h2, Nat.testBit_or, h3, Bool.or_true]
      · have := (VS_bit (n := n) (t := t) (k := k) (v := v)).mpr ⟨q, by omega, h2, h3⟩
        split
        · rw [Nat.testBit_or, this, Bool.true_or]
        · exact this
theorem NB_bit {n t : Nat} : ∀ {k u v : Nat}, (NB n t k u).testBit v = true ↔ v ≠ u ∧ ∃ q, q < k ∧ prm n t q = true ∧ q.testBit u = true ∧ q.testBit v = true
  | 0, u, v => ⟨fun h => (by rw [show NB n t 0 u = 0 from rfl, Nat.zero_testBit] at h; cases h), fun ⟨_, q, h, _⟩ => absurd h (by omega)⟩
  | k + 1, u, v => by
    have e : NB n t (k + 1) u = if prm n t k && k.testBit u then NB n t k u ||| andn k (2 ^ u) else NB n t k u := rfl
    rw [e]
    constructor
    · intro h
      split at h
      · next hp =>
        rw [Bool.and_eq_true] at hp
        rw [Nat.testBit_or, Bool.or_eq_true] at h
        rcases h with h | h
        · obtain ⟨h0, q, h1, h2⟩ := NB_bit.mp h; exact ⟨h0, q, by omega, h2⟩
        · rw [andn_bit, Nat.testBit_two_pow, Bool.and_eq_true] at h
          exact ⟨fun x => by subst x; simp at h, k, by omega, hp.1, hp.2, h.1⟩
      · obtain ⟨h0, q, h1, h2⟩ := NB_bit.mp h; exact ⟨h0, q, by omega, h2⟩
    · rintro ⟨h0, q, h1, h2, h3, h4⟩
      by_cases hq : q = k
      · subst hq
        rw [h2, h3, Bool.and_true, if_pos rfl, Nat.testBit_or, andn_bit, h4, Nat.testBit_two_pow]
        simp [Ne.symm h0]
      · have := (NB_bit (n := n) (t := t) (k := k) (u := u) (v := v)).mpr ⟨h0, q, by omega, h2, h3, h4⟩
        split
        · rw [Nat.testBit_or, this, Bool.true_or]
        · exact this
theorem bit_hi {s n v : Nat} (h : s < 2 ^ n) (hv : n ≤ v) : s.testBit v = false := Nat.testBit_lt_two_pow (Nat.lt_of_lt_of_le h (Nat.pow_le_pow_right (by decide) hv))
theorem bit_lo {s n v : Nat} (h : s < 2 ^ n) (hv : s.testBit v = true) : v < n := by
  refine Nat.lt_of_not_le (fun h2 => ?_)
  rw [bit_hi h h2] at hv
  cases hv
/-- monotone -/
def mon (n t : Nat) : Prop := ∀ p, p < pts n → t.testBit p = true → ∀ v, v < n → t.testBit (p ||| 2 ^ v) = true
theorem mon_of {n t : Nat} (h : ff (vio n t) (pts n) 0 = none) : mon n t := by
  intro p hp ht v hv
  have := ff_none h p (by omega) (by omega)
  unfold vio at this
  rw [ht, Bool.true_and] at this
  cases hb : t.testBit (p ||| 2 ^ v) with
  | true => rfl
  | false =>
    have h2 := (anyB_iff (fun v => !t.testBit (p ||| 2 ^ v)) n 0).mpr ⟨v, by omega, by omega, by simp only [hb]; rfl⟩
    rw [this] at h2
    cases h2
def cutN (r m : Nat) : Nat := tabN (fun i => r.testBit i) m
theorem mon_sub {n t : Nat} (h : mon n t) {q r : Nat} (hq : q < pts n) (hr : r < pts n) (hs : ∀ i, q.testBit i = true → r.testBit i = true) (ht : t.testBit q = true) : t.testBit r = true := by
  have key : ∀ m, m ≤ n → q ||| cutN r m < pts n ∧ t.testBit (q ||| cutN r m) = true := by
    intro m
    induction m with
    | zero => intro _; rw [show cutN r 0 = 0 from rfl, Nat.or_zero]; exact ⟨hq, ht⟩
    | succ m ih =>
      intro hm
      obtain ⟨h1, h2⟩ := ih (by omega)
      rw [show cutN r (m + 1) = cutN r m ||| ((r.testBit m).toNat * 2 ^ m) from rfl]
      cases r.testBit m with
      | false => rw [Bool.toNat_false, Nat.zero_mul, Nat.or_zero]; exact ⟨h1, h2⟩
      | true =>
        rw [Bool.toNat_true, Nat.one_mul, ← Nat.or_assoc]
        exact ⟨or_pow_lt h1 (by omega), h _ h1 h2 m (by omega)⟩
  have e : q ||| cutN r n = r := by
    apply Nat.eq_of_testBit_eq
    intro i
    unfold cutN
    rw [Nat.testBit_or, tabN_bit]
    by_cases hi : i < n
    · rw [decide_eq_true hi, Bool.true_and]
      cases hb : q.testBit i
      · rfl
      · rw [hs i hb]; rfl
    · rw [bit_hi hq (by omega), bit_hi hr (by omega), decide_eq_false hi]; rfl
  have := (key n (Nat.le_refl n)).2
  rw [e] at this
  exact this
theorem prm_of {n t q : Nat} (h1 : t.testBit q = true) (h2 : ∀ v, v < n → q.testBit v = true → t.testBit (q ^^^ 2 ^ v) = false) : prm n t q = true := by
  unfold prm
  rw [h1, Bool.true_and]
  cases h : anyB (fun v => q.testBit v && t.testBit (q ^^^ 2 ^ v)) n 0 with
  | false => rfl
  | true =>
    obtain ⟨v, -, hv, hb⟩ := (anyB_iff _ _ _).mp h
    rw [Bool.and_eq_true] at hb
    rw [h2 v (by omega) hb.1] at hb
    cases hb.2
theorem prm_to {n t q : Nat} (h : prm n t q = true) : t.testBit q = true ∧ ∀ v, v < n → q.testBit v = true → t.testBit (q ^^^ 2 ^ v) = false := by
  unfold prm at h
  rw [Bool.and_eq_true] at h
  refine ⟨h.1, fun v hv hq => ?_⟩
  cases hb : t.testBit (q ^^^ 2 ^ v) with
  | false => rfl
  | true =>
    have h2 := (anyB_iff (fun v => q.testBit v && t.testBit (q ^^^ 2 ^ v)) n 0).mpr ⟨v, by omega, by omega, by simp only [hq, hb]; rfl⟩
    rw [h2] at h
    cases h.2
theorem xor_lt_self {q v : Nat} (h : q.testBit v = true) : q ^^^ 2 ^ v < q := by
  rw [← andn_pow h]
  exact Nat.lt_of_le_of_ne (andn_le _ _) (andn_pow_ne h)
theorem xor_sub {q v i : Nat} (h : q.testBit v = true) (hi : (q ^^^ 2 ^ v).testBit i = true) : q.testBit i = true := by
  rw [← andn_pow h, andn_bit, Bool.and_eq_true] at hi
  exact hi.1
/-- below a point with value 1 lies a prime -/
theorem prime_below {n t : Nat} (p : Nat) (ht : t.testBit p = true) : ∃ q, q ≤ p ∧ prm n t q = true ∧ ∀ i, q.testBit i = true → p.testBit i = true := by
  induction p using Nat.strongRecOn with
  | ind p ih =>
    cases h : prm n t p with
    | true => exact ⟨p, Nat.le_refl p, h, fun _ x => x⟩
    | false =>
      have : ∃ v, v < n ∧ p.testBit v = true ∧ t.testBit (p ^^^ 2 ^ v) = true := by
        unfold prm at h
        rw [ht, Bool.true_and] at h
        have h : anyB (fun v => p.testBit v && t.testBit (p ^^^ 2 ^ v)) n 0 = true := by
          cases h2 : anyB (fun v => p.testBit v && t.testBit (p ^^^ 2 ^ v)) n 0 with
          | true => rfl
          | false => rw [h2] at h; cases h
        obtain ⟨v, -, hv, hb⟩ := (anyB_iff _ _ _).mp h
        rw [Bool.and_eq_true] at hb
        exact ⟨v, by omega, hb⟩
      obtain ⟨v, hv, hb, hc⟩ := this
      have hlt := xor_lt_self hb
      obtain ⟨q, h1, h2, h3⟩ := ih (p ^^^ 2 ^ v) hlt hc
      exact ⟨q, by omega, h2, fun i hi => xor_sub hb (h3 i hi)⟩
theorem xor_xor (p v : Nat) : (p ^^^ 2 ^ v) ^^^ 2 ^ v = p := by rw [Nat.xor_assoc, Nat.xor_self, Nat.xor_zero]
theorem xor_bit_self (p v : Nat) : (p ^^^ 2 ^ v).testBit v = !p.testBit v := by rw [Nat.testBit_xor, Nat.testBit_two_pow]; cases p.testBit v <;> simp
theorem VS_lt (n t : Nat) : VS n t (pts n) < 2 ^ n := by
  have : ∀ k, k ≤ pts n → VS n t k < 2 ^ n := by
    intro k
    induction k with
    | zero => intro _; exact Nat.two_pow_pos n
    | succ k ih =>
      intro hk
      rw [VS]
      split
      · exact Nat.or_lt_two_pow (ih (by omega)) (show k < pts n by omega)
      · exact ih (by omega)
  exact this _ (Nat.le_refl _)
theorem VS_ess {n t : Nat} (h : mon n t) : VS n t (pts n) = essS n t := by
  apply Nat.eq_of_testBit_eq
  intro v
  unfold essS
  rw [tabN_bit]
  by_cases hv : v < n
  · rw [decide_eq_true hv, Bool.true_and, Bool.eq_iff_iff, VS_bit]
    unfold ess
    rw [anyB_iff]
    constructor
    · rintro ⟨q, h1, h2, h3⟩
      obtain ⟨h4, h5⟩ := prm_to h2
      refine ⟨q, by omega, by omega, ?_⟩
      simp only [h4, h5 v hv h3]; rfl
    · rintro ⟨p, -, hp, hb⟩
      have hp : p < pts n := by omega
      have hb : t.testBit p ≠ t.testBit (p ^^^ 2 ^ v) := bne_iff_ne.mp hb
      have up : ∀ p, p < pts n → p.testBit v = true → t.testBit p ≠ t.testBit (p ^^^ 2 ^ v) → ∃ q, q < pts n ∧ prm n t q = true ∧ q.testBit v = true := by
        intro p hp hpv hb
        have hx := xor_pow_lt (v := v) hp hv
        have t1 : t.testBit p = true := by
          cases h1 : t.testBit p with
          | true => rfl
          | false =>
            have h2 : t.testBit (p ^^^ 2 ^ v) = true := by
              cases h3 : t.testBit (p ^^^ 2 ^ v) with
              | true => rfl
              | false => exact absurd (h1.trans h3.symm) hb
            have := mon_sub h hx hp (fun i hi => xor_sub hpv hi) h2
            rw [h1] at this; cases this
        have t0 : t.testBit (p ^^^ 2 ^ v) = false := by
          cases h3 : t.testBit (p ^^^ 2 ^ v) with
          | false => rfl
          | true => exact absurd (t1.trans h3.symm) hb
        obtain ⟨q, q1, q2, q3⟩ := prime_below (n := n) p t1
        refine ⟨q, by omega, q2, ?_⟩
        cases hqv : q.testBit v with
        | true => rfl
        | false =>
          have := mon_sub h (q := q) (r := p ^^^ 2 ^ v) (by omega) hx (fun i hi => by
            rw [Nat.testBit_xor, q3 i hi, Nat.testBit_two_pow]
            by_cases hvi : v = i
            · subst hvi; rw [hqv] at hi; cases hi
            · simp [hvi]) (prm_to q2).1
          rw [t0] at this; cases this
      cases hpv : p.testBit v with
      | true => exact up p hp hpv hb
      | false =>
        refine up (p ^^^ 2 ^ v) (xor_pow_lt hp hv) (by rw [xor_bit_self, hpv]; rfl) ?_
        rw [xor_xor]; exact Ne.symm hb
  · rw [bit_hi (VS_lt n t) (by omega), decide_eq_false hv, Bool.false_and]
/-- what is known of the graph -/
def gok (n V : Nat) (A : Nat → Nat) : Prop := V < 2 ^ n ∧ (∀ u v, (A u).testBit v = true → u ≠ v ∧ (A v).testBit u = true ∧ V.testBit u = true ∧ V.testBit v = true)
theorem NB_ok (n t : Nat) : gok n (VS n t (pts n)) (NB n t (pts n)) := by
  refine ⟨VS_lt n t, fun u v h => ?_⟩
  obtain ⟨h0, q, h1, h2, h3, h4⟩ := NB_bit.mp h
  exact ⟨Ne.symm h0, NB_bit.mpr ⟨Ne.symm h0, q, h1, h2, h4, h3⟩, VS_bit.mpr ⟨q, h1, h2, h3⟩, VS_bit.mpr ⟨q, h1, h2, h4⟩⟩
theorem gok.lt {n V : Nat} {A : Nat → Nat} (h : gok n V A) (u : Nat) : A u < 2 ^ n := by
  apply Nat.lt_pow_two_of_testBit
  intro i hi
  cases hb : (A u).testBit i with
  | false => rfl
  | true =>
    have := (h.2 u i hb).2.2.2
    rw [bit_hi h.1 hi] at this; cases this
