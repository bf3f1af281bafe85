/-! random functions; violations; essential variables -/
def anyB (b : Nat → Bool) : Nat → Nat → Bool
  | 0, _ => false
  | m + 1, k => b k || anyB b m (k + 1)
theorem anyB_iff (b : Nat → Bool) : ∀ m k, anyB b m k = true ↔ ∃ i, k ≤ i ∧ i < k + m ∧ b i = true
  | 0, k => ⟨fun h => (nomatch h), fun ⟨i, h1, h2, _⟩ => absurd h2 (by omega)⟩
  | m + 1, k => by
    rw [anyB, Bool.or_eq_true, anyB_iff b m (k + 1)]
    constructor
    · rintro (h | ⟨i, h1, h2, h3⟩)
      · exact ⟨k, Nat.le_refl k, by omega, h⟩
      · exact ⟨i, by omega, by omega, h3⟩
    · rintro ⟨i, h1, h2, h3⟩
      by_cases h : i = k
      · subst h; exact Or.inl h3
      · exact Or.inr ⟨i, by omega, by omega, h3⟩
theorem anyB_cong {b c : Nat → Bool} : ∀ {m k : Nat}, (∀ i, k ≤ i → i < k + m → b i = c i) → anyB b m k = anyB c m k
  | 0, _, _ => rfl
  | m + 1, k, h => by rw [anyB, anyB, h k (Nat.le_refl k) (by omega), anyB_cong (fun i h1 h2 => h i (by omega) (by omega))]
def ff (b : Nat → Bool) : Nat → Nat → Option Nat
  | 0, _ => none
  | m + 1, k => if b k then some k else ff b m (k + 1)
theorem ff_cong {b c : Nat → Bool} : ∀ {m k : Nat}, (∀ i, k ≤ i → i < k + m → b i = c i) → ff b m k = ff c m k
  | 0, _, _ => rfl
  | m + 1, k, h => by rw [ff, ff, h k (Nat.le_refl k) (by omega), ff_cong (fun i h1 h2 => h i (by omega) (by omega))]
theorem ff_some {b : Nat → Bool} : ∀ {m k i : Nat}, ff b m k = some i → k ≤ i ∧ i < k + m ∧ b i = true ∧ ∀ j, k ≤ j → j < i → b j = false
  | 0, _, _, h => nomatch h
  | m + 1, k, i, h => by
    rw [ff] at h
    split at h
    · next hb => cases h; exact ⟨Nat.le_refl _, by omega, hb, fun j h1 h2 => absurd h2 (by omega)⟩
    · next hb =>
      obtain ⟨h1, h2, h3, h4⟩ := ff_some h
      refine ⟨by omega, by omega, h3, fun j hj1 hj2 => ?_⟩
      by_cases hjk : j = k
      · subst hjk; cases hbk : b j <;> simp_all
      · exact h4 j (by omega) hj2
theorem ff_none {b : Nat → Bool} : ∀ {m k : Nat}, ff b m k = none → ∀ j, k ≤ j → j < k + m → b j = false
  | 0, _, _, j, h1, h2 => absurd h2 (by omega)
  | m + 1, k, h, j, h1, h2 => by
    rw [ff] at h
    split at h
    · cases h
    · next hb =>
      by_cases hjk : j = k
      · subst hjk; cases hbk : b j <;> simp_all
      · exact ff_none h j (by omega) (by omega)
def oI (o : Option Nat) : Int32 := match o with
  | none => -1
  | some p => nI p
theorem nI_ne_m1 {p : Nat} (hp : p < 2 ^ 31) : ¬ nI p = -1 := by
  intro h
  have := congrArg Int32.toInt h
  rw [nI_toInt hp] at this
  have e : (-1 : Int32).toInt = -1 := by decide
  rw [e] at this
  omega
/-! random -/
theorem Xsup_loop {N s : Nat} {K : Int64 → Option Int64} (hN : N ≤ 32) (hs : s < 2 ^ 31) : ∀ (m k fu : Nat), k + m = N → m < fu → f_X7_supersets_L5 (nI N) (nI s) K fu (lN (0 ||| tabN (fun p => p &&& s == s) k)) (nI k) = K (lN (0 ||| tabN (fun p => p &&& s == s) N)) := by
  intro m
  induction m with
  | zero =>
    intro k fu hk hf
    obtain ⟨fu, rfl⟩ : ∃ q, fu = q + 1 := ⟨fu - 1, by omega⟩
    have : k = N := by omega
    subst this
    rw [f_X7_supersets_L5, if_pos (nI_le (Nat.le_refl _) (by omega))]
  | succ m ih =>
    intro k fu hk hf
    obtain ⟨fu, rfl⟩ : ∃ q, fu = q + 1 := ⟨fu - 1, by omega⟩
    rw [f_X7_supersets_L5, if_neg (nI_ge (by omega) (by omega)), fa_and, ← ih (k + 1) fu (by omega) (by omega), nI_1]
    have hle : k &&& s ≤ s := Nat.and_le_right
    by_cases h : k &&& s = s
    · rw [if_pos (by rw [h]), tab_step1 (by omega) (by simp [h])]
    · rw [if_neg (by rw [nI_eq (by omega) hs]; exact h), tab_step0 (by simp [h])]
theorem Mran_loop {N s acc : Nat} {K : Int64 → Option Int64} (hN : N ≤ 32) (hs : s < 2 ^ 31) : ∀ (m k fu : Nat), k + m = N → m < fu → f_X8_randomOf_L38 (nI s) (nI N) K fu (lN (acc ||| tabN (fun p => p &&& s == s) k)) (nI k) = K (lN (acc ||| tabN (fun p => p &&& s == s) N)) := by
  intro m
  induction m with
  | zero =>
    intro k fu hk hf
    obtain ⟨fu, rfl⟩ : ∃ q, fu = q + 1 := ⟨fu - 1, by omega⟩
    have : k = N := by omega
    subst this
    rw [f_X8_randomOf_L38, if_pos (nI_le (Nat.le_refl _) (by omega))]
  | succ m ih =>
    intro k fu hk hf
    obtain ⟨fu, rfl⟩ : ∃ q, fu = q + 1 := ⟨fu - 1, by omega⟩
    rw [f_X8_randomOf_L38, if_neg (nI_ge (by omega) (by omega)), fa_and, ← ih (k + 1) fu (by omega) (by omega), nI_1]
    have hle : k &&& s ≤ s := Nat.and_le_right
    by_cases h : k &&& s = s
    · rw [if_pos (by rw [h]), tab_step1 (by omega) (by simp [h])]
    · rw [if_neg (by rw [nI_eq (by omega) hs]; exact h), lN_or0, tab_step0 (by simp [h])]
theorem n_draw (z : Int32) : ∃ w, w < 65536 ∧ tiushr z 16 = nI w := by
  obtain ⟨m, hm, rfl⟩ := wb_of32 z
  refine ⟨m / 2 ^ 16, by omega, ?_⟩
  exact pk_ushrN hm 16 16 (by decide)
theorem draw_loop {n dr : Nat} (hn : n ≤ 5) (hdr : dr ≤ 12) : ∀ (m k fu : Nat) (z : Int32) (acc : Nat), k + m = dr → m < fu → acc < tabs n → ∃ acc', acc' < tabs n ∧ (∀ K, f_X7_drawnTable_L20 (nI dr) (nI (pts n)) K fu z (lN acc) (nI k) = K (lN acc')) ∧ ∀ K, f_X8_randomOf_L8 (nI dr) (nI (pts n)) K fu z (lN acc) (nI k) = K (lN acc') := by
  have hp := pts_32 hn
  have hp0 := pts_pos n
  intro m
  induction m with
  | zero =>
    intro k fu z acc hk hf ha
    obtain ⟨fu, rfl⟩ : ∃ q, fu = q + 1 := ⟨fu - 1, by omega⟩
    have : k = dr := by omega
    subst this
    refine ⟨acc, ha, fun K => ?_, fun K => ?_⟩
    · rw [f_X7_drawnTable_L20, if_pos (nI_le (Nat.le_refl _) (by omega))]
    · rw [f_X8_randomOf_L8, if_pos (nI_le (Nat.le_refl _) (by omega))]
  | succ m ih =>
    intro k fu z acc hk hf ha
    obtain ⟨fu, rfl⟩ : ∃ q, fu = q + 1 := ⟨fu - 1, by omega⟩
    obtain ⟨w, hw, ew⟩ := n_draw (z * 1103515245 + 12345)
    have hmod : w % pts n < pts n := Nat.mod_lt _ hp0
    have e1 : nI w &&& (nI (pts n) - 1) = nI (w % pts n) := by
      rw [show nI (pts n) - 1 = nI (2 ^ n - 1) from pk_sub (b := 1) hp0, fa_mask]; rfl
    have e2 : nI w - nI w / nI (pts n) * nI (pts n) = nI (w % pts n) := pk_rem (by omega) hp0 (by omega)
    have hb : tabN (fun p => p &&& (w % pts n) == (w % pts n)) (pts n) < tabs n := tabN_lt _ _
    obtain ⟨acc', h1, h2, h3⟩ := ih (k + 1) fu (z * 1103515245 + 12345) (acc ||| tabN (fun p => p &&& (w % pts n) == (w % pts n)) (pts n)) (by omega) (by omega) (or_lt_tabs ha hb)
    refine ⟨acc', h1, fun K => ?_, fun K => ?_⟩
    · have a := Xsup_loop (N := pts n) (s := w % pts n) (K := fun y3 => some y3) hp (by omega) (pts n) 0 tFU (by omega) (pts_fu hn)
      rw [tab00, nI_0, tab0] at a
      have a2 : f_X7_supersets (nI (pts n)) (nI (w % pts n)) = some (lN (tabN (fun p => p &&& (w % pts n) == (w % pts n)) (pts n))) := a
      rw [f_X7_drawnTable_L20, if_neg (nI_ge (by omega) (by omega)), ew, e1, a2, Option.bind_some, fb_orL, nI_1]
      exact h2 K
    · have a := Mran_loop (N := pts n) (s := w % pts n) (acc := acc) (K := fun y5 => f_X8_randomOf_L8 (nI dr) (nI (pts n)) K fu (z * 1103515245 + 12345) y5 (nI k + 1)) hp (by omega) (pts n) 0 tFU (by omega) (pts_fu hn)
      rw [show tabN (fun p => p &&& (w % pts n) == (w % pts n)) 0 = 0 from rfl, Nat.or_zero, nI_0] at a
      rw [f_X8_randomOf_L8, if_neg (nI_ge (by omega) (by omega)), if_neg (nI_ne0 hp0 (by omega)), ew, e2, a, nI_1]
      exact h3 K
theorem p_drawn {n dr : Nat} (hn : n ≤ 5) (hdr : dr ≤ 12) (z : Int32) : ∃ t, t < tabs n ∧ f_X7_drawnTable z (nI dr) (nI n) = some (lN t) ∧ f_X8_randomOf z (nI dr) (nI (pts n)) = some (lN t) := by
  obtain ⟨t, h1, h2, h3⟩ := draw_loop hn hdr dr 0 tFU z 0 (by omega) (by unfold tFU; omega) (tabs_pos n)
  refine ⟨t, h1, ?_, ?_⟩
  · unfold f_X7_drawnTable
    rw [n_pcP (by omega)]
    exact h2 _
  · exact h3 _
theorem p_random {n : Nat} {hi : List (Nat × Option Nat)} {h_k : Int32} {h_s : List Int32} {h_c : List Int64} {m_rc : Int32} {m_rs : List Int32} {m_rt : List Int64} {m_rf : List Int32} {sl : List (Option Nat)} {s_f m_t : List Int64} {m_f : List Int32} {s_n m_n m_pt : Int32} (hN : rN n s_n m_n m_pt) (hS : rS n sl s_f m_t m_f) (hH : rH n hi h_k h_s h_c m_rc m_rs m_rt m_rf) (x0 x1 x2 : Int32) : both n (f_X7_random x0 x1 x2 s_n s_f h_k h_s h_c) (f_X8_random x0 x1 x2 m_pt m_rc m_t m_f m_rs m_rt m_rf) := by
  obtain ⟨hn0, hn, rfl, rfl, rfl⟩ := hN
  have same := both_same hS hH
  unfold f_X7_random f_X8_random
  rcases n_ix x1 (N := 13) (by decide) (by decide) with ⟨a1, a2⟩ | ⟨dr, hdr, rfl, a1, a2⟩
  · have a1 : f_X7_isIndex x1 13 = 0 := a1
    have a2 : f_X8_isIn x1.toInt64 0 12 = 0 := a2
    rw [if_pos a1, if_pos a2]; exact same _
  · have a1 : f_X7_isIndex (nI dr) 13 = 1 := a1
    have a2 : f_X8_isIn (nI dr).toInt64 0 12 = 1 := a2
    rw [if_neg (ne10 a1), if_neg (ne10 a2)]
    rcases n_slot x2 with ⟨d1, d2⟩ | ⟨k, hk, rfl, d1, d2⟩
    · rw [if_pos d1, if_pos d2]; exact same _
    · obtain ⟨t, h1, h2, h3⟩ := p_drawn hn (by omega : dr ≤ 12) x0
      rw [if_neg (ne10 d1), if_neg (ne10 d2), h2, h3, Option.bind_some, Option.bind_some]
      exact both_store hn hS hH hk h1
/-! violations -/
theorem or_pow_lt {n p v : Nat} (hp : p < pts n) (hv : v < n) : p ||| 2 ^ v < pts n := Nat.or_lt_two_pow hp (Nat.pow_lt_pow_right (by decide) hv)
theorem xor_pow_lt {n p v : Nat} (hp : p < pts n) (hv : v < n) : p ^^^ 2 ^ v < pts n := Nat.xor_lt_two_pow hp (Nat.pow_lt_pow_right (by decide) hv)
theorem n_orp {p v : Nat} (hv : v < 5) : nI p ||| ((1 : Int32) <<< (nI v &&& 31)) = nI (p ||| 2 ^ v) := by rw [n_sh1 v (by omega), fa_or]
theorem n_xorp {p v : Nat} (hv : v < 5) : nI p ^^^ ((1 : Int32) <<< (nI v &&& 31)) = nI (p ^^^ 2 ^ v) := by rw [n_sh1 v (by omega), fb_xorI]
theorem X_falls {n t p : Nat} (hn : n ≤ 5) (ht : t < 2 ^ 62) (hp : p < pts n) {K : Option Int32} : ∀ (m k fu : Nat), k + m = n → m < fu → f_X7_fallsAbove_L3 (nI n) (lN t) (nI p) K fu (nI k) = if anyB (fun v => !t.testBit (p ||| 2 ^ v)) m k then some 1 else K := by
  have h32 := pts_32 hn
  intro m
  induction m with
  | zero =>
    intro k fu hk hf
    obtain ⟨fu, rfl⟩ : ∃ q, fu = q + 1 := ⟨fu - 1, by omega⟩
    have : k = n := by omega
    subst this
    rw [f_X7_fallsAbove_L3, if_pos (nI_le (Nat.le_refl _) (by omega))]; rfl
  | succ m ih =>
    intro k fu hk hf
    obtain ⟨fu, rfl⟩ : ∃ q, fu = q + 1 := ⟨fu - 1, by omega⟩
    have h9 := or_pow_lt (v := k) hp (by omega : k < n)
    rw [f_X7_fallsAbove_L3, if_neg (nI_ge (by omega) (by omega)), n_orp (by omega), n_bitAt (by omega) (by omega), anyB]
    cases hb : t.testBit (p ||| 2 ^ k) with
    | false => rw [if_pos bf0]; rfl
    | true => rw [if_neg bt1, nI_1, ih (k + 1) fu (by omega) (by omega)]; rfl
def vio (n t p : Nat) : Bool := t.testBit p && anyB (fun v => !t.testBit (p ||| 2 ^ v)) n 0
theorem X_vio_loop {n t : Nat} (hn : n ≤ 5) (ht : t < 2 ^ 62) {K : Option Int32} : ∀ (m k fu : Nat), k + m = pts n → m < fu → f_X7_lowestViolation_L2 (nI n) (lN t) K fu (nI k) = match ff (vio n t) m k with | some p => some (nI p) | none => K := by
  have h32 := pts_32 hn
  intro m
  induction m with
  | zero =>
    intro k fu hk hf
    obtain ⟨fu, rfl⟩ : ∃ q, fu = q + 1 := ⟨fu - 1, by omega⟩
    have : k = pts n := by omega
    subst this
    rw [f_X7_lowestViolation_L2, n_pcP (by omega), if_pos (nI_le (Nat.le_refl _) (by omega))]; rfl
  | succ m ih =>
    intro k fu hk hf
    obtain ⟨fu, rfl⟩ : ∃ q, fu = q + 1 := ⟨fu - 1, by omega⟩
    have hF : f_X7_fallsAbove (nI n) (lN t) (nI k) = if anyB (fun v => !t.testBit (k ||| 2 ^ v)) n 0 then some 1 else some 0 := X_falls hn ht (by omega) n 0 tFU (by omega) (by unfold tFU; omega)
    rw [f_X7_lowestViolation_L2, n_pcP (by omega), if_neg (nI_ge (by omega) (by omega)), n_bitAt (by omega) (by omega), hF, ff]
    unfold vio
    cases hb : t.testBit k with
    | false => rw [if_neg (by decide), nI_1, ih (k + 1) fu (by omega) (by omega)]; rfl
    | true =>
      rw [if_pos (by decide)]
      cases hc : anyB (fun v => !t.testBit (k ||| 2 ^ v)) n 0 with
      | false => simp only [Bool.false_eq_true, if_false, Option.bind_some, Bool.and_false, if_true]; rw [nI_1, ih (k + 1) fu (by omega) (by omega)]; rfl
      | true => rfl
theorem X_vio {n t : Nat} (hn : n ≤ 5) (ht : t < 2 ^ 62) : f_X7_lowestViolation (nI n) (lN t) = some (oI (ff (vio n t) (pts n) 0)) := by
  have h := X_vio_loop hn ht (K := some (-1)) (pts n) 0 tFU (by omega) (pts_fu hn)
  rw [nI_0] at h
  unfold f_X7_lowestViolation
  rw [h]
  cases ff (vio n t) (pts n) 0 <;> rfl
theorem M_vio13 {n t p : Nat} (hn : n ≤ 5) (ht : t < 2 ^ 62) (hp : p < pts n) {K : Option Int32} : ∀ (m k fu : Nat), k + m = n → m < fu → f_X8_violation_L13 (lN t) (nI p) (nI n) K fu (nI k) = if anyB (fun v => t.testBit p && !t.testBit (p ||| 2 ^ v)) m k then some (nI p) else K := by
  have h32 := pts_32 hn
  intro m
  induction m with
  | zero =>
    intro k fu hk hf
    obtain ⟨fu, rfl⟩ : ∃ q, fu = q + 1 := ⟨fu - 1, by omega⟩
    have : k = n := by omega
    subst this
    rw [f_X8_violation_L13, if_pos (nI_le (Nat.le_refl _) (by omega))]; rfl
  | succ m ih =>
    intro k fu hk hf
    obtain ⟨fu, rfl⟩ : ∃ q, fu = q + 1 := ⟨fu - 1, by omega⟩
    have h9 := or_pow_lt (v := k) hp (by omega : k < n)
    rw [f_X8_violation_L13, if_neg (nI_ge (by omega) (by omega)), n_bit (by omega) (by omega), n_orp (by omega), n_at ht (by omega), n_at ht (by omega), anyB, nI_1, ih (k + 1) fu (by omega) (by omega)]
    cases hk1 : p.testBit k with
    | true =>
      have e : p ||| 2 ^ k = p := by
        apply Nat.eq_of_testBit_eq
        intro i
        rw [Nat.testBit_or, Nat.testBit_two_pow]
        by_cases h : k = i
        · subst h; simp [hk1]
        · simp [h]
      rw [if_neg bt1, e]
      cases t.testBit p <;> rfl
    | false =>
      rw [if_pos bf0]
      cases hb : t.testBit p with
      | false => rw [if_pos bf0]; rfl
      | true =>
        rw [if_neg bt1]
        cases hc : t.testBit (p ||| 2 ^ k) with
        | false => rw [if_pos bf0]; rfl
        | true => rw [if_neg bt1]; rfl
theorem any_and (b : Bool) (f : Nat → Bool) : ∀ m k, anyB (fun v => b && f v) m k = (b && anyB f m k)
  | 0, _ => by cases b <;> rfl
  | m + 1, k => by rw [anyB, anyB, any_and b f m (k + 1)]; cases b <;> rfl
theorem M_vio_loop {n t : Nat} (hn : n ≤ 5) (ht : t < 2 ^ 62) {K : Option Int32} : ∀ (m k fu : Nat), k + m = pts n → m < fu → f_X8_violation_L2 (lN t) (nI n) (nI (pts n)) K fu (nI k) = match ff (vio n t) m k with | some p => some (nI p) | none => K := by
  have h32 := pts_32 hn
  intro m
  induction m with
  | zero =>
    intro k fu hk hf
    obtain ⟨fu, rfl⟩ : ∃ q, fu = q + 1 := ⟨fu - 1, by omega⟩
    have : k = pts n := by omega
    subst this
    rw [f_X8_violation_L2, if_pos (nI_le (Nat.le_refl _) (by omega))]; rfl
  | succ m ih =>
    intro k fu hk hf
    obtain ⟨fu, rfl⟩ : ∃ q, fu = q + 1 := ⟨fu - 1, by omega⟩
    have h := M_vio13 (K := f_X8_violation_L2 (lN t) (nI n) (nI (pts n)) K fu (nI (k + 1))) hn ht (p := k) (by omega) n 0 tFU (by omega) (by unfold tFU; omega)
    rw [nI_0, any_and] at h
    rw [f_X8_violation_L2, if_neg (nI_ge (by omega) (by omega)), nI_1, h, ff, ih (k + 1) fu (by omega) (by omega)]
    unfold vio
    cases (t.testBit k && anyB (fun v => !t.testBit (k ||| 2 ^ v)) n 0) <;> rfl
theorem M_vio {n t : Nat} (hn : n ≤ 5) (ht : t < 2 ^ 62) : f_X8_violation (lN t) (nI n) (nI (pts n)) = some (oI (ff (vio n t) (pts n) 0)) := by
  have h := M_vio_loop hn ht (K := some (-1)) (pts n) 0 tFU (by omega) (pts_fu hn)
  rw [nI_0] at h
  unfold f_X8_violation
  rw [h]
  cases ff (vio n t) (pts n) 0 <;> rfl
/-! essential variables -/
def ess (n t v : Nat) : Bool := anyB (fun p => t.testBit p != t.testBit (p ^^^ 2 ^ v)) (pts n) 0
theorem or_idem (s v : Nat) (b : Bool) : (s ||| 2 ^ v) ||| (b.toNat * 2 ^ v) = s ||| 2 ^ v := by
  cases b
  · rw [Bool.toNat_false, Nat.zero_mul, Nat.or_zero]
  · rw [Bool.toNat_true, Nat.one_mul, Nat.or_assoc, Nat.or_self]
theorem nI_bool_eq (a b : Bool) : nI a.toNat = nI b.toNat ↔ a = b := by cases a <;> cases b <;> decide
theorem X_ess14 {n t v : Nat} (hn : n ≤ 5) (ht : t < 2 ^ 62) (hv : v < n) {K : Int32 → Option Int32} : ∀ (m k fu s : Nat), k + m = pts n → m < fu → f_X7_essentialSet_L14 (nI n) (lN t) (nI v) K fu (nI s) (nI k) = K (nI (s ||| ((anyB (fun p => t.testBit p != t.testBit (p ^^^ 2 ^ v)) m k).toNat * 2 ^ v))) := by
  have h32 := pts_32 hn
  intro m
  induction m with
  | zero =>
    intro k fu s hk hf
    obtain ⟨fu, rfl⟩ : ∃ q, fu = q + 1 := ⟨fu - 1, by omega⟩
    have : k = pts n := by omega
    subst this
    rw [f_X7_essentialSet_L14, n_pcP (by omega), if_pos (nI_le (Nat.le_refl _) (by omega)), anyB, Bool.toNat_false, Nat.zero_mul, Nat.or_zero]
  | succ m ih =>
    intro k fu s hk hf
    obtain ⟨fu, rfl⟩ : ∃ q, fu = q + 1 := ⟨fu - 1, by omega⟩
    have h9 := xor_pow_lt (v := v) (by omega : k < pts n) hv
    rw [f_X7_essentialSet_L14, n_pcP (by omega), if_neg (nI_ge (by omega) (by omega)), n_xorp (by omega), n_bitAt (by omega) (by omega), n_bitAt (by omega) (by omega), anyB, nI_1, n_orp (by omega)]
    by_cases h : t.testBit k = t.testBit (k ^^^ 2 ^ v)
    · rw [if_pos ((nI_bool_eq _ _).mpr h), ih (k + 1) fu s (by omega) (by omega), h, bne_self_eq_false, Bool.false_or]
    · rw [if_neg (fun q => h ((nI_bool_eq _ _).mp q)), ih (k + 1) fu _ (by omega) (by omega), or_idem, bne_iff_ne.mpr h, Bool.true_or, Bool.toNat_true, Nat.one_mul]
theorem M_ess17 {n t v : Nat} (hn : n ≤ 5) (ht : t < 2 ^ 62) (hv : v < n) {K : Int32 → Option Int32} : ∀ (m k fu s : Nat), k + m = pts n → m < fu → f_X8_essentialOf_L17 (lN t) (nI v) (nI (pts n)) K fu (nI s) (nI k) = K (nI (s ||| ((anyB (fun p => t.testBit p != t.testBit (p ^^^ 2 ^ v)) m k).toNat * 2 ^ v))) := by
  have h32 := pts_32 hn
  intro m
  induction m with
  | zero =>
    intro k fu s hk hf
    obtain ⟨fu, rfl⟩ : ∃ q, fu = q + 1 := ⟨fu - 1, by omega⟩
    have : k = pts n := by omega
    subst this
    rw [f_X8_essentialOf_L17, if_pos (nI_le (Nat.le_refl _) (by omega)), anyB, Bool.toNat_false, Nat.zero_mul, Nat.or_zero]
  | succ m ih =>
    intro k fu s hk hf
    obtain ⟨fu, rfl⟩ : ∃ q, fu = q + 1 := ⟨fu - 1, by omega⟩
    have h9 := xor_pow_lt (v := v) (by omega : k < pts n) hv
    have e0 : nI s ||| 0 = nI s := by rw [show (0 : Int32) = nI 0 from rfl, fa_or, Nat.or_zero]
    rw [f_X8_essentialOf_L17, if_neg (nI_ge (by omega) (by omega)), n_xorp (by omega), n_at ht (by omega), n_at ht (by omega), anyB, nI_1, n_orp (by omega), e0]
    by_cases h : t.testBit k = t.testBit (k ^^^ 2 ^ v)
    · rw [if_pos ((nI_bool_eq _ _).mpr h), ih (k + 1) fu s (by omega) (by omega), h, bne_self_eq_false, Bool.false_or]
    · rw [if_neg (fun q => h ((nI_bool_eq _ _).mp q)), ih (k + 1) fu _ (by omega) (by omega), or_idem, bne_iff_ne.mpr h, Bool.true_or, Bool.toNat_true, Nat.one_mul]
/-- the set of the essential variables -/
def essS (n t : Nat) : Nat := tabN (ess n t) n
theorem X_ess {n t : Nat} (hn : n ≤ 5) (ht : t < 2 ^ 62) : f_X7_essentialSet (nI n) (lN t) = some (nI (essS n t)) := by
  have key : ∀ (m k fu : Nat), k + m = n → m < fu → f_X7_essentialSet_L5 (nI n) (lN t) (fun y => some y) fu (nI (tabN (ess n t) k)) (nI k) = some (nI (essS n t)) := by
    intro m
    induction m with
    | zero =>
      intro k fu hk hf
      obtain ⟨fu, rfl⟩ : ∃ q, fu = q + 1 := ⟨fu - 1, by omega⟩
      have : k = n := by omega
      subst this
      rw [f_X7_essentialSet_L5, if_pos (nI_le (Nat.le_refl _) (by omega))]; rfl
    | succ m ih =>
      intro k fu hk hf
      obtain ⟨fu, rfl⟩ : ∃ q, fu = q + 1 := ⟨fu - 1, by omega⟩
      have h := X_ess14 hn ht (v := k) (by omega) (K := fun y4 => f_X7_essentialSet_L5 (nI n) (lN t) (fun y => some y) fu y4 (nI (k + 1))) (pts n) 0 tFU (tabN (ess n t) k) (by omega) (pts_fu hn)
      rw [nI_0] at h
      rw [f_X7_essentialSet_L5, if_neg (nI_ge (by omega) (by omega)), nI_1, h]
      exact ih (k + 1) fu (by omega) (by omega)
  exact key n 0 tFU (by omega) (by unfold tFU; omega)
theorem M_ess {n t : Nat} (hn : n ≤ 5) (ht : t < 2 ^ 62) : f_X8_essentialOf (lN t) (nI n) (nI (pts n)) = some (nI (essS n t)) := by
  have key : ∀ (m k fu : Nat), k + m = n → m < fu → f_X8_essentialOf_L5 (lN t) (nI n) (nI (pts n)) (fun y => some y) fu (nI (tabN (ess n t) k)) (nI k) = some (nI (essS n t)) := by
    intro m
    induction m with
    | zero =>
      intro k fu hk hf
      obtain ⟨fu, rfl⟩ : ∃ q, fu = q + 1 := ⟨fu - 1, by omega⟩
      have : k = n := by omega
      subst this
      rw [f_X8_essentialOf_L5, if_pos (nI_le (Nat.le_refl _) (by omega))]; rfl
    | succ m ih =>
      intro k fu hk hf
      obtain ⟨fu, rfl⟩ : ∃ q, fu = q + 1 := ⟨fu - 1, by omega⟩
      have h := M_ess17 hn ht (v := k) (by omega) (K := fun y4 => f_X8_essentialOf_L5 (lN t) (nI n) (nI (pts n)) (fun y => some y) fu y4 (nI (k + 1))) (pts n) 0 tFU (tabN (ess n t) k) (by omega) (pts_fu hn)
      rw [nI_0] at h
      rw [f_X8_essentialOf_L5, if_neg (nI_ge (by omega) (by omega)), nI_1, h]
      exact ih (k + 1) fu (by omega) (by omega)
  exact key n 0 tFU (by omega) (by unfold tFU; omega)
