/-! tables made point by point -/
def tabN (b : Nat → Bool) : Nat → Nat
  | 0 => 0
  | k + 1 => tabN b k ||| ((b k).toNat * 2 ^ k)
theorem tabN_lt (b : Nat → Bool) : ∀ k, tabN b k < 2 ^ k
  | 0 => by show 0 < 1; decide
  | k + 1 => by
    rw [tabN]
    refine Nat.or_lt_two_pow (Nat.lt_of_lt_of_le (tabN_lt b k) (Nat.pow_le_pow_right (by decide) (Nat.le_succ k))) ?_
    cases b k
    · rw [Bool.toNat_false, Nat.zero_mul]; exact Nat.two_pow_pos _
    · rw [Bool.toNat_true, Nat.one_mul]; exact Nat.pow_lt_pow_right (by decide) (Nat.lt_succ_self k)
theorem tabN_cong {b c : Nat → Bool} : ∀ {k : Nat}, (∀ i, i < k → b i = c i) → tabN b k = tabN c k
  | 0, _ => rfl
  | k + 1, h => by rw [tabN, tabN, tabN_cong (fun i hi => h i (by omega)), h k (by omega)]
theorem tab_stepX {b : Nat → Bool} {k a : Nat} (hk : k < 64) : lN (a ||| tabN b k) ||| tlshl (Int32.toInt64 (nI (b k).toNat)) (nI k) = lN (a ||| tabN b (k + 1)) := by
  rw [nI_l (by cases b k <;> decide), n_shl64 _ hk, fb_orL, tabN, Nat.or_assoc]
theorem tab_stepX0 {b : Nat → Bool} {k : Nat} (hk : k < 64) : lN (tabN b k) ||| tlshl (Int32.toInt64 (nI (b k).toNat)) (nI k) = lN (tabN b (k + 1)) := by
  rw [nI_l (by cases b k <;> decide), n_shl64 _ hk, fb_orL, tabN]
theorem tab_step1 {b : Nat → Bool} {k a : Nat} (hk : k < 64) (hb : b k = true) : lN (a ||| tabN b k) ||| tlshl 1 (nI k) = lN (a ||| tabN b (k + 1)) := by
  rw [n_sh1L hk, fb_orL, tabN, hb, Bool.toNat_true, Nat.one_mul, Nat.or_assoc]
theorem tab_step0 {b : Nat → Bool} {k a : Nat} (hb : b k = false) : a ||| tabN b k = a ||| tabN b (k + 1) := by
  rw [tabN, hb, Bool.toNat_false, Nat.zero_mul, Nat.or_zero]
theorem lN_or0 (a : Nat) : lN a ||| 0 = lN a := by
  rw [show (0 : Int64) = lN 0 from rfl, fb_orL, Nat.or_zero]
theorem bf0 : nI false.toNat = 0 := rfl
theorem bt1 : ¬ nI true.toNat = 0 := by decide
theorem n_pcP {n : Nat} (h : n < 31) : f_X7_pointCount (nI n) = nI (pts n) := n_pc h
theorem z_or (a : Nat) : 0 ||| a = a := Nat.zero_or a
section TL
variable {t N : Nat}
theorem Xdual_loop {K : Int64 → Option (Int32 × List Int64 × Int32 × List Int32 × List Int64)} (ht : t < 2 ^ 62) (hN : N ≤ 32) (h0 : 0 < N) : ∀ (m k fu : Nat), k + m = N → m < fu → f_X7_dual_L61 (lN t) (nI (N - 1)) K fu (lN (tabN (fun p => !t.testBit (N - 1 - p)) k)) (nI k) = K (lN (tabN (fun p => !t.testBit (N - 1 - p)) N)) := by
  intro m
  induction m with
  | zero =>
    intro k fu hk hf
    obtain ⟨fu, rfl⟩ : ∃ q, fu = q + 1 := ⟨fu - 1, by omega⟩
    have : k = N := by omega
    subst this
    rw [f_X7_dual_L61, if_pos (nI_lt (by omega) (by omega))]
  | succ m ih =>
    intro k fu hk hf
    obtain ⟨fu, rfl⟩ : ∃ q, fu = q + 1 := ⟨fu - 1, by omega⟩
    rw [f_X7_dual_L61, if_neg (nI_nlt (by omega) (by omega)), pk_sub (by omega), n_bitAt (by omega) (by omega)]
    have e : (1 : Int64) - Int32.toInt64 (nI (t.testBit (N - 1 - k)).toNat) = Int32.toInt64 (nI (!t.testBit (N - 1 - k)).toNat) := by cases t.testBit (N - 1 - k) <;> decide
    have s := tab_stepX0 (b := fun p => !t.testBit (N - 1 - p)) (k := k) (by omega)
    rw [e, s, nI_1]
    exact ih (k + 1) fu (by omega) (by omega)
theorem Mdual_loop {w : Int32} {m_t : List Int64} {K : Int64 → Option (Int32 × Int32 × List Int64 × List Int32 × List Int32 × List Int64 × List Int32)} (hw : tld m_t w = some (lN t)) (ht : t < 2 ^ 62) (hN : N ≤ 32) (h0 : 0 < N) : ∀ (m k fu : Nat), k + m = N → m < fu → f_X8_dual_L34 w (nI N) m_t K fu (lN (0 ||| tabN (fun p => !t.testBit (N - 1 - p)) k)) (nI k) = K (lN (0 ||| tabN (fun p => !t.testBit (N - 1 - p)) N)) := by
  intro m
  induction m with
  | zero =>
    intro k fu hk hf
    obtain ⟨fu, rfl⟩ : ∃ q, fu = q + 1 := ⟨fu - 1, by omega⟩
    have : k = N := by omega
    subst this
    rw [f_X8_dual_L34, if_pos (nI_le (Nat.le_refl _) (by omega))]
  | succ m ih =>
    intro k fu hk hf
    obtain ⟨fu, rfl⟩ : ∃ q, fu = q + 1 := ⟨fu - 1, by omega⟩
    have e1 : nI N - 1 - nI k = nI (N - 1 - k) := by rw [show nI N - 1 = nI (N - 1) from pk_sub (b := 1) (by omega), pk_sub (by omega)]
    rw [f_X8_dual_L34, if_neg (nI_ge (by omega) (by omega)), hw, Option.bind_some, e1, n_at ht (by omega)]
    rw [← ih (k + 1) fu (by omega) (by omega), nI_1]
    cases hb : t.testBit (N - 1 - k) with
    | false => rw [if_pos bf0, tab_step1 (by omega) (by simp [hb])]
    | true => rw [if_neg bt1, lN_or0, tab_step0 (by simp [hb])]
def wb (p v e : Nat) : Nat := andn p (2 ^ v) ||| (e * 2 ^ v)
theorem wb_ok : ∀ p, p < 32 → ∀ v, v < 5 → ∀ e, e < 2 → f_X7_withBit (nI p) (nI v) (nI e) = nI (wb p v e) := by decide +kernel
theorem wb_lt {n p v e : Nat} (hp : p < pts n) (hv : v < n) (he : e < 2) : wb p v e < pts n := by
  refine Nat.or_lt_two_pow (Nat.lt_of_le_of_lt (andn_le _ _) hp) ?_
  match e, he with
  | 0, _ => rw [Nat.zero_mul]; exact Nat.two_pow_pos n
  | 1, _ => rw [Nat.one_mul]; exact Nat.pow_lt_pow_right (by decide) hv
theorem wb_M0 : ∀ p, p < 32 → ∀ v, v < 5 → (nI p &&& (((1 : Int32) <<< (nI v &&& 31)) ^^^ (-1))) ||| 0 = nI (wb p v 0) := by decide +kernel
theorem wb_M1 : ∀ p, p < 32 → ∀ v, v < 5 → (nI p &&& (((1 : Int32) <<< (nI v &&& 31)) ^^^ (-1))) ||| ((1 : Int32) <<< (nI v &&& 31)) = nI (wb p v 1) := by decide +kernel
theorem toNat_lt2 (b : Bool) : b.toNat < 2 := by cases b <;> decide
theorem Xsub_loop {n u v : Nat} {K : Int64 → Option Int64} (hn : n ≤ 5) (hv : v < n) (ht : t < 2 ^ 62) (hu : u < 2 ^ 62) : ∀ (m k fu : Nat), k + m = pts n → m < fu → f_X7_substituted_L6 (lN t) (nI v) (lN u) (nI n) K fu (lN (tabN (fun p => t.testBit (wb p v (u.testBit p).toNat)) k)) (nI k) = K (lN (tabN (fun p => t.testBit (wb p v (u.testBit p).toNat)) (pts n))) := by
  have hp := n_p5 hn
  have hp' : pts n ≤ 32 := hp
  intro m
  induction m with
  | zero =>
    intro k fu hk hf
    obtain ⟨fu, rfl⟩ : ∃ q, fu = q + 1 := ⟨fu - 1, by omega⟩
    have : k = pts n := by omega
    subst this
    rw [f_X7_substituted_L6, n_pcP (by omega), if_pos (nI_le (Nat.le_refl _) (by omega))]
  | succ m ih =>
    intro k fu hk hf
    obtain ⟨fu, rfl⟩ : ∃ q, fu = q + 1 := ⟨fu - 1, by omega⟩
    have hwb := wb_lt (n := n) (p := k) (v := v) (e := (u.testBit k).toNat) (by omega) hv (toNat_lt2 _)
    rw [f_X7_substituted_L6, n_pcP (by omega), if_neg (nI_ge (show k < pts n by omega) (by omega)), n_bitAt (t := u) (by omega) (by omega), wb_ok k (by omega) v (by omega) _ (toNat_lt2 _), n_bitAt (by omega) (by omega)]
    have s := tab_stepX0 (b := fun p => t.testBit (wb p v (u.testBit p).toNat)) (k := k) (by omega)
    rw [s, nI_1]
    exact ih (k + 1) fu (by omega) (by omega)
theorem Mcof_loop {n v e : Nat} {w : Int32} {m_t : List Int64} {K : Int64 → Option (Int32 × Int32 × List Int64 × List Int32 × List Int32 × List Int64 × List Int32)} (hw : tld m_t w = some (lN t)) (hn : n ≤ 5) (hv : v < n) (he : e < 2) (ht : t < 2 ^ 62) : ∀ (m k fu : Nat), k + m = pts n → m < fu → f_X8_cofactor_L54 w (nI v) (nI e) (nI (pts n)) m_t K fu (lN (0 ||| tabN (fun p => t.testBit (wb p v e)) k)) (nI k) = K (lN (0 ||| tabN (fun p => t.testBit (wb p v e)) (pts n))) := by
  have hp' : pts n ≤ 32 := n_p5 hn
  intro m
  induction m with
  | zero =>
    intro k fu hk hf
    obtain ⟨fu, rfl⟩ : ∃ q, fu = q + 1 := ⟨fu - 1, by omega⟩
    have : k = pts n := by omega
    subst this
    rw [f_X8_cofactor_L54, if_pos (nI_le (Nat.le_refl _) (by omega))]
  | succ m ih =>
    intro k fu hk hf
    obtain ⟨fu, rfl⟩ : ∃ q, fu = q + 1 := ⟨fu - 1, by omega⟩
    have hwb := wb_lt (n := n) (p := k) (v := v) (e := e) (by omega) hv he
    have e1 : (nI k &&& (((1 : Int32) <<< (nI v &&& 31)) ^^^ (-1))) ||| (nI e <<< (nI v &&& 31)) = nI (wb k v e) := wb_ok k (by omega) v (by omega) e he
    rw [f_X8_cofactor_L54, if_neg (nI_ge (by omega) (by omega)), hw, Option.bind_some, e1, n_at ht (by omega), ← ih (k + 1) fu (by omega) (by omega), nI_1]
    cases hb : t.testBit (wb k v e) with
    | false => rw [if_pos bf0, lN_or0, tab_step0 (by simp [hb])]
    | true => rw [if_neg bt1, tab_step1 (by omega) (by simp [hb])]
theorem Msub_loop {n v u : Nat} {w w3 : Int32} {m_t : List Int64} {K : Int64 → Option (Int32 × Int32 × List Int64 × List Int32 × List Int32 × List Int64 × List Int32)} (hw : tld m_t w = some (lN t)) (hw3 : tld m_t w3 = some (lN u)) (hn : n ≤ 5) (hv : v < n) (ht : t < 2 ^ 62) (hu : u < 2 ^ 62) : ∀ (m k fu : Nat), k + m = pts n → m < fu → f_X8_substitute_L60 w (nI v) w3 (nI (pts n)) m_t K fu (lN (0 ||| tabN (fun p => t.testBit (wb p v (u.testBit p).toNat)) k)) (nI k) = K (lN (0 ||| tabN (fun p => t.testBit (wb p v (u.testBit p).toNat)) (pts n))) := by
  have hp' : pts n ≤ 32 := n_p5 hn
  intro m
  induction m with
  | zero =>
    intro k fu hk hf
    obtain ⟨fu, rfl⟩ : ∃ q, fu = q + 1 := ⟨fu - 1, by omega⟩
    have : k = pts n := by omega
    subst this
    rw [f_X8_substitute_L60, if_pos (nI_le (Nat.le_refl _) (by omega))]
  | succ m ih =>
    intro k fu hk hf
    obtain ⟨fu, rfl⟩ : ∃ q, fu = q + 1 := ⟨fu - 1, by omega⟩
    rw [f_X8_substitute_L60, if_neg (nI_ge (by omega) (by omega)), hw3, Option.bind_some, n_at hu (by omega), ← ih (k + 1) fu (by omega) (by omega), nI_1]
    cases hb : u.testBit k with
    | false =>
      have hwb := wb_lt (n := n) (p := k) (v := v) (e := 0) (by omega) hv (by omega)
      rw [if_pos bf0, hw, Option.bind_some, wb_M0 k (by omega) v (by omega), n_at ht (by omega)]
      cases hc : t.testBit (wb k v 0) with
      | false => rw [if_pos bf0, lN_or0, tab_step0 (by simp [hb, hc])]
      | true => rw [if_neg bt1, tab_step1 (by omega) (by simp [hb, hc])]
    | true =>
      have hwb := wb_lt (n := n) (p := k) (v := v) (e := 1) (by omega) hv (by omega)
      rw [if_neg bt1, hw, Option.bind_some, wb_M1 k (by omega) v (by omega), n_at ht (by omega)]
      cases hc : t.testBit (wb k v 1) with
      | false => rw [if_pos bf0, lN_or0, tab_step0 (by simp [hb, hc])]
      | true => rw [if_neg bt1, tab_step1 (by omega) (by simp [hb, hc])]
def xw (p a b : Nat) : Nat := wb (wb p a (p.testBit b).toNat) b (p.testBit a).toNat
theorem xw_X : ∀ p, p < 32 → ∀ a, a < 5 → ∀ b, b < 5 → f_X7_withBit (f_X7_withBit (nI p) (nI a) (f_X7_bitAt (Int32.toInt64 (nI p)) (nI b))) (nI b) (f_X7_bitAt (Int32.toInt64 (nI p)) (nI a)) = nI (xw p a b) := by decide +kernel
theorem xw_M : ∀ p, p < 32 → ∀ a, a < 5 → ∀ b, b < 5 → ((((nI p &&& (((1 : Int32) <<< (nI a &&& 31)) ^^^ (-1))) &&& (((1 : Int32) <<< (nI b &&& 31)) ^^^ (-1))) ||| (((nI p >>> (nI a &&& 31)) &&& 1) <<< (nI b &&& 31))) ||| (((nI p >>> (nI b &&& 31)) &&& 1) <<< (nI a &&& 31))) = nI (xw p a b) := by decide +kernel
theorem xw_lt {n p a b : Nat} (hp : p < pts n) (ha : a < n) (hb : b < n) : xw p a b < pts n := wb_lt (wb_lt hp ha (toNat_lt2 _)) hb (toNat_lt2 _)
theorem Xexc_loop {n a b : Nat} {K : Int64 → Option (Int32 × List Int64 × Int32 × List Int32 × List Int64)} (hn : n ≤ 5) (ha : a < n) (hb : b < n) (ht : t < 2 ^ 62) : ∀ (m k fu : Nat), k + m = pts n → m < fu → f_X7_exchange_L65 (nI a) (nI b) (lN t) (nI n) K fu (lN (tabN (fun p => t.testBit (xw p a b)) k)) (nI k) = K (lN (tabN (fun p => t.testBit (xw p a b)) (pts n))) := by
  have hp := n_p5 hn
  have hp' : pts n ≤ 32 := hp
  intro m
  induction m with
  | zero =>
    intro k fu hk hf
    obtain ⟨fu, rfl⟩ : ∃ q, fu = q + 1 := ⟨fu - 1, by omega⟩
    have : k = pts n := by omega
    subst this
    rw [f_X7_exchange_L65, n_pcP (by omega), if_pos (nI_le (Nat.le_refl _) (by omega))]
  | succ m ih =>
    intro k fu hk hf
    obtain ⟨fu, rfl⟩ : ∃ q, fu = q + 1 := ⟨fu - 1, by omega⟩
    have hx := xw_lt (n := n) (p := k) (by omega) ha hb
    rw [f_X7_exchange_L65, n_pcP (by omega), if_neg (nI_ge (show k < pts n by omega) (by omega)), xw_X k (by omega) a (by omega) b (by omega), n_bitAt (by omega) (by omega)]
    have s := tab_stepX0 (b := fun p => t.testBit (xw p a b)) (k := k) (by omega)
    rw [s, nI_1]
    exact ih (k + 1) fu (by omega) (by omega)
theorem Mexc_loop {n a b : Nat} {w : Int32} {m_t : List Int64} {K : Int64 → Option (Int32 × Int32 × List Int64 × List Int32 × List Int32 × List Int64 × List Int32)} (hw : tld m_t w = some (lN t)) (hn : n ≤ 5) (ha : a < n) (hb : b < n) (ht : t < 2 ^ 62) : ∀ (m k fu : Nat), k + m = pts n → m < fu → f_X8_exchange_L52 w (nI a) (nI b) (nI (pts n)) m_t K fu (lN (0 ||| tabN (fun p => t.testBit (xw p a b)) k)) (nI k) = K (lN (0 ||| tabN (fun p => t.testBit (xw p a b)) (pts n))) := by
  have hp' : pts n ≤ 32 := n_p5 hn
  intro m
  induction m with
  | zero =>
    intro k fu hk hf
    obtain ⟨fu, rfl⟩ : ∃ q, fu = q + 1 := ⟨fu - 1, by omega⟩
    have : k = pts n := by omega
    subst this
    rw [f_X8_exchange_L52, if_pos (nI_le (Nat.le_refl _) (by omega))]
  | succ m ih =>
    intro k fu hk hf
    obtain ⟨fu, rfl⟩ : ∃ q, fu = q + 1 := ⟨fu - 1, by omega⟩
    have hx := xw_lt (n := n) (p := k) (by omega) ha hb
    rw [f_X8_exchange_L52, if_neg (nI_ge (by omega) (by omega)), hw, Option.bind_some, xw_M k (by omega) a (by omega) b (by omega), n_at ht (by omega), ← ih (k + 1) fu (by omega) (by omega), nI_1]
    cases hc : t.testBit (xw k a b) with
    | false => rw [if_pos bf0, lN_or0, tab_step0 (by simp [hc])]
    | true => rw [if_neg bt1, tab_step1 (by omega) (by simp [hc])]
end TL
theorem tab0 {b : Nat → Bool} {N : Nat} : lN (0 ||| tabN b N) = lN (tabN b N) := by rw [Nat.zero_or]
theorem Xsub {n t u v : Nat} (hn : n ≤ 5) (hv : v < n) (ht : t < tabs n) (hu : u < tabs n) : f_X7_substituted (lN t) (nI v) (lN u) (nI n) = some (lN (tabN (fun p => t.testBit (wb p v (u.testBit p).toNat)) (pts n))) := Xsub_loop (t := t) hn hv (tabs63 hn ht) (tabs63 hn hu) (pts n) 0 tFU (by omega) (by have := n_p5 hn; unfold tFU pts; omega)
