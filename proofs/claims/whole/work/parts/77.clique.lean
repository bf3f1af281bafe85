/-! cliques -/
def clq (A : Nat → Nat) (s N : Nat) : Bool := !anyB (fun v => s.testBit v && (andn (andn s (2 ^ v)) (A v) != 0)) N 0
def mxl (V : Nat) (A : Nat → Nat) (s N : Nat) : Bool := !anyB (fun v => V.testBit v && (!s.testBit v && clq A (s ||| 2 ^ v) N)) N 0
theorem n_z {a : Nat} (h : a < 2 ^ 31) : nI a = 0 ↔ a = 0 := nI_eq (b := 0) h (by decide)
theorem M_cl_loop {n s : Nat} {A : Nat → Nat} (hn : n ≤ 5) (hs : s < 32) {K : Option Int32} : ∀ (m k fu : Nat), k + m = n → m < fu → f_X8_isClique_L2 (nI s) (nI n) (adjL A) K fu (nI k) = if anyB (fun v => s.testBit v && (andn (andn s (2 ^ v)) (A v) != 0)) m k then some 0 else K := by
  intro m
  induction m with
  | zero =>
    intro k fu hk hf
    obtain ⟨fu, rfl⟩ : ∃ q, fu = q + 1 := ⟨fu - 1, by omega⟩
    have : k = n := by omega
    subst this
    rw [f_X8_isClique_L2, if_pos (nI_le (Nat.le_refl _) (by omega))]; rfl
  | succ m ih =>
    intro k fu hk hf
    obtain ⟨fu, rfl⟩ : ∃ q, fu = q + 1 := ⟨fu - 1, by omega⟩
    have h1 := andn_le (andn s (2 ^ k)) (A k)
    have h2 := andn_le s (2 ^ k)
    rw [f_X8_isClique_L2, if_neg (nI_ge (by omega) (by omega)), n_bit (by omega) (by omega), adjL_ld A (by omega), Option.bind_some, n_andp (by omega), n_andn, nI_1, ih (k + 1) fu (by omega) (by omega), anyB]
    cases s.testBit k with
    | false => rw [if_neg (by decide)]; rfl
    | true =>
      rw [if_pos (by decide)]
      by_cases hz : andn (andn s (2 ^ k)) (A k) = 0
      · rw [if_pos ((n_z (by omega)).mpr hz), hz]; rfl
      · rw [if_neg (fun q => hz ((n_z (by omega)).mp q)), bne_iff_ne.mpr hz]; rfl
theorem M_cl {n s : Nat} {A : Nat → Nat} (hn : n ≤ 5) (hs : s < 32) : f_X8_isClique (nI s) (nI n) (adjL A) = some (nI (clq A s n).toNat) := by
  have h := M_cl_loop (A := A) hn hs (K := some 1) n 0 tFU (by omega) (by unfold tFU; omega)
  rw [nI_0] at h
  unfold f_X8_isClique clq
  rw [h]
  cases anyB (fun v => s.testBit v && (andn (andn s (2 ^ v)) (A v) != 0)) n 0 <;> rfl
theorem M_mx_loop {n s V : Nat} {A : Nat → Nat} (hn : n ≤ 5) (hs : s < pts n) (hV : V < 32) {K : Option Int32} : ∀ (m k fu : Nat), k + m = n → m < fu → f_X8_isMaximal_L2 (nI s) (nI n) (nI V) (adjL A) K fu (nI k) = if anyB (fun v => V.testBit v && (!s.testBit v && clq A (s ||| 2 ^ v) n)) m k then some 0 else K := by
  have h32 := pts_32 hn
  intro m
  induction m with
  | zero =>
    intro k fu hk hf
    obtain ⟨fu, rfl⟩ : ∃ q, fu = q + 1 := ⟨fu - 1, by omega⟩
    have : k = n := by omega
    subst this
    rw [f_X8_isMaximal_L2, if_pos (nI_le (Nat.le_refl _) (by omega))]; rfl
  | succ m ih =>
    intro k fu hk hf
    obtain ⟨fu, rfl⟩ : ∃ q, fu = q + 1 := ⟨fu - 1, by omega⟩
    have h1 := or_pow_lt (v := k) hs (by omega : k < n)
    rw [f_X8_isMaximal_L2, if_neg (nI_ge (by omega) (by omega)), n_bit (by omega) (by omega), n_bit (by omega) (by omega), n_orp (by omega), M_cl hn (by omega), Option.bind_some, nI_1, ih (k + 1) fu (by omega) (by omega), anyB]
    cases V.testBit k with
    | false => rw [if_neg (by decide)]; rfl
    | true =>
      rw [if_pos (by decide)]
      cases s.testBit k with
      | true => rw [if_neg bt1]; rfl
      | false =>
        rw [if_pos bf0]
        cases clq A (s ||| 2 ^ k) n with
        | false => rw [if_pos bf0]; rfl
        | true => rw [if_neg bt1]; rfl
theorem M_mx {n s V : Nat} {A : Nat → Nat} (hn : n ≤ 5) (hs : s < pts n) (hV : V < 32) : f_X8_isMaximal (nI s) (nI n) (nI V) (adjL A) = some (nI (mxl V A s n).toNat) := by
  have h := M_mx_loop (A := A) hn hs hV (K := some 1) n 0 tFU (by omega) (by unfold tFU; omega)
  rw [nI_0] at h
  unfold f_X8_isMaximal mxl
  rw [h]
  cases anyB (fun v => V.testBit v && (!s.testBit v && clq A (s ||| 2 ^ v) n)) n 0 <;> rfl
def bcond (n t V : Nat) (A : Nat → Nat) (s : Nat) : Bool := (andn s V == 0) && (clq A s n && (mxl V A s n && !prm n t s))
theorem M_bad_loop {n t V : Nat} {A : Nat → Nat} (hn : n ≤ 5) (ht : t < 2 ^ 62) (hV : V < 32) {K : Option Int32} : ∀ (m k fu : Nat), k + m = pts n → m < fu → f_X8_badCliqueOf_L2 (lN t) (nI n) (nI (pts n)) (nI V) (adjL A) K fu (nI k) = match ff (bcond n t V A) m k with | some p => some (nI p) | none => K := by
  have h32 := pts_32 hn
  intro m
  induction m with
  | zero =>
    intro k fu hk hf
    obtain ⟨fu, rfl⟩ : ∃ q, fu = q + 1 := ⟨fu - 1, by omega⟩
    have : k = pts n := by omega
    subst this
    rw [f_X8_badCliqueOf_L2, if_pos (nI_le (Nat.le_refl _) (by omega))]; rfl
  | succ m ih =>
    intro k fu hk hf
    obtain ⟨fu, rfl⟩ : ∃ q, fu = q + 1 := ⟨fu - 1, by omega⟩
    have h1 := andn_le k V
    rw [f_X8_badCliqueOf_L2, if_neg (nI_ge (by omega) (by omega)), n_andn, M_cl hn (by omega), M_mx hn (by omega) hV, M_prime hn ht (by omega), Option.bind_some, Option.bind_some, Option.bind_some, nI_1, ih (k + 1) fu (by omega) (by omega), ff]
    unfold bcond
    by_cases hz : andn k V = 0
    · rw [if_pos ((n_z (by omega)).mpr hz), hz]
      cases clq A k n with
      | false => rw [if_pos bf0]; rfl
      | true =>
        rw [if_neg bt1]
        cases mxl V A k n with
        | false => rw [if_pos bf0]; rfl
        | true =>
          rw [if_neg bt1]
          cases prm n t k with
          | false => rw [if_pos bf0]; rfl
          | true => rw [if_neg bt1]; rfl
    · rw [if_neg (fun q => hz ((n_z (by omega)).mp q)), beq_eq_false_iff_ne.mpr hz]; rfl
theorem M_bad {n t V : Nat} {A : Nat → Nat} (hn : n ≤ 5) (ht : t < 2 ^ 62) (hV : V < 32) : f_X8_badCliqueOf (lN t) (nI n) (nI (pts n)) (nI V) (adjL A) = some (oI (ff (bcond n t V A) (pts n - 1) 1)) := by
  have := pts_pos n
  have h := M_bad_loop (A := A) hn ht hV (K := some (-1)) (pts n - 1) 1 tFU (by omega) (by have := pts_fu hn; omega)
  unfold f_X8_badCliqueOf
  have h : f_X8_badCliqueOf_L2 (lN t) (nI n) (nI (pts n)) (nI V) (adjL A) (some (-1)) tFU 1 = _ := h
  rw [h]
  cases ff (bcond n t V A) (pts n - 1) 1 <;> rfl
def mc (A : Nat → Nat) (s : Nat) : Nat → Nat → Nat → Bool
  | 0, c, _ => c == 0
  | m + 1, c, v => if s.testBit v then (if andn (andn s (2 ^ v)) (A v) = 0 then mc A s m (c &&& A v) (v + 1) else false) else mc A s m c (v + 1)
theorem X_mc {s : Nat} {A : Nat → Nat} (hs : s < 32) : ∀ (m k fu c : Nat), c < 32 → k + m = 5 → m < fu → f_X3_isMaximalClique_L7 (nI s) (adjL A) (fun y8 => (if y8 = 0 then some 1 else some 0)) fu (nI c) (nI k) = some (nI (mc A s m c k).toNat) := by
  intro m
  induction m with
  | zero =>
    intro k fu c hc hk hf
    obtain ⟨fu, rfl⟩ : ∃ q, fu = q + 1 := ⟨fu - 1, by omega⟩
    have : k = 5 := by omega
    subst this
    rw [f_X3_isMaximalClique_L7, if_pos (by decide), mc]
    by_cases h : c = 0
    · rw [h]; rfl
    · rw [if_neg (fun q => h ((n_z (by omega)).mp q)), beq_eq_false_iff_ne.mpr h]; rfl
  | succ m ih =>
    intro k fu c hc hk hf
    obtain ⟨fu, rfl⟩ : ∃ q, fu = q + 1 := ⟨fu - 1, by omega⟩
    have h1 := andn_le (andn s (2 ^ k)) (A k)
    have h2 := andn_le s (2 ^ k)
    have h3 : c &&& A k ≤ c := Nat.and_le_left
    rw [f_X3_isMaximalClique_L7, if_neg (by rw [show (5 : Int32) = nI 5 from rfl]; exact nI_ge (by omega) (by decide)), n_has (by omega) (by omega), adjL_ld A (by omega), Option.bind_some, n_andp (by omega), n_andn, Option.bind_some, fa_and, nI_1, ih (k + 1) fu c hc (by omega) (by omega), ih (k + 1) fu (c &&& A k) (by omega) (by omega) (by omega), mc]
    cases s.testBit k with
    | false => rw [if_pos bf0]; rfl
    | true =>
      rw [if_neg bt1]
      by_cases hz : andn (andn s (2 ^ k)) (A k) = 0
      · rw [if_pos ((n_z (by omega)).mpr hz), if_pos rfl, if_pos hz]
      · rw [if_neg (fun q => hz ((n_z (by omega)).mp q)), if_pos rfl, if_neg hz]; rfl
theorem mc_iff {A : Nat → Nat} {s : Nat} : ∀ {m c v : Nat}, mc A s m c v = true ↔ (∀ i, v ≤ i → i < v + m → s.testBit i = true → andn (andn s (2 ^ i)) (A i) = 0) ∧ ∀ u, c.testBit u = true → ∃ i, v ≤ i ∧ i < v + m ∧ s.testBit i = true ∧ (A i).testBit u = false
  | 0, c, v => by
    rw [mc, beq_iff_eq]
    constructor
    · intro h
      refine ⟨fun i h1 h2 => absurd h2 (by omega), fun u hu => ?_⟩
      rw [h, Nat.zero_testBit] at hu; cases hu
    · rintro ⟨-, h⟩
      apply Nat.eq_of_testBit_eq
      intro u
      rw [Nat.zero_testBit]
      cases hu : c.testBit u with
      | false => rfl
      | true =>
        obtain ⟨i, h1, h2, -⟩ := h u hu
        exact absurd h2 (by omega)
  | m + 1, c, v => by
    rw [mc]
    cases hv : s.testBit v with
    | false =>
      rw [if_neg (by decide), mc_iff]
      constructor
      · rintro ⟨h1, h2⟩
        refine ⟨fun i a b d => ?_, fun u hu => ?_⟩
        · by_cases e : i = v
          · subst e; rw [hv] at d; cases d
          · exact h1 i (by omega) (by omega) d
        · obtain ⟨i, a, b, d⟩ := h2 u hu
          exact ⟨i, by omega, by omega, d⟩
      · rintro ⟨h1, h2⟩
        refine ⟨fun i a b d => h1 i (by omega) (by omega) d, fun u hu => ?_⟩
        obtain ⟨i, a, b, d, e⟩ := h2 u hu
        refine ⟨i, ?_, by omega, d, e⟩
        by_cases e : i = v
        · subst e; rw [hv] at d; cases d
        · omega
    | true =>
      rw [if_pos rfl]
      by_cases hz : andn (andn s (2 ^ v)) (A v) = 0
      · rw [if_pos hz, mc_iff]
        constructor
        · rintro ⟨h1, h2⟩
          refine ⟨fun i a b d => ?_, fun u hu => ?_⟩
          · by_cases e : i = v
            · subst e; exact hz
            · exact h1 i (by omega) (by omega) d
          · cases hu2 : (A v).testBit u with
            | false => exact ⟨v, by omega, by omega, hv, hu2⟩
            | true =>
              obtain ⟨i, a, b, d⟩ := h2 u (by rw [Nat.testBit_and, hu, hu2]; rfl)
              exact ⟨i, by omega, by omega, d⟩
        · rintro ⟨h1, h2⟩
          refine ⟨fun i a b d => h1 i (by omega) (by omega) d, fun u hu => ?_⟩
          rw [Nat.testBit_and, Bool.and_eq_true] at hu
          obtain ⟨i, a, b, d, e⟩ := h2 u hu.1
          refine ⟨i, ?_, by omega, d, e⟩
          by_cases e2 : i = v
          · subst e2; rw [hu.2] at e; cases e
          · omega
      · rw [if_neg hz]
        constructor
        · intro h; cases h
        · rintro ⟨h1, -⟩
          exact absurd (h1 v (by omega) (by omega) hv) hz
theorem andn_zero {a b : Nat} : andn a b = 0 ↔ ∀ i, a.testBit i = true → b.testBit i = true := by
  constructor
  · intro h i hi
    have := congrArg (fun z => z.testBit i) h
    simp only [andn_bit, hi, Nat.zero_testBit, Bool.true_and] at this
    cases hb : b.testBit i with
    | true => rfl
    | false => rw [hb] at this; cases this
  · intro h
    apply Nat.eq_of_testBit_eq
    intro i
    rw [andn_bit, Nat.zero_testBit]
    cases ha : a.testBit i with
    | false => rfl
    | true => rw [h i ha]; rfl
theorem nb_zero {A : Nat → Nat} {s v : Nat} : andn (andn s (2 ^ v)) (A v) = 0 ↔ ∀ w, s.testBit w = true → w ≠ v → (A v).testBit w = true := by
  rw [andn_zero]
  constructor
  · intro h w hw hne
    refine h w ?_
    rw [andn_bit, hw, Nat.testBit_two_pow]; simp [Ne.symm hne]
  · intro h i hi
    rw [andn_bit, Bool.and_eq_true, Nat.testBit_two_pow] at hi
    exact h i hi.1 (fun e => by subst e; simp at hi)
theorem clq_iff {A : Nat → Nat} {s n : Nat} (hs : s < 2 ^ n) : clq A s n = true ↔ ∀ v w, s.testBit v = true → s.testBit w = true → w ≠ v → (A v).testBit w = true := by
  unfold clq
  rw [Bool.not_eq_true', ← Bool.not_eq_true, anyB_iff]
  constructor
  · intro h v w hv hw hne
    have hvn := bit_lo hs hv
    by_cases hz : andn (andn s (2 ^ v)) (A v) = 0
    · exact nb_zero.mp hz w hw hne
    · exact absurd ⟨v, by omega, by omega, by rw [hv, bne_iff_ne.mpr hz]; rfl⟩ h
  · rintro h ⟨v, -, hv, hb⟩
    rw [Bool.and_eq_true, bne_iff_ne] at hb
    exact hb.2 (nb_zero.mpr (fun w hw hne => h v w hb.1 hw hne))
theorem mc_same {n V s : Nat} {A : Nat → Nat} (hg : gok n V A) (hn : n ≤ 5) (hs : s < 2 ^ n) : mc A s 5 V 0 = (clq A s n && mxl V A s n) := by
  have h5 : 2 ^ n ≤ 2 ^ 5 := Nat.pow_le_pow_right (by decide) hn
  rw [Bool.eq_iff_iff, Bool.and_eq_true, mc_iff, clq_iff hs]
  have hirr : ∀ u, (A u).testBit u = false := fun u => by
    cases h : (A u).testBit u with
    | false => rfl
    | true => exact absurd rfl (hg.2 u u h).1
  constructor
  · rintro ⟨h1, h2⟩
    have hc : ∀ v w, s.testBit v = true → s.testBit w = true → w ≠ v → (A v).testBit w = true := fun v w hv hw hne => nb_zero.mp (h1 v (by omega) (by have := bit_lo hs hv; omega) hv) w hw hne
    refine ⟨hc, ?_⟩
    unfold mxl
    rw [Bool.not_eq_true', ← Bool.not_eq_true, anyB_iff]
    rintro ⟨u, -, hu, hb⟩
    rw [Bool.and_eq_true, Bool.and_eq_true, Bool.not_eq_true'] at hb
    obtain ⟨b1, b2, b3⟩ := hb
    obtain ⟨i, -, -, d, e⟩ := h2 u b1
    have := (clq_iff (or_pow_lt hs (by omega : u < n))).mp b3 i u (by rw [Nat.testBit_or, d]; rfl) (by rw [Nat.testBit_or, Nat.testBit_two_pow]; simp) (fun x => by subst x; rw [b2] at d; cases d)
    rw [e] at this; cases this
  · rintro ⟨h1, h2⟩
    refine ⟨fun i _ _ d => nb_zero.mpr (fun w hw hne => h1 i w d hw hne), fun u hu => ?_⟩
    have hun := bit_lo hg.1 hu
    cases hsu : s.testBit u with
    | true => exact ⟨u, by omega, by omega, hsu, hirr u⟩
    | false =>
      unfold mxl at h2
      rw [Bool.not_eq_true', ← Bool.not_eq_true, anyB_iff] at h2
      have h3 : clq A (s ||| 2 ^ u) n = false := by
        cases h3 : clq A (s ||| 2 ^ u) n with
        | false => rfl
        | true => exact absurd ⟨u, by omega, by omega, by rw [hu, hsu, h3]; rfl⟩ h2
      apply Classical.byContradiction
      intro hno
      have h4 : ∀ i, s.testBit i = true → (A i).testBit u = true := by
        intro i hi
        cases hb : (A i).testBit u with
        | true => rfl
        | false => exact absurd ⟨i, by omega, by have := bit_lo hs hi; omega, hi, hb⟩ hno
      rw [← Bool.not_eq_true] at h3
      apply h3
      rw [clq_iff (or_pow_lt hs hun)]
      intro v w hv hw hne
      rw [Nat.testBit_or, Nat.testBit_two_pow, Bool.or_eq_true, decide_eq_true_iff] at hv hw
      rcases hv with hv | rfl
      · rcases hw with hw | rfl
        · exact h1 v w hv hw hne
        · exact h4 v hv
      · rcases hw with hw | rfl
        · exact (hg.2 w u (h4 w hw)).2.1
        · exact absurd rfl hne
theorem X_isPrime {L : List Nat} {g_p : List Int32} (hp : pre 32 g_p (L.map nI)) (hL : ∀ q ∈ L, q < 2 ^ 31) {s : Nat} (hs : s < 2 ^ 31) : f_X3_isPrime (nI s) (nI L.length) g_p = some (nI (L.contains s).toNat) := by
  have hl : L.length ≤ 32 := by have := hp.le; rw [List.length_map] at this; exact this
  have key : ∀ (m k fu : Nat), k + m = L.length → m < fu → f_X3_isPrime_L2 (nI s) (nI L.length) g_p (some 0) fu (nI k) = some (nI ((L.drop k).contains s).toNat) := by
    intro m
    induction m with
    | zero =>
      intro k fu hk hf
      obtain ⟨fu, rfl⟩ : ∃ q, fu = q + 1 := ⟨fu - 1, by omega⟩
      have : k = L.length := by omega
      subst this
      rw [f_X3_isPrime_L2, if_pos (nI_le (Nat.le_refl _) (by omega)), List.drop_length]; rfl
    | succ m ih =>
      intro k fu hk hf
      obtain ⟨fu, rfl⟩ : ∃ q, fu = q + 1 := ⟨fu - 1, by omega⟩
      have hkl : k < L.length := by omega
      rw [f_X3_isPrime_L2, if_neg (nI_ge hkl (by omega)), hp.ld (by decide) (by rw [List.length_map]; exact hkl), List.getElem?_map, List.getElem?_eq_getElem hkl]
      have hq := hL L[k] (List.getElem_mem hkl)
      rw [List.drop_eq_getElem_cons hkl, List.contains_cons, nI_1, ih (k + 1) fu (by omega) (by omega)]
      show (if nI L[k] = nI s then some 1 else _) = _
      by_cases e : L[k] = s
      · rw [if_pos (congrArg nI e), e, beq_self_eq_true]; rfl
      · rw [if_neg (fun q => e ((nI_eq hq hs).mp q)), beq_eq_false_iff_ne.mpr (Ne.symm e), Bool.false_or]
  exact key L.length 0 tFU (by omega) (by unfold tFU; omega)
theorem PL_cont {n t s : Nat} (hs : s < pts n) : (PL n t (pts n)).contains s = prm n t s := by
  rw [Bool.eq_iff_iff, List.contains_iff_mem, PL_mem]
  exact ⟨fun h => h.2, fun h => ⟨hs, h⟩⟩
def bad (n t : Nat) : Option Nat := ff (bcond n t (VS n t (pts n)) (NB n t (pts n))) (pts n - 1) 1
theorem X_bad {n t : Nat} (hn : n ≤ 5) {g_p : List Int32} (hp : pre 32 g_p ((PL n t (pts n)).map nI)) : f_X3_lowestBadClique (nI (PL n t (pts n)).length) (nI (VS n t (pts n))) g_p (adjL (NB n t (pts n))) = some (oI (bad n t)) := by
  have h32 := pts_32 hn
  have hg := NB_ok n t
  have hV : VS n t (pts n) < pts n := hg.1
  have hL : ∀ q ∈ PL n t (pts n), q < 2 ^ 31 := fun q hq => by have := (PL_mem.mp hq).1; omega
  have key : ∀ (m k fu : Nat), k + m = VS n t (pts n) + 1 → m < fu → f_X3_lowestBadClique_L2 (nI (PL n t (pts n)).length) (nI (VS n t (pts n))) g_p (adjL (NB n t (pts n))) (some (-1)) fu (nI k) = some (oI (ff (bcond n t (VS n t (pts n)) (NB n t (pts n))) m k)) := by
    intro m
    induction m with
    | zero =>
      intro k fu hk hf
      obtain ⟨fu, rfl⟩ : ∃ q, fu = q + 1 := ⟨fu - 1, by omega⟩
      rw [f_X3_lowestBadClique_L2, if_pos (nI_lt (by omega) (by omega))]; rfl
    | succ m ih =>
      intro k fu hk hf
      obtain ⟨fu, rfl⟩ : ∃ q, fu = q + 1 := ⟨fu - 1, by omega⟩
      have h1 := andn_le k (VS n t (pts n))
      have hm := X_mc (A := NB n t (pts n)) (s := k) (by omega) 5 0 tFU (VS n t (pts n)) (by omega) (by omega) (by unfold tFU; omega)
      rw [nI_0, mc_same hg hn (show k < pts n by omega)] at hm
      have hm : f_X3_isMaximalClique (nI k) (nI (VS n t (pts n))) (adjL (NB n t (pts n))) = _ := hm
      rw [f_X3_lowestBadClique_L2, if_neg (nI_nlt (by omega) (by omega)), n_andn, hm, Option.bind_some, X_isPrime hp hL (by omega), Option.bind_some, PL_cont (by omega), nI_1, ih (k + 1) fu (by omega) (by omega), ff]
      unfold bcond
      by_cases hz : andn k (VS n t (pts n)) = 0
      · rw [if_pos ((n_z (by omega)).mpr hz), hz]
        cases clq (NB n t (pts n)) k n with
        | false => rw [Bool.false_and, if_pos bf0]; rfl
        | true =>
          cases mxl (VS n t (pts n)) (NB n t (pts n)) k n with
          | false => rw [Bool.true_and, if_pos bf0]; rfl
          | true =>
            rw [Bool.true_and, if_neg bt1]
            cases prm n t k with
            | false => rw [if_pos bf0]; rfl
            | true => rw [if_neg bt1]; rfl
      · rw [if_neg (fun q => hz ((n_z (by omega)).mp q)), beq_eq_false_iff_ne.mpr hz]; rfl
  have hk := key (VS n t (pts n)) 1 tFU (by omega) (by unfold tFU; omega)
  have hk : f_X3_lowestBadClique (nI (PL n t (pts n)).length) (nI (VS n t (pts n))) g_p (adjL (NB n t (pts n))) = _ := hk
  rw [hk]
  unfold bad
  rw [show pts n - 1 = VS n t (pts n) + (pts n - 1 - VS n t (pts n)) by omega, ff_add]
  have hnone : ff (bcond n t (VS n t (pts n)) (NB n t (pts n))) (pts n - 1 - VS n t (pts n)) (1 + VS n t (pts n)) = none := by
    apply ff_none_of
    intro j h1 h2
    unfold bcond
    rw [beq_eq_false_iff_ne.mpr]
    · rfl
    · intro hz
      have := Nat.le_of_testBit (fun i hi => andn_zero.mp hz i hi)
      omega
  rw [hnone]
  cases ff (bcond n t (VS n t (pts n)) (NB n t (pts n))) (VS n t (pts n)) 1 <;> rfl
