/-! prime implicants and the graph, by numbers -/
def prm (n t q : Nat) : Bool := t.testBit q && !anyB (fun v => q.testBit v && t.testBit (q ^^^ 2 ^ v)) n 0
def PL (n t : Nat) : Nat → List Nat
  | 0 => []
  | k + 1 => if prm n t k then PL n t k ++ [k] else PL n t k
def VS (n t : Nat) : Nat → Nat
  | 0 => 0
  | k + 1 => if prm n t k then VS n t k ||| k else VS n t k
def NB (n t : Nat) (k v : Nat) : Nat := match k with
  | 0 => 0
  | k + 1 => if prm n t k && k.testBit v then NB n t k v ||| andn k (2 ^ v) else NB n t k v
theorem andn_pow {q v : Nat} (h : q.testBit v = true) : andn q (2 ^ v) = q ^^^ 2 ^ v := by
  apply Nat.eq_of_testBit_eq
  intro i
  rw [andn_bit, Nat.testBit_xor, Nat.testBit_two_pow]
  by_cases hi : v = i
  · subst hi; simp [h]
  · simp [hi]
theorem andn_pow0 {q v : Nat} (h : q.testBit v = false) : andn q (2 ^ v) = q := by
  apply Nat.eq_of_testBit_eq
  intro i
  rw [andn_bit, Nat.testBit_two_pow]
  by_cases hi : v = i
  · subst hi; simp [h]
  · simp [hi]
theorem andn_pow_ne {q v : Nat} (h : q.testBit v = true) : andn q (2 ^ v) ≠ q := by
  intro e
  have := congrArg (fun z => z.testBit v) e
  simp only [andn_bit, Nat.testBit_two_pow, h] at this
  simp at this
theorem n_andp {q v : Nat} (hv : v < 31) : nI q &&& (((1 : Int32) <<< (nI v &&& 31)) ^^^ (-1)) = nI (andn q (2 ^ v)) := by rw [n_sh1 v hv, n_andn]
theorem n_has {s v : Nat} (hs : s < 2 ^ 31) (hv : v < 32) : f_X7_hasVariable (nI s) (nI v) = nI (s.testBit v).toNat := by
  unfold f_X7_hasVariable
  rw [n_bit hs hv]
  cases s.testBit v <;> decide
theorem X_min {n t q : Nat} (hn : n ≤ 5) (ht : t < 2 ^ 62) (hq : q < pts n) {K : Option Int32} : ∀ (m k fu : Nat), k + m = n → m < fu → f_X3_isMinimal_L3 (nI n) (lN t) (nI q) K fu (nI k) = if anyB (fun v => q.testBit v && t.testBit (q ^^^ 2 ^ v)) m k then some 0 else K := by
  have h32 := pts_32 hn
  intro m
  induction m with
  | zero =>
    intro k fu hk hf
    obtain ⟨fu, rfl⟩ : ∃ q, fu = q + 1 := ⟨fu - 1, by omega⟩
    have : k = n := by omega
    subst this
    rw [f_X3_isMinimal_L3, if_pos (nI_le (Nat.le_refl _) (by omega))]; rfl
  | succ m ih =>
    intro k fu hk hf
    obtain ⟨fu, rfl⟩ : ∃ q, fu = q + 1 := ⟨fu - 1, by omega⟩
    have hl := andn_le q (2 ^ k)
    rw [f_X3_isMinimal_L3, if_neg (nI_ge (by omega) (by omega)), n_andp (by omega), n_bitAt (by omega) (by omega), anyB, nI_1, ih (k + 1) fu (by omega) (by omega)]
    cases hb : q.testBit k with
    | false => rw [andn_pow0 hb, if_pos rfl]; rfl
    | true =>
      rw [if_neg (by rw [nI_eq (by omega) (by omega)]; exact andn_pow_ne hb), andn_pow hb]
      cases t.testBit (q ^^^ 2 ^ k) with
      | false => rw [if_neg (by decide)]; rfl
      | true => rw [if_pos (by decide)]; rfl
theorem M_min {n t q : Nat} (hn : n ≤ 5) (ht : t < 2 ^ 62) (hq : q < pts n) {K : Option Int32} : ∀ (m k fu : Nat), k + m = n → m < fu → f_X8_isPrime_L13 (lN t) (nI q) (nI n) K fu (nI k) = if anyB (fun v => q.testBit v && t.testBit (q ^^^ 2 ^ v)) m k then some 0 else K := by
  have h32 := pts_32 hn
  intro m
  induction m with
  | zero =>
    intro k fu hk hf
    obtain ⟨fu, rfl⟩ : ∃ q, fu = q + 1 := ⟨fu - 1, by omega⟩
    have : k = n := by omega
    subst this
    rw [f_X8_isPrime_L13, if_pos (nI_le (Nat.le_refl _) (by omega))]; rfl
  | succ m ih =>
    intro k fu hk hf
    obtain ⟨fu, rfl⟩ : ∃ q, fu = q + 1 := ⟨fu - 1, by omega⟩
    have hl := xor_pow_lt (v := k) hq (by omega : k < n)
    rw [f_X8_isPrime_L13, if_neg (nI_ge (by omega) (by omega)), n_bit (by omega) (by omega), n_xorp (by omega), n_at ht (by omega), anyB, nI_1, ih (k + 1) fu (by omega) (by omega)]
    cases hb : q.testBit k with
    | false => rw [if_neg (by decide)]; rfl
    | true =>
      rw [if_pos (by decide)]
      cases t.testBit (q ^^^ 2 ^ k) with
      | false => rw [if_pos bf0]; rfl
      | true => rw [if_neg bt1]; rfl
theorem M_prime {n t q : Nat} (hn : n ≤ 5) (ht : t < 2 ^ 62) (hq : q < pts n) : f_X8_isPrime (lN t) (nI q) (nI n) = some (nI (prm n t q).toNat) := by
  have h32 := pts_32 hn
  have h := M_min hn ht hq (K := some 1) n 0 tFU (by omega) (by unfold tFU; omega)
  rw [nI_0] at h
  unfold f_X8_isPrime prm
  rw [n_at ht (by omega), h]
  cases t.testBit q with
  | false => rw [if_pos bf0]; rfl
  | true =>
    rw [if_neg bt1]
    cases anyB (fun v => q.testBit v && t.testBit (q ^^^ 2 ^ v)) n 0 <;> rfl
/-- one entry of the adjacency changes -/
def updN (A : Nat → Nat) (j x : Nat) : Nat → Nat := fun v => if v = j then x else A v
theorem adjL_len (A : Nat → Nat) : (adjL A).length = 5 := rfl
theorem adjL_ld (A : Nat → Nat) {j : Nat} (hj : j < 5) : tld (adjL A) (nI j) = some (nI (A j)) := by
  rw [tld_nI (by omega)]
  match j, hj with
  | 0, _ => rfl
  | 1, _ => rfl
  | 2, _ => rfl
  | 3, _ => rfl
  | 4, _ => rfl
theorem adjL_st (A : Nat → Nat) {j x : Nat} (hj : j < 5) : tst (adjL A) (nI j) (nI x) = some (adjL (updN A j x)) := by
  rw [tst_nI (by rw [adjL_len]; omega) (by rw [adjL_len]; decide)]
  match j, hj with
  | 0, _ => rfl
  | 1, _ => rfl
  | 2, _ => rfl
  | 3, _ => rfl
  | 4, _ => rfl
theorem adjL_cong {A B : Nat → Nat} (h : ∀ v, v < 5 → A v = B v) : adjL A = adjL B := by
  unfold adjL
  rw [h 0 (by decide), h 1 (by decide), h 2 (by decide), h 3 (by decide), h 4 (by decide)]
theorem adjL_zero {xs : List Int32} (h : xs.length = 5) : tfill xs 0 = some (adjL (fun _ => 0)) := by
  unfold tfill
  rw [h]; rfl
/-- a prime's part of the adjacency, for the variables below k -/
def gst (A : Nat → Nat) (q k : Nat) : Nat → Nat := fun v => if v < k ∧ q.testBit v = true then A v ||| andn q (2 ^ v) else A v
theorem gst_step {A : Nat → Nat} {q k : Nat} (h : q.testBit k = true) : updN (gst A q k) k (gst A q k k ||| andn q (2 ^ k)) = gst A q (k + 1) := by
  funext v
  unfold updN gst
  by_cases hv : v = k
  · subst hv
    rw [if_pos rfl, if_neg (by omega), if_pos ⟨by omega, h⟩]
  · rw [if_neg hv]
    by_cases h2 : v < k ∧ q.testBit v = true
    · rw [if_pos h2, if_pos ⟨by omega, h2.2⟩]
    · rw [if_neg h2, if_neg (fun h3 => h2 ⟨by omega, h3.2⟩)]
theorem gst_skip {A : Nat → Nat} {q k : Nat} (h : q.testBit k = false) : gst A q (k + 1) = gst A q k := by
  funext v
  unfold gst
  by_cases hv : v = k
  · subst hv
    rw [if_neg (by rw [h]; simp), if_neg (by omega)]
  · by_cases h2 : v < k ∧ q.testBit v = true
    · rw [if_pos h2, if_pos ⟨by omega, h2.2⟩]
    · rw [if_neg h2, if_neg (fun h3 => h2 ⟨by omega, h3.2⟩)]
theorem updN_same (A : Nat → Nat) (k : Nat) : updN A k (A k) = A := by
  funext v
  unfold updN
  split
  · next h => rw [h]
  · rfl
theorem gst_0 (A : Nat → Nat) (q : Nat) : gst A q 0 = A := by
  funext v
  unfold gst
  rw [if_neg (by omega)]
theorem X_add41 {q : Nat} {A : Nat → Nat} (hq : q < 32) {K : List Int32 → Option (Int32 × Int32 × List Int32 × List Int32)} : ∀ (m k fu : Nat), k + m = 5 → m < fu → f_X3_addPrime_L41 (nI q) K fu (nI k) (adjL (gst A q k)) = K (adjL (gst A q 5)) := by
  intro m
  induction m with
  | zero =>
    intro k fu hk hf
    obtain ⟨fu, rfl⟩ : ∃ q, fu = q + 1 := ⟨fu - 1, by omega⟩
    have : k = 5 := by omega
    subst this
    rw [f_X3_addPrime_L41, if_pos (by decide)]
  | succ m ih =>
    intro k fu hk hf
    obtain ⟨fu, rfl⟩ : ∃ q, fu = q + 1 := ⟨fu - 1, by omega⟩
    rw [f_X3_addPrime_L41, if_neg (by rw [show (5 : Int32) = nI 5 from rfl]; exact nI_ge (by omega) (by decide)), n_has (by omega) (by omega), n_andp (by omega), adjL_ld _ (by omega), Option.bind_some, fa_or, adjL_st _ (by omega), Option.bind_some, nI_1, ← ih (k + 1) fu (by omega) (by omega)]
    cases hb : q.testBit k with
    | false => rw [if_pos bf0, gst_skip hb]
    | true => rw [if_neg bt1, gst_step hb]
theorem M_gr54 {n q : Nat} {A : Nat → Nat} (hn : n ≤ 5) (hq : q < 32) {K : List Int32 → Option (Int32 × List Int32)} : ∀ (m k fu : Nat), k + m = n → m < fu → f_X8_graph_L54 (nI q) (nI n) K fu (nI k) (adjL (gst A q k)) = K (adjL (gst A q n)) := by
  intro m
  induction m with
  | zero =>
    intro k fu hk hf
    obtain ⟨fu, rfl⟩ : ∃ q, fu = q + 1 := ⟨fu - 1, by omega⟩
    have : k = n := by omega
    subst this
    rw [f_X8_graph_L54, if_pos (nI_le (Nat.le_refl _) (by omega))]
  | succ m ih =>
    intro k fu hk hf
    obtain ⟨fu, rfl⟩ : ∃ q, fu = q + 1 := ⟨fu - 1, by omega⟩
    have e0 : ∀ s : Nat, nI s ||| 0 = nI s := fun s => by rw [show (0 : Int32) = nI 0 from rfl, fa_or, Nat.or_zero]
    rw [f_X8_graph_L54, if_neg (nI_ge (by omega) (by omega)), n_bit (by omega) (by omega), n_andp (by omega), adjL_ld _ (by omega), Option.bind_some, fa_or, e0, adjL_st _ (by omega), adjL_st _ (by omega), Option.bind_some, Option.bind_some, nI_1, ← ih (k + 1) fu (by omega) (by omega)]
    cases hb : q.testBit k with
    | false => rw [if_neg (by decide), gst_skip hb, updN_same]
    | true => rw [if_pos (by decide), gst_step hb]
theorem gst_n {n q : Nat} {A : Nat → Nat} (hn : n ≤ 5) (hq : q < pts n) : gst A q n = gst A q 5 := by
  funext v
  unfold gst
  by_cases hv : v < n
  · by_cases h : q.testBit v = true
    · rw [if_pos ⟨hv, h⟩, if_pos ⟨by omega, h⟩]
    · rw [if_neg (fun x => h x.2), if_neg (fun x => h x.2)]
  · have : q.testBit v = false := Nat.testBit_lt_two_pow (Nat.lt_of_lt_of_le hq (Nat.pow_le_pow_right (by decide) (by omega)))
    rw [if_neg (by omega), if_neg (by rw [this]; simp)]
theorem NB_step {n t k : Nat} (h : prm n t k = true) (hk : k < 32) : gst (NB n t k) k 5 = NB n t (k + 1) := by
  funext v
  show _ = if prm n t k && k.testBit v then _ else _
  unfold gst
  rw [h, Bool.true_and]
  by_cases hb : k.testBit v = true
  · have hv : v < 5 := by
      refine Nat.lt_of_not_le (fun hv => ?_)
      rw [Nat.testBit_lt_two_pow (Nat.lt_of_lt_of_le hk (Nat.pow_le_pow_right (n := 2) (by decide) hv))] at hb
      cases hb
    rw [if_pos ⟨hv, hb⟩, if_pos hb]
  · rw [if_neg (fun x => hb x.2), if_neg hb]
theorem NB_skip {n t k : Nat} (h : prm n t k = false) : NB n t (k + 1) = NB n t k := by
  funext v
  show (if prm n t k && k.testBit v then _ else _) = _
  rw [h]; rfl
theorem PL_len (n t : Nat) : ∀ k, (PL n t k).length ≤ k
  | 0 => Nat.le_refl 0
  | k + 1 => by
    have := PL_len n t k
    rw [PL]
    split
    · rw [List.length_append]; show _ + 1 ≤ _; omega
    · omega
theorem X_fill_loop {n t : Nat} (hn : n ≤ 5) (ht : t < 2 ^ 62) {K : Int32 → Int32 → List Int32 → List Int32 → Option (Int32 × Int32 × List Int32 × List Int32)} : ∀ (m k fu : Nat) (g_p : List Int32), k + m = pts n → m < fu → pre 32 g_p ((PL n t k).map nI) → ∃ g_p', pre 32 g_p' ((PL n t (pts n)).map nI) ∧ f_X3_fill_L21 (nI n) (lN t) K fu (nI k) (nI (PL n t k).length) (nI (VS n t k)) g_p (adjL (NB n t k)) = K (nI (PL n t (pts n)).length) (nI (VS n t (pts n))) g_p' (adjL (NB n t (pts n))) := by
  have h32 := pts_32 hn
  intro m
  induction m with
  | zero =>
    intro k fu g_p hk hf hp
    obtain ⟨fu, rfl⟩ : ∃ q, fu = q + 1 := ⟨fu - 1, by omega⟩
    have : k = pts n := by omega
    subst this
    refine ⟨g_p, hp, ?_⟩
    rw [f_X3_fill_L21, n_pcP (by omega), if_pos (nI_le (Nat.le_refl _) (by omega))]
  | succ m ih =>
    intro k fu g_p hk hf hp
    obtain ⟨fu, rfl⟩ : ∃ q, fu = q + 1 := ⟨fu - 1, by omega⟩
    have hl := PL_len n t k
    have hm := X_min hn ht (q := k) (by omega) (K := some 1) n 0 tFU (by omega) (by unfold tFU; omega)
    rw [nI_0] at hm
    have hm : f_X3_isMinimal (nI n) (lN t) (nI k) = _ := hm
    rw [f_X3_fill_L21, n_pcP (by omega), if_neg (nI_ge (by omega) (by omega)), n_bitAt (by omega) (by omega), hm, nI_1]
    have skip : prm n t k = false → ∃ g_p', pre 32 g_p' ((PL n t (pts n)).map nI) ∧ f_X3_fill_L21 (nI n) (lN t) K fu (nI (k + 1)) (nI (PL n t k).length) (nI (VS n t k)) g_p (adjL (NB n t k)) = K (nI (PL n t (pts n)).length) (nI (VS n t (pts n))) g_p' (adjL (NB n t (pts n))) := by
      intro h
      have e1 : PL n t (k + 1) = PL n t k := by rw [PL, h]; rfl
      have e2 : VS n t (k + 1) = VS n t k := by rw [VS, h]; rfl
      have := ih (k + 1) fu g_p (by omega) (by omega) (by rw [e1]; exact hp)
      rw [e1, e2, NB_skip h] at this
      exact this
    cases hb : t.testBit k with
    | false =>
      rw [if_neg (by decide)]
      exact skip (by unfold prm; rw [hb]; rfl)
    | true =>
      rw [if_pos (by decide)]
      cases hc : anyB (fun v => k.testBit v && t.testBit (k ^^^ 2 ^ v)) n 0 with
      | true =>
        simp only [if_true, Option.bind_some]
        exact skip (by unfold prm; rw [hb, hc]; rfl)
      | false =>
        have h : prm n t k = true := by unfold prm; rw [hb, hc]; rfl
        simp only [Bool.false_eq_true, if_false, Option.bind_some]
        rw [if_neg z_1]
        obtain ⟨zs, z1, z2⟩ := hp.push (by decide) (by rw [List.length_map]; omega) (nI k)
        rw [List.length_map] at z1
        have ha := X_add41 (q := k) (A := NB n t k) (by omega) (K := fun k11 => some ((nI (PL n t k).length + 1), (nI (VS n t k) ||| nI k), zs, k11)) 5 0 tFU (by omega) (by unfold tFU; omega)
        rw [gst_0, nI_0] at ha
        have ha : f_X3_addPrime (nI k) (nI (PL n t k).length) (nI (VS n t k)) g_p (adjL (NB n t k)) = some (nI (PL n t (k + 1)).length, nI (VS n t (k + 1)), zs, adjL (NB n t (k + 1))) := by
          unfold f_X3_addPrime
          rw [if_neg (by rw [show (32 : Int32) = nI 32 from rfl]; exact nI_ge (by omega) (by decide)), z1, Option.bind_some, ha, NB_step h (by omega), fa_or, nI_1, PL, VS, h]
          simp only [if_true, List.length_append]; rfl
        rw [ha, Option.bind_some]
        refine ih (k + 1) fu zs (by omega) (by omega) ?_
        rw [PL, h]
        simp only [if_true, List.map_append]
        exact z2
theorem X_fill {n t : Nat} (hn : n ≤ 5) (ht : t < 2 ^ 62) {g_p g_a : List Int32} (hp : g_p.length = 32) (ha : g_a.length = 5) (g_k g_v : Int32) : ∃ g_p', pre 32 g_p' ((PL n t (pts n)).map nI) ∧ f_X3_fill (nI n) (lN t) g_k g_v g_p g_a = some (nI (PL n t (pts n)).length, nI (VS n t (pts n)), g_p', adjL (NB n t (pts n))) := by
  obtain ⟨g_p', h1, h2⟩ := X_fill_loop hn ht (K := fun k10 k11 k12 k13 => some (k10, k11, k12, k13)) (pts n) 0 tFU g_p (by omega) (pts_fu hn) (pre.nil hp)
  refine ⟨g_p', h1, ?_⟩
  unfold f_X3_fill
  rw [adjL_zero ha, Option.bind_some]
  exact h2
theorem M_gr11 {K : List Int32 → Option (Int32 × List Int32)} : ∀ (m k fu : Nat) (xs : List Int32), xs.length = 5 → k + m = 5 → m < fu → f_X8_graph_L11 K fu (nI k) (cpl k (List.replicate 5 0) xs) = K (adjL (fun _ => 0)) := by
  intro m
  induction m with
  | zero =>
    intro k fu xs hx hk hf
    obtain ⟨fu, rfl⟩ : ∃ q, fu = q + 1 := ⟨fu - 1, by omega⟩
    have : k = 5 := by omega
    subst this
    rw [f_X8_graph_L11, if_pos (by decide), cpl_N (by decide) hx]; rfl
  | succ m ih =>
    intro k fu xs hx hk hf
    obtain ⟨fu, rfl⟩ : ∃ q, fu = q + 1 := ⟨fu - 1, by omega⟩
    have hl : (cpl k (List.replicate 5 (0 : Int32)) xs).length = 5 := cpl_len (by decide) hx (by omega)
    rw [f_X8_graph_L11, if_neg (by rw [show (5 : Int32) = nI 5 from rfl]; exact nI_ge (by omega) (by decide)), tst_nI (by omega) (by omega), cpl_step (N := 5) (by decide) hx (by omega) (by rw [List.getElem?_replicate, if_pos (by omega)]), Option.bind_some, nI_1]
    exact ih (k + 1) fu xs hx (by omega) (by omega)
theorem M_gr31 {n t : Nat} (hn : n ≤ 5) (ht : t < 2 ^ 62) {K : List Int32 → Option (Int32 × List Int32)} : ∀ (m k fu : Nat), k + m = pts n → m < fu → f_X8_graph_L31 (lN t) (nI n) (nI (pts n)) K fu (nI k) (adjL (NB n t k)) = K (adjL (NB n t (pts n))) := by
  have h32 := pts_32 hn
  intro m
  induction m with
  | zero =>
    intro k fu hk hf
    obtain ⟨fu, rfl⟩ : ∃ q, fu = q + 1 := ⟨fu - 1, by omega⟩
    have : k = pts n := by omega
    subst this
    rw [f_X8_graph_L31, if_pos (nI_le (Nat.le_refl _) (by omega))]
  | succ m ih =>
    intro k fu hk hf
    obtain ⟨fu, rfl⟩ : ∃ q, fu = q + 1 := ⟨fu - 1, by omega⟩
    have ha := M_gr54 (q := k) (A := NB n t k) hn (by omega) (K := fun k19 => f_X8_graph_L31 (lN t) (nI n) (nI (pts n)) K fu (nI (k + 1)) k19) n 0 tFU (by omega) (by unfold tFU; omega)
    rw [gst_0, nI_0] at ha
    rw [f_X8_graph_L31, if_neg (nI_ge (by omega) (by omega)), M_prime hn ht (by omega), Option.bind_some, nI_1, ha, ← ih (k + 1) fu (by omega) (by omega)]
    cases h : prm n t k with
    | false => rw [if_pos bf0, NB_skip h]
    | true => rw [if_neg bt1, gst_n hn (by omega), NB_step h (by omega)]
theorem M_graph {n t : Nat} (hn : n ≤ 5) (ht : t < 2 ^ 62) {m_nr : List Int32} (ha : m_nr.length = 5) (m_ve : Int32) : f_X8_graph (lN t) (nI n) (nI (pts n)) m_ve m_nr = some (nI (essS n t), adjL (NB n t (pts n))) := by
  unfold f_X8_graph
  rw [M_ess hn ht, Option.bind_some]
  have h1 := M_gr11 (K := fun k6 => f_X8_graph_L31 (lN t) (nI n) (nI (pts n)) (fun k20 => some (nI (essS n t), k20)) tFU 0 k6) 5 0 tFU m_nr ha (by omega) (by unfold tFU; omega)
  rw [nI_0, cpl_0] at h1
  rw [h1]
  exact M_gr31 hn ht (pts n) 0 tFU (by omega) (pts_fu hn)
