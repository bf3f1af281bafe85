/-! reading a formula -/
def vt (n v : Nat) : Nat := tabN (fun p => p.testBit v) (pts n)
theorem vt_X : ∀ n, n < 6 → ∀ v, v < 5 → ((tld tVT (nI v)).map fun x => x &&& lN (tabs n - 1)) = some (lN (vt n v)) := by decide +kernel
theorem vt_M : ∀ n, n < 6 → ∀ v, v < 5 → f_X8_variable (nI v) (nI (pts n)) = some (lN (vt n v)) := by decide +kernel
theorem vt_lt (n v : Nat) : vt n v < tabs n := tabN_lt _ _
theorem ch_M : ∀ n, n < 6 → 0 < n → ∀ c, c < 128 → f_X8_isIn (Int32.toInt64 (nI c)) 97 (Int32.toInt64 ((97 + nI n) - 1)) = if 97 ≤ c ∧ c < 97 + n then 1 else 0 := by decide +kernel
theorem ch_Mm : ∀ n, n < 6 → 0 < n → f_X8_isIn (Int32.toInt64 (-1)) 97 (Int32.toInt64 ((97 + nI n) - 1)) = 0 := by decide +kernel
theorem ch_X : ∀ n, n < 6 → 0 < n → ∀ c, c < 128 → f_X7_isIndex (nI c - 97) (nI n) = if 97 ≤ c ∧ c < 97 + n then 1 else 0 := by decide +kernel
def rsl (n L p : Nat) (x : Int64 × Int32 × Int32) (y : Int64 × Int32 × Int32 × Int32) : Prop := (∃ t p' o' : Nat, t < tabs n ∧ p < p' ∧ p' ≤ L ∧ x = (lN t, nI p', nI o') ∧ y = (lN t, nI p', -1, nI o')) ∨ (∃ (p' : Nat) (o' o'' : Int32) (f : Int64), p ≤ p' ∧ p' ≤ L ∧ x = (-1, nI p', o') ∧ y = (f, nI p', nI p', o''))
def stp (n L : Nat) (fX : Int32 → Int32 → Option (Int64 × Int32 × Int32)) (fM : Int32 → Int32 → Option (Int64 × Int32 × Int32 × Int32)) : Prop := ∀ p o : Nat, p ≤ L → ∃ x y, fX (nI p) (nI o) = some x ∧ fM (nI p) (nI o) = some y ∧ rsl n L p x y
theorem rsl.wk {n L p p0 : Nat} {x : Int64 × Int32 × Int32} {y : Int64 × Int32 × Int32 × Int32} (h : rsl n L p x y) (hp : p0 ≤ p) : rsl n L p0 x y := by
  rcases h with ⟨t, p', o', h1, h2, h3, h4, h5⟩ | ⟨p', o', o'', f, h1, h2, h3, h4⟩
  · exact Or.inl ⟨t, p', o', h1, by omega, h3, h4, h5⟩
  · exact Or.inr ⟨p', o', o'', f, by omega, h2, h3, h4⟩
/-- the text that is read -/
def txt (inp : List Nat) (i_b m_ib : List Int32) : Prop := (∀ v ∈ inp, 1 ≤ v ∧ v ≤ 127) ∧ pre 80 i_b (inp.map nI) ∧ pre 80 m_ib (inp.map nI)
theorem txt.le {inp : List Nat} {i_b m_ib : List Int32} (h : txt inp i_b m_ib) : inp.length ≤ 80 := by
  have := h.2.1.le
  rw [List.length_map] at this
  exact this
theorem txt.ld {inp : List Nat} {i_b m_ib : List Int32} (h : txt inp i_b m_ib) {p : Nat} (hp : p < inp.length) : ∃ c, 1 ≤ c ∧ c ≤ 127 ∧ tld i_b (nI p) = some (nI c) ∧ tld m_ib (nI p) = some (nI c) := by
  refine ⟨inp[p], (h.1 _ (List.getElem_mem hp)).1, (h.1 _ (List.getElem_mem hp)).2, ?_, ?_⟩
  · rw [h.2.1.ld (by decide) (by rw [List.length_map]; exact hp), List.getElem?_map, List.getElem?_eq_getElem hp]; rfl
  · rw [h.2.2.ld (by decide) (by rw [List.length_map]; exact hp), List.getElem?_map, List.getElem?_eq_getElem hp]; rfl
/-- what stands at a place: nothing, or a sign -/
theorem txt.at {inp : List Nat} {i_b m_ib : List Int32} (h : txt inp i_b m_ib) {p : Nat} (hp : p ≤ inp.length) : (p = inp.length ∧ f_X8_here (nI inp.length) (nI p) m_ib = some (-1) ∧ ∀ s, f_X5_nextIs s (nI inp.length) (nI p) i_b = some 0) ∨ (p < inp.length ∧ ∃ c, 1 ≤ c ∧ c ≤ 127 ∧ tld i_b (nI p) = some (nI c) ∧ f_X8_here (nI inp.length) (nI p) m_ib = some (nI c) ∧ ∀ s, f_X5_nextIs s (nI inp.length) (nI p) i_b = some (if nI c = s then 1 else 0)) := by
  have hl := h.le
  by_cases e : p = inp.length
  · left
    refine ⟨e, ?_, fun s => ?_⟩
    · unfold f_X8_here; rw [if_pos (nI_le (by omega) (by omega))]
    · unfold f_X5_nextIs; rw [if_pos (nI_le (by omega) (by omega))]
  · right
    obtain ⟨c, h1, h2, h3, h4⟩ := h.ld (p := p) (by omega)
    refine ⟨by omega, c, h1, h2, h3, ?_, fun s => ?_⟩
    · unfold f_X8_here; rw [if_neg (nI_ge (by omega) (by omega)), h4]; rfl
    · unfold f_X5_nextIs; rw [if_neg (nI_ge (by omega) (by omega)), h3, Option.bind_some]
      split <;> rfl
theorem andL (a b : Nat) : lN a &&& lN b = lN (a &&& b) := by
  apply Int64.toBitVec_inj.1
  show BitVec.ofNat 64 a &&& BitVec.ofNat 64 b = BitVec.ofNat 64 (a &&& b)
  apply BitVec.eq_of_getLsbD_eq
  intro i hi
  rw [BitVec.getLsbD_and, BitVec.getLsbD_ofNat, BitVec.getLsbD_ofNat, BitVec.getLsbD_ofNat, decide_eq_true hi, Nat.testBit_and]; simp
theorem xorL (a b : Nat) : lN a ^^^ lN b = lN (a ^^^ b) := by
  apply Int64.toBitVec_inj.1
  show BitVec.ofNat 64 a ^^^ BitVec.ofNat 64 b = BitVec.ofNat 64 (a ^^^ b)
  apply BitVec.eq_of_getLsbD_eq
  intro i hi
  rw [BitVec.getLsbD_xor, BitVec.getLsbD_ofNat, BitVec.getLsbD_ofNat, BitVec.getLsbD_ofNat, decide_eq_true hi, Nat.testBit_xor]; simp
theorem m1cmp : lg_cmp (-1) (-1) = 0 := by decide
section RD
variable {n : Nat} {inp : List Nat} {i_b m_ib : List Int32} {i_f : Int64}

theorem sim_prod_loop (hn : n ≤ 5) (ht : txt inp i_b m_ib) {rc : Int32 → Int32 → Int32 → Int64 → Int32 → Int32 → List Int32 → Option (Int64 × Int32 × Int32)} {rc' : Int32 → Int32 → Int32 → Int32 → Int32 → Int32 → Int32 → List Int32 → Option (Int64 × Int32 × Int32 × Int32)} {w : Int32} (h : stp n inp.length (fun p o => rc w (nI inp.length) (nI n) i_f p o i_b) (fun p o => rc' w (nI n) (nI (pts n)) (nI inp.length) p (-1) o m_ib)) : ∀ (m p o i t fu p0 : Nat), inp.length - p ≤ m → m < fu → i < p → p0 < p → p ≤ inp.length → t < tabs n → ∃ x y, f_X5_readProduct_L9 rc w (nI inp.length) (nI n) i_f i_b (fun y11 k12 k13 => some (y11, k12, k13)) fu (lN t) (nI i) (nI p) (nI o) = some x ∧ f_X8_term_L6 rc' w (nI n) (nI (pts n)) (nI inp.length) m_ib (fun y9 k10 k11 k12 => some (y9, k10, k11, k12)) fu (lN t) (nI p) (-1) (nI o) = some y ∧ rsl n inp.length p0 x y := by
  have hl := ht.le
  intro m
  induction m with
  | zero =>
    intro p o i t fu p0 hm hf hi hp0 hp htt
    obtain ⟨fu, rfl⟩ : ∃ q, fu = q + 1 := ⟨fu - 1, by omega⟩
    have e : p = inp.length := by omega
    rcases ht.at hp with ⟨-, h1, h2⟩ | ⟨h1, -⟩
    · rw [f_X5_readProduct_L9, f_X8_term_L6, if_neg (show ¬ (80 : Int32) ≤ nI i by rw [show (80 : Int32) = nI 80 from rfl]; exact nI_ge (by omega) (by decide)), if_neg (eO_ne t (by have := tabs63 hn htt; omega)), h2, Option.bind_some, if_pos rfl, if_pos rfl, h1, Option.bind_some, if_neg (by decide)]
      exact ⟨_, _, rfl, rfl, Or.inl ⟨t, p, o, htt, hp0, hp, rfl, rfl⟩⟩
    · omega
  | succ m ih =>
    intro p o i t fu p0 hm hf hi hp0 hp htt
    obtain ⟨fu, rfl⟩ : ∃ q, fu = q + 1 := ⟨fu - 1, by omega⟩
    rw [f_X5_readProduct_L9, f_X8_term_L6, if_neg (show ¬ (80 : Int32) ≤ nI i by rw [show (80 : Int32) = nI 80 from rfl]; exact nI_ge (by omega) (by decide)), if_neg (eO_ne t (by have := tabs63 hn htt; omega)), if_pos (show (-1 : Int32) = -1 from rfl)]
    rcases ht.at hp with ⟨-, h1, h2⟩ | ⟨hlt, c, c1, c2, c3, h1, h2⟩
    · rw [h1, h2, Option.bind_some, if_pos rfl, Option.bind_some, if_neg (by decide)]
      exact ⟨_, _, rfl, rfl, Or.inl ⟨t, p, o, htt, hp0, hp, rfl, rfl⟩⟩
    · rw [h1, h2, Option.bind_some, Option.bind_some]
      by_cases e : nI c = 42
      · rw [if_pos e, if_neg z_1, if_pos e, nI_1, nI_1]
        obtain ⟨x, y, r1, r2, r3⟩ := h (p + 1) o (by omega)
        have r1 : rc w (nI inp.length) (nI n) i_f (nI (p + 1)) (nI o) i_b = some x := r1
        have r2 : rc' w (nI n) (nI (pts n)) (nI inp.length) (nI (p + 1)) (-1) (nI o) m_ib = some y := r2
        rw [r1, r2, Option.bind_some, Option.bind_some]
        rcases r3 with ⟨t', p', o', q1, q2, q3, rfl, rfl⟩ | ⟨p', o', o'', f, q1, q2, rfl, rfl⟩
        · dsimp only
          rw [if_neg (eO_ne t' (by have := tabs63 hn q1; omega)), andL]
          exact ih p' o' (i + 1) _ fu p0 (by omega) (by omega) (by omega) (by omega) q3 (Nat.lt_of_le_of_lt Nat.and_le_left htt)
        · dsimp only
          rw [if_pos m1cmp]
          obtain ⟨fu, rfl⟩ : ∃ q, fu = q + 1 := ⟨fu - 1, by omega⟩
          rw [f_X5_readProduct_L9, f_X8_term_L6, if_pos m1cmp, if_neg (nI_ne_m1 (by omega : p' < 2 ^ 31))]
          refine ⟨(-1, nI p', o'), _, ?_, rfl, Or.inr ⟨p', o', o'', _, by omega, q2, rfl, rfl⟩⟩
          split <;> rfl
      · rw [if_neg e, if_pos rfl, if_neg e]
        exact ⟨_, _, rfl, rfl, Or.inl ⟨t, p, o, htt, hp0, hp, rfl, rfl⟩⟩
theorem sim_prod (hn : n ≤ 5) (ht : txt inp i_b m_ib) {rc : Int32 → Int32 → Int32 → Int64 → Int32 → Int32 → List Int32 → Option (Int64 × Int32 × Int32)} {rc' : Int32 → Int32 → Int32 → Int32 → Int32 → Int32 → Int32 → List Int32 → Option (Int64 × Int32 × Int32 × Int32)} {w : Int32} (h : stp n inp.length (fun p o => rc w (nI inp.length) (nI n) i_f p o i_b) (fun p o => rc' w (nI n) (nI (pts n)) (nI inp.length) p (-1) o m_ib)) : stp n inp.length (fun p o => f_X5_readProduct rc w (nI inp.length) (nI n) i_f p o i_b) (fun p o => f_X8_term rc' w (nI n) (nI (pts n)) (nI inp.length) p (-1) o m_ib) := by
  have hl := ht.le
  intro p o hp
  dsimp only
  obtain ⟨x, y, r1, r2, r3⟩ := h p o hp
  have r1 : rc w (nI inp.length) (nI n) i_f (nI p) (nI o) i_b = some x := r1
  have r2 : rc' w (nI n) (nI (pts n)) (nI inp.length) (nI p) (-1) (nI o) m_ib = some y := r2
  unfold f_X5_readProduct f_X8_term
  rw [r1, r2, Option.bind_some, Option.bind_some]
  rcases r3 with ⟨t', p', o', q1, q2, q3, rfl, rfl⟩ | ⟨p', o', o'', f, q1, q2, rfl, rfl⟩
  · exact sim_prod_loop hn ht h (inp.length - p') p' o' 0 t' tFU p (by omega) (by unfold tFU; omega) (by omega) q2 q3 q1
  · dsimp only
    rw [show tFU = 999 + 1 from rfl, f_X5_readProduct_L9, f_X8_term_L6, if_pos m1cmp, if_neg (nI_ne_m1 (by omega : p' < 2 ^ 31))]
    refine ⟨(-1, nI p', o'), _, ?_, rfl, Or.inr ⟨p', o', o'', _, q1, q2, rfl, rfl⟩⟩
    split <;> rfl

theorem sim_sum_loop (hn : n ≤ 5) (ht : txt inp i_b m_ib) {rc : Int32 → Int32 → Int32 → Int64 → Int32 → Int32 → List Int32 → Option (Int64 × Int32 × Int32)} {rc' : Int32 → Int32 → Int32 → Int32 → Int32 → Int32 → Int32 → List Int32 → Option (Int64 × Int32 × Int32 × Int32)} {w : Int32} (h : stp n inp.length (fun p o => f_X5_readProduct rc w (nI inp.length) (nI n) i_f p o i_b) (fun p o => f_X8_term rc' w (nI n) (nI (pts n)) (nI inp.length) p (-1) o m_ib)) : ∀ (m p o i t fu p0 : Nat), inp.length - p ≤ m → m < fu → i < p → p0 < p → p ≤ inp.length → t < tabs n → ∃ x y, f_X5_readSum_L9 rc w (nI inp.length) (nI n) i_f i_b (fun y11 k12 k13 => some (y11, k12, k13)) fu (lN t) (nI i) (nI p) (nI o) = some x ∧ f_X8_formula_L6 rc' w (nI n) (nI (pts n)) (nI inp.length) m_ib (fun y9 k10 k11 k12 => some (y9, k10, k11, k12)) fu (lN t) (nI p) (-1) (nI o) = some y ∧ rsl n inp.length p0 x y := by
  have hl := ht.le
  intro m
  induction m with
  | zero =>
    intro p o i t fu p0 hm hf hi hp0 hp htt
    obtain ⟨fu, rfl⟩ : ∃ q, fu = q + 1 := ⟨fu - 1, by omega⟩
    have e : p = inp.length := by omega
    rcases ht.at hp with ⟨-, h1, h2⟩ | ⟨h1, -⟩
    · rw [f_X5_readSum_L9, f_X8_formula_L6, if_neg (show ¬ (80 : Int32) ≤ nI i by rw [show (80 : Int32) = nI 80 from rfl]; exact nI_ge (by omega) (by decide)), if_neg (eO_ne t (by have := tabs63 hn htt; omega)), h2, Option.bind_some, if_pos rfl, if_pos rfl, h1, Option.bind_some, if_neg (by decide)]
      exact ⟨_, _, rfl, rfl, Or.inl ⟨t, p, o, htt, hp0, hp, rfl, rfl⟩⟩
    · omega
  | succ m ih =>
    intro p o i t fu p0 hm hf hi hp0 hp htt
    obtain ⟨fu, rfl⟩ : ∃ q, fu = q + 1 := ⟨fu - 1, by omega⟩
    rw [f_X5_readSum_L9, f_X8_formula_L6, if_neg (show ¬ (80 : Int32) ≤ nI i by rw [show (80 : Int32) = nI 80 from rfl]; exact nI_ge (by omega) (by decide)), if_neg (eO_ne t (by have := tabs63 hn htt; omega)), if_pos (show (-1 : Int32) = -1 from rfl)]
    rcases ht.at hp with ⟨-, h1, h2⟩ | ⟨hlt, c, c1, c2, c3, h1, h2⟩
    · rw [h1, h2, Option.bind_some, if_pos rfl, Option.bind_some, if_neg (by decide)]
      exact ⟨_, _, rfl, rfl, Or.inl ⟨t, p, o, htt, hp0, hp, rfl, rfl⟩⟩
    · rw [h1, h2, Option.bind_some, Option.bind_some]
      by_cases e : nI c = 43
      · rw [if_pos e, if_neg z_1, if_pos e, nI_1, nI_1]
        obtain ⟨x, y, r1, r2, r3⟩ := h (p + 1) o (by omega)
        have r1 : f_X5_readProduct rc w (nI inp.length) (nI n) i_f (nI (p + 1)) (nI o) i_b = some x := r1
        have r2 : f_X8_term rc' w (nI n) (nI (pts n)) (nI inp.length) (nI (p + 1)) (-1) (nI o) m_ib = some y := r2
        rw [r1, r2, Option.bind_some, Option.bind_some]
        rcases r3 with ⟨t', p', o', q1, q2, q3, rfl, rfl⟩ | ⟨p', o', o'', f, q1, q2, rfl, rfl⟩
        · dsimp only
          rw [if_neg (eO_ne t' (by have := tabs63 hn q1; omega)), fb_orL]
          exact ih p' o' (i + 1) _ fu p0 (by omega) (by omega) (by omega) (by omega) q3 (or_lt_tabs htt q1)
        · dsimp only
          rw [if_pos m1cmp]
          obtain ⟨fu, rfl⟩ : ∃ q, fu = q + 1 := ⟨fu - 1, by omega⟩
          rw [f_X5_readSum_L9, f_X8_formula_L6, if_pos m1cmp, if_neg (nI_ne_m1 (by omega : p' < 2 ^ 31))]
          refine ⟨(-1, nI p', o'), _, ?_, rfl, Or.inr ⟨p', o', o'', _, by omega, q2, rfl, rfl⟩⟩
          split <;> rfl
      · rw [if_neg e, if_pos rfl, if_neg e]
        exact ⟨_, _, rfl, rfl, Or.inl ⟨t, p, o, htt, hp0, hp, rfl, rfl⟩⟩
theorem sim_sum (hn : n ≤ 5) (ht : txt inp i_b m_ib) {rc : Int32 → Int32 → Int32 → Int64 → Int32 → Int32 → List Int32 → Option (Int64 × Int32 × Int32)} {rc' : Int32 → Int32 → Int32 → Int32 → Int32 → Int32 → Int32 → List Int32 → Option (Int64 × Int32 × Int32 × Int32)} {w : Int32} (h : stp n inp.length (fun p o => f_X5_readProduct rc w (nI inp.length) (nI n) i_f p o i_b) (fun p o => f_X8_term rc' w (nI n) (nI (pts n)) (nI inp.length) p (-1) o m_ib)) : stp n inp.length (fun p o => f_X5_readSum rc w (nI inp.length) (nI n) i_f p o i_b) (fun p o => f_X8_formula rc' w (nI n) (nI (pts n)) (nI inp.length) p (-1) o m_ib) := by
  have hl := ht.le
  intro p o hp
  dsimp only
  obtain ⟨x, y, r1, r2, r3⟩ := h p o hp
  have r1 : f_X5_readProduct rc w (nI inp.length) (nI n) i_f (nI p) (nI o) i_b = some x := r1
  have r2 : f_X8_term rc' w (nI n) (nI (pts n)) (nI inp.length) (nI p) (-1) (nI o) m_ib = some y := r2
  unfold f_X5_readSum f_X8_formula
  rw [r1, r2, Option.bind_some, Option.bind_some]
  rcases r3 with ⟨t', p', o', q1, q2, q3, rfl, rfl⟩ | ⟨p', o', o'', f, q1, q2, rfl, rfl⟩
  · exact sim_sum_loop hn ht h (inp.length - p') p' o' 0 t' tFU p (by omega) (by unfold tFU; omega) (by omega) q2 q3 q1
  · dsimp only
    rw [show tFU = 999 + 1 from rfl, f_X5_readSum_L9, f_X8_formula_L6, if_pos m1cmp, if_neg (nI_ne_m1 (by omega : p' < 2 ^ 31))]
    refine ⟨(-1, nI p', o'), _, ?_, rfl, Or.inr ⟨p', o', o'', _, q1, q2, rfl, rfl⟩⟩
    split <;> rfl

theorem neg_eq {n t : Nat} (ht : t < tabs n) : andn (tabs n - 1) t = t ^^^ (tabs n - 1) := by
  apply Nat.eq_of_testBit_eq
  intro i
  have e : (tabs n - 1).testBit i = decide (i < 2 ^ n) := Nat.testBit_two_pow_sub_one _ _
  rw [andn_bit, Nat.testBit_xor, e]
  by_cases hi : i < 2 ^ n
  · rw [decide_eq_true hi]; cases t.testBit i <;> rfl
  · rw [decide_eq_false hi, bit_hi (n := 2 ^ n) ht (by omega)]; rfl
theorem sim_factor (hn0 : 0 < n) (hn : n ≤ 5) (ht : txt inp i_b m_ib) : ∀ (D opn : Nat), opn ≤ 6 → 7 ≤ opn + D → stp n inp.length (fun p o => f_X5_readFactor D (nI opn) (nI inp.length) (nI n) (lN (tabs n - 1)) p o i_b) (fun p o => f_X8_factor D (nI opn) (nI n) (nI (pts n)) (nI inp.length) p (-1) o m_ib) := by
  have hl := ht.le
  intro D
  induction D with
  | zero => intro op h1 h2; omega
  | succ D ih =>
    intro op hop hD p o hp
    dsimp only
    rw [f_X5_readFactor, f_X8_factor]
    dsimp only
    rw [n_allM hn]
    rcases ht.at hp with ⟨e, h1, h2⟩ | ⟨hlt, c, c1, c2, c3, h1, h2⟩
    · rw [h1, h2, h2, Option.bind_some, if_pos rfl, Option.bind_some, if_pos rfl, Option.bind_some, if_pos (ch_Mm n (by omega) hn0)]
      unfold f_X5_readAtom f_X8_fail
      rw [if_neg (nI_nlt (by omega) (by omega)), if_neg (by decide), if_neg (by decide), if_neg (by decide), if_neg (by decide), if_pos rfl]
      exact ⟨_, _, rfl, rfl, Or.inr ⟨p, nI o, nI o, 0, Nat.le_refl p, hp, rfl, rfl⟩⟩
    · have hM := ch_M n (by omega) hn0 c (by omega)
      have hX := ch_X n (by omega) hn0 c (by omega)
      rw [h1, h2, h2, Option.bind_some, Option.bind_some, Option.bind_some, hM]
      have ne : ∀ s, s < 128 → c ≠ s → ¬ nI c = nI s := fun s hs hc q => hc ((nI_eq (by omega) (by omega)).mp q)
      by_cases v : 97 ≤ c ∧ c < 97 + n
      · rw [if_pos v] at hM hX
        rw [if_pos v, if_neg z_1, if_neg (show ¬ nI c = 33 from ne 33 (by decide) (by omega)), if_pos rfl, if_neg (show ¬ nI c = 40 from ne 40 (by decide) (by omega)), if_pos rfl]
        have es : nI c - 97 = nI (c - 97) := pk_sub (b := 97) (by omega)
        have hvt := vt_X n (by omega) (c - 97) (by omega)
        unfold f_X5_readAtom
        rw [if_pos (nI_lt (by omega) (by omega)), c3, Option.bind_some, if_neg (by rw [hX]; decide), es, if_neg (show ¬ (5 : Int32) ≤ nI (c - 97) by rw [show (5 : Int32) = nI 5 from rfl]; exact nI_ge (by omega) (by decide)), vt_M n (by omega) (c - 97) (by omega)]
        cases hz : tld tVT (nI (c - 97)) with
        | none => rw [hz] at hvt; cases hvt
        | some z =>
          rw [hz] at hvt
          have hvt : z &&& lN (tabs n - 1) = lN (vt n (c - 97)) := Option.some.inj hvt
          simp only [Option.bind_some]
          rw [hvt, nI_1, nI_1]
          exact ⟨_, _, rfl, rfl, Or.inl ⟨vt n (c - 97), p + 1, o + 1, vt_lt n _, by omega, by omega, rfl, rfl⟩⟩
      · rw [if_neg v] at hM hX
        rw [if_neg v, if_pos rfl]
        by_cases c48 : c = 48
        · subst c48
          unfold f_X5_readAtom
          rw [if_neg (show ¬ nI 48 = 33 by decide), if_pos rfl, if_neg (show ¬ nI 48 = 40 by decide), if_pos rfl, if_pos (nI_lt (by omega) (by omega)), c3, Option.bind_some, if_pos hX, if_pos (show nI 48 = 48 from rfl), if_neg (show ¬ nI 48 = 49 by decide), if_pos (show nI 48 = 48 from rfl), nI_1]
          exact ⟨_, _, rfl, rfl, Or.inl ⟨0, p + 1, o, tabs_pos n, by omega, by omega, rfl, rfl⟩⟩
        by_cases c49 : c = 49
        · subst c49
          have hf := tabs_pos n
          unfold f_X5_readAtom
          rw [if_neg (show ¬ nI 49 = 33 by decide), if_pos rfl, if_neg (show ¬ nI 49 = 40 by decide), if_pos rfl, if_pos (nI_lt (by omega) (by omega)), c3, Option.bind_some, if_pos hX, if_neg (show ¬ nI 49 = 48 by decide), if_pos (show nI 49 = 49 from rfl), if_pos (show nI 49 = 49 from rfl), if_neg (show ¬ nI 49 = 48 by decide), nI_1]
          exact ⟨_, _, rfl, rfl, Or.inl ⟨tabs n - 1, p + 1, o, by omega, by omega, by omega, rfl, rfl⟩⟩
        rw [if_neg (show ¬ nI c = 48 from ne 48 (by decide) c48), if_neg (show ¬ nI c = 49 from ne 49 (by decide) c49)]
        by_cases c33 : c = 33
        · subst c33
          rw [if_pos (show nI 33 = 33 from rfl), if_neg z_1, if_pos (show nI 33 = 33 from rfl)]
          by_cases o6 : op = 6
          · subst o6
            unfold f_X8_fail
            rw [if_pos (show (6 : Int32) ≤ nI 6 by decide), if_pos (show nI 6 = 6 from rfl), if_pos rfl]
            exact ⟨_, _, rfl, rfl, Or.inr ⟨p, nI o, nI o, 0, Nat.le_refl p, hp, rfl, rfl⟩⟩
          · rw [if_neg (show ¬ (6 : Int32) ≤ nI op by rw [show (6 : Int32) = nI 6 from rfl]; exact nI_ge (by omega) (by decide)), if_neg (show ¬ nI op = 6 from fun q => o6 ((nI_eq (b := 6) (by omega) (by decide)).mp q)), nI_1, nI_1]
            obtain ⟨x, y, r1, r2, r3⟩ := ih (op + 1) (by omega) (by omega) (p + 1) o (by omega)
            dsimp only at r1 r2
            unfold f_X5_readOpened
            rw [h2, Option.bind_some, if_pos (show nI 33 = 33 from rfl), if_neg z_1, nI_1, r1, r2, Option.bind_some, Option.bind_some]
            rcases r3 with ⟨t', p', o', q1, q2, q3, rfl, rfl⟩ | ⟨p', o', o'', f, q1, q2, rfl, rfl⟩
            · dsimp only
              rw [if_neg (eO_ne t' (by have := tabs63 hn q1; omega)), if_neg z_1, n_andnL, neg_eq q1]
              have hx : t' ^^^ (tabs n - 1) < tabs n := Nat.xor_lt_two_pow q1 (by have := tabs_pos n; unfold tabs at *; omega)
              refine ⟨_, _, rfl, rfl, Or.inl ⟨t' ^^^ (tabs n - 1), p', o', hx, by omega, q3, ?_, rfl⟩⟩
              rw [xorL]
            · dsimp only
              rw [if_pos m1cmp]
              exact ⟨_, _, rfl, rfl, Or.inr ⟨p', o', o'', _, by omega, q2, rfl, rfl⟩⟩
        by_cases c40 : c = 40
        · subst c40
          rw [if_neg (show ¬ nI 40 = 33 by decide), if_pos rfl, if_pos (show nI 40 = 40 from rfl), if_neg z_1, if_neg (show ¬ nI 40 = 33 by decide), if_pos (show nI 40 = 40 from rfl)]
          by_cases o6 : op = 6
          · subst o6
            unfold f_X8_fail
            rw [if_pos (show (6 : Int32) ≤ nI 6 by decide), if_pos (show nI 6 = 6 from rfl), if_pos rfl]
            exact ⟨_, _, rfl, rfl, Or.inr ⟨p, nI o, nI o, 0, Nat.le_refl p, hp, rfl, rfl⟩⟩
          · rw [if_neg (show ¬ (6 : Int32) ≤ nI op by rw [show (6 : Int32) = nI 6 from rfl]; exact nI_ge (by omega) (by decide)), if_neg (show ¬ nI op = 6 from fun q => o6 ((nI_eq (b := 6) (by omega) (by decide)).mp q)), nI_1, nI_1]
            obtain ⟨x, y, r1, r2, r3⟩ := sim_sum hn ht (sim_prod hn ht (ih (op + 1) (by omega) (by omega))) (p + 1) o (by omega)
            dsimp only at r1 r2
            unfold f_X5_readOpened
            rw [h2, Option.bind_some, if_neg (show ¬ nI 40 = 33 by decide), if_pos rfl, nI_1, r1, r2, Option.bind_some, Option.bind_some]
            rcases r3 with ⟨t', p', o', q1, q2, q3, rfl, rfl⟩ | ⟨p', o', o'', f, q1, q2, rfl, rfl⟩
            · dsimp only
              rw [if_neg (eO_ne t' (by have := tabs63 hn q1; omega)), if_pos rfl, if_pos rfl]
              have fl : f_X8_fail (nI p') (-1) = nI p' := by unfold f_X8_fail; rw [if_pos rfl]
              rcases ht.at q3 with ⟨e, g1, g2⟩ | ⟨hlt2, d, d1, d2, d3, g1, g2⟩
              · rw [g1, g2, Option.bind_some, Option.bind_some, if_pos rfl, if_neg (by decide), fl]
                exact ⟨_, _, rfl, rfl, Or.inr ⟨p', nI o', nI o', lN t', by omega, q3, rfl, rfl⟩⟩
              · rw [g1, g2, Option.bind_some, Option.bind_some]
                by_cases e41 : nI d = 41
                · rw [if_pos e41, if_neg z_1, if_pos e41, nI_1]
                  exact ⟨_, _, rfl, rfl, Or.inl ⟨t', p' + 1, o', q1, by omega, by omega, rfl, rfl⟩⟩
                · rw [if_neg e41, if_pos rfl, if_neg e41, fl]
                  exact ⟨_, _, rfl, rfl, Or.inr ⟨p', nI o', nI o', lN t', by omega, q3, rfl, rfl⟩⟩
            · dsimp only
              unfold f_X8_fail
              rw [if_pos m1cmp, if_neg (nI_ne_m1 (by omega : p' < 2 ^ 31)), if_neg (nI_ne_m1 (by omega : p' < 2 ^ 31))]
              exact ⟨_, _, rfl, rfl, Or.inr ⟨p', o', o'', f, by omega, q2, rfl, rfl⟩⟩
        unfold f_X5_readAtom f_X8_fail
        rw [if_neg (show ¬ nI c = 33 from ne 33 (by decide) c33), if_pos rfl, if_neg (show ¬ nI c = 40 from ne 40 (by decide) c40), if_pos rfl, if_pos (nI_lt (by omega) (by omega)), c3, Option.bind_some, if_pos hX, if_neg (show ¬ nI c = 48 from ne 48 (by decide) c48), if_neg (show ¬ nI c = 49 from ne 49 (by decide) c49), if_neg (show ¬ nI c = 33 from ne 33 (by decide) c33), if_neg (show ¬ nI c = 40 from ne 40 (by decide) c40), if_pos rfl]
        exact ⟨_, _, rfl, rfl, Or.inr ⟨p, nI o, nI o, 0, Nat.le_refl p, hp, rfl, rfl⟩⟩
end RD
