/-! components -/
def swp (A : Nat → Nat) (set : Nat) (c : Bool) : Nat → Nat → Nat → Nat
  | 0, _, r => r
  | m + 1, v, r => swp A set c m (v + 1) (if r.testBit v then r ||| (if c then andn set (A v) else set &&& A v) else r)
def cmp (A : Nat → Nat) (set : Nat) (c : Bool) (N : Nat) : Nat → Nat → Nat
  | 0, r => r
  | m + 1, r => cmp A set c N m (swp A set c N 0 r)
def lowv (s : Nat) : Nat := if s.testBit 0 then 0 else if s.testBit 1 then 1 else if s.testBit 2 then 2 else if s.testBit 3 then 3 else 4
def lowb (s : Nat) : Nat := if s = 0 then 0 else 2 ^ lowv s
def pop5 (s : Nat) : Nat := (s.testBit 0).toNat + (s.testBit 1).toNat + (s.testBit 2).toNat + (s.testBit 3).toNat + (s.testBit 4).toNat
def cI (c : Bool) : Int32 := if c then 1 else 0
theorem l_lowb : ∀ s, s < 32 → nI s &&& (-(nI s)) = nI (lowb s) := by decide +kernel
theorem l_low8 : ∀ s, s < 32 → s ≠ 0 → f_X8_lowest (nI s) = some (nI (lowv s)) := by decide +kernel
theorem l_bits8 : ∀ s, s < 32 → f_X8_bits (nI s) = some (nI (pop5 s)) := by decide +kernel
theorem l_low7 : ∀ s, s < 32 → s ≠ 0 → f_X7_lowestVariable (nI s) = some (nI (lowv s)) := by decide +kernel
theorem l_bits7 : ∀ s, s < 32 → f_J6_bitCount_0f7a4 (nI s) = nI (pop5 s) := by decide +kernel
theorem lowv_lt : ∀ s, s < 32 → lowv s < 5 := by decide +kernel
theorem lowb_lt : ∀ s, s < 32 → lowb s < 32 := by decide +kernel
theorem lowb_sub : ∀ s, s < 32 → lowb s &&& s = lowb s := by decide +kernel
theorem pop5_lt : ∀ s, s < 32 → pop5 s < 6 := by decide +kernel
theorem pop5_0 : pop5 0 = 0 := by decide
theorem nb_lt {A : Nat → Nat} {set v r : Nat} {c : Bool} (hs : set < 32) (hr : r < 32) : (if r.testBit v then r ||| (if c then andn set (A v) else set &&& A v) else r) < 32 := by
  split
  · refine Nat.or_lt_two_pow (n := 5) hr ?_
    split
    · exact Nat.lt_of_le_of_lt (andn_le _ _) hs
    · exact Nat.lt_of_le_of_lt Nat.and_le_left hs
  · exact hr
theorem swp_lt {A : Nat → Nat} {set : Nat} {c : Bool} (hs : set < 32) : ∀ m v r, r < 32 → swp A set c m v r < 32
  | 0, _, _, h => h
  | m + 1, v, r, h => swp_lt hs m (v + 1) _ (nb_lt hs h)
theorem cmp_lt {A : Nat → Nat} {set N : Nat} {c : Bool} (hs : set < 32) : ∀ m r, r < 32 → cmp A set c N m r < 32
  | 0, _, h => h
  | m + 1, r, h => cmp_lt hs m _ (swp_lt hs N 0 r h)
theorem X_swp {A : Nat → Nat} {set : Nat} {c : Bool} (hs : set < 32) {K : Int32 → Option Int32} : ∀ (m v fu r : Nat), r < 32 → v + m = 5 → m < fu → f_X1_component_L18 (nI set) (cI c) (adjL A) K fu (nI r) (nI v) = K (nI (swp A set c m v r)) := by
  intro m
  induction m with
  | zero =>
    intro v fu r hr hk hf
    obtain ⟨fu, rfl⟩ : ∃ q, fu = q + 1 := ⟨fu - 1, by omega⟩
    have : v = 5 := by omega
    subst this
    rw [f_X1_component_L18, if_pos (by decide)]; rfl
  | succ m ih =>
    intro v fu r hr hk hf
    obtain ⟨fu, rfl⟩ : ∃ q, fu = q + 1 := ⟨fu - 1, by omega⟩
    have h1 := nb_lt (A := A) (v := v) (c := c) hs hr
    rw [f_X1_component_L18, if_neg (by rw [show (5 : Int32) = nI 5 from rfl]; exact nI_ge (by omega) (by decide)), n_has (by omega) (by omega), adjL_ld A (by omega), Option.bind_some, nI_1, fa_and, n_andn, fa_or, fa_or, swp, ← ih (v + 1) fu _ h1 (by omega) (by omega)]
    cases r.testBit v with
    | false => rw [if_pos bf0]; rfl
    | true =>
      rw [if_neg bt1]
      cases c <;> rfl
theorem X_cmp {A : Nat → Nat} {set rest : Nat} {c : Bool} (hs : set < 32) (hr : rest < 32) : f_X1_component (nI set) (nI rest) (cI c) (adjL A) = some (nI (cmp A set c 5 5 (lowb rest))) := by
  have key : ∀ (m k fu r : Nat), r < 32 → k + m = 5 → m < fu → f_X1_component_L9 (nI set) (cI c) (adjL A) (fun y8 => some y8) fu (nI r) (nI k) = some (nI (cmp A set c 5 m r)) := by
    intro m
    induction m with
    | zero =>
      intro k fu r hr hk hf
      obtain ⟨fu, rfl⟩ : ∃ q, fu = q + 1 := ⟨fu - 1, by omega⟩
      have : k = 5 := by omega
      subst this
      rw [f_X1_component_L9, if_pos (by decide)]; rfl
    | succ m ih =>
      intro k fu r hr hk hf
      obtain ⟨fu, rfl⟩ : ∃ q, fu = q + 1 := ⟨fu - 1, by omega⟩
      have h := X_swp (A := A) (c := c) hs (K := fun y7 => f_X1_component_L9 (nI set) (cI c) (adjL A) (fun y8 => some y8) fu y7 (nI (k + 1))) 5 0 tFU r hr (by omega) (by unfold tFU; omega)
      rw [nI_0] at h
      rw [f_X1_component_L9, if_neg (by rw [show (5 : Int32) = nI 5 from rfl]; exact nI_ge (by omega) (by decide)), nI_1, h]
      exact ih (k + 1) fu _ (swp_lt hs 5 0 r hr) (by omega) (by omega)
  unfold f_X1_component
  rw [l_lowb rest hr]
  exact key 5 0 tFU (lowb rest) (lowb_lt rest hr) (by omega) (by unfold tFU; omega)
theorem M_swp {A : Nat → Nat} {set n : Nat} {c : Bool} (hn : n ≤ 5) (hs : set < 32) {K : Int32 → Option Int32} : ∀ (m v fu r : Nat), r < 32 → v + m = n → m < fu → f_X8_component_L20 (nI set) (cI c) (nI n) (adjL A) K fu (nI r) (nI v) = K (nI (swp A set c m v r)) := by
  intro m
  induction m with
  | zero =>
    intro v fu r hr hk hf
    obtain ⟨fu, rfl⟩ : ∃ q, fu = q + 1 := ⟨fu - 1, by omega⟩
    have : v = n := by omega
    subst this
    rw [f_X8_component_L20, if_pos (nI_le (Nat.le_refl _) (by omega))]; rfl
  | succ m ih =>
    intro v fu r hr hk hf
    obtain ⟨fu, rfl⟩ : ∃ q, fu = q + 1 := ⟨fu - 1, by omega⟩
    have h1 := nb_lt (A := A) (v := v) (c := c) hs hr
    rw [f_X8_component_L20, if_neg (nI_ge (by omega) (by omega)), n_bit (by omega) (by omega), adjL_ld A (by omega), Option.bind_some, Option.bind_some, nI_1, fa_and, n_andn, fa_or, fa_or, swp, ← ih (v + 1) fu _ h1 (by omega) (by omega)]
    cases r.testBit v with
    | false => rw [if_pos bf0]; rfl
    | true =>
      rw [if_neg bt1]
      cases c <;> rfl
theorem M_cmp {A : Nat → Nat} {set l n : Nat} {c : Bool} (hn : n ≤ 5) (hs : set < 32) (hl : l < 5) : f_X8_component (nI set) (nI l) (cI c) (nI n) (adjL A) = some (nI (cmp A set c n n (2 ^ l))) := by
  have key : ∀ (m k fu r : Nat), r < 32 → k + m = n → m < fu → f_X8_component_L8 (nI set) (cI c) (nI n) (adjL A) (fun y8 => some y8) fu (nI r) (nI k) = some (nI (cmp A set c n m r)) := by
    intro m
    induction m with
    | zero =>
      intro k fu r hr hk hf
      obtain ⟨fu, rfl⟩ : ∃ q, fu = q + 1 := ⟨fu - 1, by omega⟩
      have : k = n := by omega
      subst this
      rw [f_X8_component_L8, if_pos (nI_le (Nat.le_refl _) (by omega))]; rfl
    | succ m ih =>
      intro k fu r hr hk hf
      obtain ⟨fu, rfl⟩ : ∃ q, fu = q + 1 := ⟨fu - 1, by omega⟩
      have h := M_swp (A := A) (c := c) hn hs (K := fun y7 => f_X8_component_L8 (nI set) (cI c) (nI n) (adjL A) (fun y8 => some y8) fu y7 (nI (k + 1))) n 0 tFU r hr (by omega) (by unfold tFU; omega)
      rw [nI_0] at h
      rw [f_X8_component_L8, if_neg (nI_ge (by omega) (by omega)), nI_1, h]
      exact ih (k + 1) fu _ (swp_lt hs n 0 r hr) (by omega) (by omega)
  unfold f_X8_component
  rw [n_sh1 l (by omega)]
  exact key n 0 tFU (2 ^ l) (show 2 ^ l < 2 ^ 5 from Nat.pow_lt_pow_right (by decide) hl) (by omega) (by unfold tFU; omega)
/-! trees: a node is its type and its parent's number plus one -/
def paI (a : Nat) : Int32 := match a with
  | 0 => -1
  | a + 1 => nI a
def tyT (T : List (Nat × Nat)) : List Int32 := T.map (fun q => nI q.1)
def paT (T : List (Nat × Nat)) : List Int32 := T.map (fun q => paI q.2)
def kC (A : Nat → Nat) (rc : Nat → Nat → List (Nat × Nat) → Option (List (Nat × Nat))) (set node : Nat) (c : Bool) : Nat → Nat → List (Nat × Nat) → Option (List (Nat × Nat))
  | 0, _, T => some T
  | m + 1, rest, T => if rest = 0 then some T else (rc (cmp A set c 5 5 (lowb rest)) (node + 1) T).bind fun T' => kC A rc set node c m (andn rest (cmp A set c 5 5 (lowb rest))) T'
def gC (A : Nat → Nat) : Nat → Nat → Nat → Nat → List (Nat × Nat) → Option (List (Nat × Nat))
  | 0, _, _, _, _ => none
  | D + 1, set, above, level, T => if 5 < level then some T else if 9 ≤ T.length then some T else if set = 0 then none else if pop5 set = 1 then some (T ++ [(lowv set, above)]) else
      if cmp A set false 5 5 (lowb set) = set then kC A (fun s a T => gC A D s a (level + 1) T) set T.length true 5 set (T ++ [(10, above)]) else kC A (fun s a T => gC A D s a (level + 1) T) set T.length false 5 set (T ++ [(11, above)])
def kM (A : Nat → Nat) (n : Nat) (rc : Nat → Nat → List (Nat × Nat) → Option (List (Nat × Nat))) (set node : Nat) (c : Bool) : Nat → Nat → List (Nat × Nat) → Option (List (Nat × Nat))
  | 0, _, _ => none
  | m + 1, rest, T => if rest = 0 then some T else (rc (cmp A set c n n (2 ^ lowv rest)) (node + 1) T).bind fun T' => kM A n rc set node c m (andn rest (cmp A set c n n (2 ^ lowv rest))) T'
def gM (A : Nat → Nat) (n : Nat) : Nat → Nat → Nat → List (Nat × Nat) → Option (List (Nat × Nat))
  | 0, _, _, _ => none
  | D + 1, set, above, T => if 12 ≤ T.length then none else if set = 0 then none else if pop5 set = 1 then some (T ++ [(lowv set, above)]) else
      if cmp A set false n n (2 ^ lowv set) = set then kM A n (gM A n D) set T.length true 6 set (T ++ [(10, above)]) else kM A n (gM A n D) set T.length false 6 set (T ++ [(11, above)])
theorem pushT {N : Nat} {xs : List Int32} {T : List (Nat × Nat)} (hN : N < 2 ^ 31) (h : pre N xs (tyT T)) (hl : T.length < N) (ty a : Nat) : ∃ zs, tst xs (nI T.length) (nI ty) = some zs ∧ pre N zs (tyT (T ++ [(ty, a)])) := by
  have e : (tyT T).length = T.length := by unfold tyT; rw [List.length_map]
  obtain ⟨zs, h1, h2⟩ := h.push hN (by omega) (nI ty)
  rw [e] at h1
  refine ⟨zs, h1, ?_⟩
  unfold tyT at h2 ⊢
  rw [List.map_append]
  exact h2
theorem pushP {N : Nat} {xs : List Int32} {T : List (Nat × Nat)} (hN : N < 2 ^ 31) (h : pre N xs (paT T)) (hl : T.length < N) (ty a : Nat) : ∃ zs, tst xs (nI T.length) (paI a) = some zs ∧ pre N zs (paT (T ++ [(ty, a)])) := by
  have e : (paT T).length = T.length := by unfold paT; rw [List.length_map]
  obtain ⟨zs, h1, h2⟩ := h.push hN (by omega) (paI a)
  rw [e] at h1
  refine ⟨zs, h1, ?_⟩
  unfold paT at h2 ⊢
  rw [List.map_append]
  exact h2
theorem ldT {N : Nat} {xs : List Int32} {T : List (Nat × Nat)} (hN : N < 2 ^ 31) (h : pre N xs (tyT T)) {k ty a : Nat} (hk : T[k]? = some (ty, a)) : tld xs (nI k) = some (nI ty) := by
  have hl := (List.getElem?_eq_some_iff.mp hk).1
  rw [h.ld hN (by unfold tyT; rw [List.length_map]; exact hl)]
  unfold tyT
  rw [List.getElem?_map, hk]; rfl
theorem ldP {N : Nat} {xs : List Int32} {T : List (Nat × Nat)} (hN : N < 2 ^ 31) (h : pre N xs (paT T)) {k ty a : Nat} (hk : T[k]? = some (ty, a)) : tld xs (nI k) = some (paI a) := by
  have hl := (List.getElem?_eq_some_iff.mp hk).1
  rw [h.ld hN (by unfold paT; rw [List.length_map]; exact hl)]
  unfold paT
  rw [List.getElem?_map, hk]; rfl
theorem pre_get {α : Type} {T T' : List α} (h : T <+: T') {k : Nat} {v : α} (hk : T[k]? = some v) : T'[k]? = some v := by
  obtain ⟨r, rfl⟩ := h
  have hl := (List.getElem?_eq_some_iff.mp hk).1
  rw [List.getElem?_append_left hl, hk]
theorem last_get {α : Type} (T : List α) (v : α) : (T ++ [v])[T.length]? = some v := List.getElem?_concat_length
theorem len1 (T : List (Nat × Nat)) (q : Nat × Nat) : (T ++ [q]).length = T.length + 1 := by rw [List.length_append]; rfl
/-- what is asked of a growing step of the class -/
def rcX (rcN : Nat → Nat → List (Nat × Nat) → Option (List (Nat × Nat))) (f : Int32 → Int32 → Int32 → List Int32 → List Int32 → Option (Int32 × List Int32 × List Int32)) : Prop := ∀ s a T T' c_t c_p, s < 32 → pre 9 c_t (tyT T) → pre 9 c_p (paT T) → rcN s a T = some T' → ∃ c_t' c_p', f (nI s) (paI a) (nI T.length) c_t c_p = some (nI T'.length, c_t', c_p') ∧ pre 9 c_t' (tyT T') ∧ pre 9 c_p' (paT T') ∧ T <+: T'
theorem X_kids {A : Nat → Nat} {rcN : Nat → Nat → List (Nat × Nat) → Option (List (Nat × Nat))} {rc : Int32 → Int32 → Int32 → List Int32 → Int32 → List Int32 → List Int32 → Option (Int32 × List Int32 × List Int32)} {lv : Int32} (hrc : rcX rcN (fun s a k t p => rc s a lv (adjL A) k t p)) {set node : Nat} {c : Bool} {b : Nat} (hs : set < 32) : ∀ (m k fu rest : Nat) (T T' : List (Nat × Nat)) (c_t c_p : List Int32), k + m = 5 → m < fu → rest < 32 → pre 9 c_t (tyT T) → pre 9 c_p (paT T) → T[node]? = some (if c then 10 else 11, b) → kC A rcN set node c m rest T = some T' → ∃ c_t' c_p', f_X1_growChildren_L6 rc (nI set) (nI node) lv (adjL A) (fun k14 k15 k16 => some (k14, k15, k16)) fu (nI rest) (nI k) (nI T.length) c_t c_p = some (nI T'.length, c_t', c_p') ∧ pre 9 c_t' (tyT T') ∧ pre 9 c_p' (paT T') ∧ T <+: T' := by
  intro m
  induction m with
  | zero =>
    intro k fu rest T T' c_t c_p hk hf hr h1 h2 h3 h4
    obtain ⟨fu, rfl⟩ : ∃ q, fu = q + 1 := ⟨fu - 1, by omega⟩
    have : k = 5 := by omega
    subst this
    rw [kC] at h4
    cases h4
    rw [f_X1_growChildren_L6, if_pos (by decide)]
    exact ⟨_, _, rfl, h1, h2, List.prefix_refl _⟩
  | succ m ih =>
    intro k fu rest T T' c_t c_p hk hf hr h1 h2 h3 h4
    obtain ⟨fu, rfl⟩ : ∃ q, fu = q + 1 := ⟨fu - 1, by omega⟩
    rw [f_X1_growChildren_L6, if_neg (by rw [show (5 : Int32) = nI 5 from rfl]; exact nI_ge (by omega) (by decide))]
    rw [kC] at h4
    by_cases hz : rest = 0
    · rw [if_pos hz] at h4
      cases h4
      rw [if_pos ((n_z (by omega)).mpr hz)]
      exact ⟨_, _, rfl, h1, h2, List.prefix_refl _⟩
    · rw [if_neg hz] at h4
      rw [if_neg (fun q => hz ((n_z (by omega)).mp q)), ldT (by decide) h1 h3, Option.bind_some]
      have hc1 : cmp A set c 5 5 (lowb rest) < 32 := cmp_lt hs 5 _ (lowb_lt rest hr)
      have hX := X_cmp (A := A) (c := c) hs hr
      cases hT : rcN (cmp A set c 5 5 (lowb rest)) (node + 1) T with
      | none => rw [hT] at h4; cases h4
      | some T2 =>
        rw [hT, Option.bind_some] at h4
        obtain ⟨c_t2, c_p2, e1, e2, e3, e4⟩ := hrc _ (node + 1) T T2 c_t c_p hc1 h1 h2 hT
        have e1 : rc (nI (cmp A set c 5 5 (lowb rest))) (nI node) lv (adjL A) (nI T.length) c_t c_p = _ := e1
        have hl := andn_le rest (cmp A set c 5 5 (lowb rest))
        obtain ⟨c_t3, c_p3, g1, g2, g3, g4⟩ := ih (k + 1) fu _ T2 T' c_t2 c_p2 (by omega) (by omega) (by omega) e2 e3 (pre_get e4 h3) h4
        refine ⟨c_t3, c_p3, ?_, g2, g3, e4.trans g4⟩
        cases c with
        | true =>
          have hX : f_X1_component (nI set) (nI rest) 1 (adjL A) = _ := hX
          rw [if_pos (show nI (if true = true then 10 else 11) = 10 from rfl), hX, Option.bind_some, e1, Option.bind_some, n_andn, nI_1]
          exact g1
        | false =>
          have hX : f_X1_component (nI set) (nI rest) 0 (adjL A) = _ := hX
          rw [if_neg (show ¬ nI (if false = true then 10 else 11) = 10 by decide), hX, Option.bind_some, e1, Option.bind_some, n_andn, nI_1]
          exact g1
theorem X_grow {A : Nat → Nat} : ∀ (D level : Nat), level ≤ 6 → rcX (fun s a T => gC A D s a level T) (fun s a k t p => f_X1_grow D s a (nI level) (adjL A) k t p) := by
  intro D
  induction D with
  | zero => intro level _ s a T T' c_t c_p _ _ _ h; cases h
  | succ D ih =>
    intro level hlv s a T T' c_t c_p hs h1 h2 h
    show ∃ c_t' c_p', f_X1_grow (D + 1) (nI s) (paI a) (nI level) (adjL A) (nI T.length) c_t c_p = _ ∧ _
    have h : gC A (D + 1) s a level T = some T' := h
    rw [gC] at h
    rw [f_X1_grow]
    dsimp only
    by_cases c1 : 5 < level
    · rw [if_pos c1] at h
      cases h
      rw [if_pos (by rw [show (5 : Int32) = nI 5 from rfl]; exact nI_lt c1 (by omega))]
      exact ⟨_, _, rfl, h1, h2, List.prefix_refl _⟩
    rw [if_neg c1] at h
    rw [if_neg (by rw [show (5 : Int32) = nI 5 from rfl]; exact nI_nlt (by omega) (by omega))]
    have hT9 : T.length ≤ 9 := by have := h1.le; unfold tyT at this; rw [List.length_map] at this; exact this
    by_cases c2 : 9 ≤ T.length
    · rw [if_pos c2] at h
      cases h
      rw [if_neg (by rw [show (9 : Int32) = nI 9 from rfl]; exact nI_nlt (by omega) (by omega))]
      exact ⟨_, _, rfl, h1, h2, List.prefix_refl _⟩
    rw [if_neg c2] at h
    rw [if_pos (by rw [show (9 : Int32) = nI 9 from rfl]; exact nI_lt (by omega) (by omega))]
    by_cases c3 : s = 0
    · rw [if_pos c3] at h; cases h
    rw [if_neg c3] at h
    have hp5 := pop5_lt s hs
    rw [l_bits7 s hs]
    by_cases c4 : pop5 s = 1
    · rw [if_pos c4] at h
      cases h
      obtain ⟨z1, e1, e2⟩ := pushP (by decide) h2 (by omega) (lowv s) a
      obtain ⟨z2, e3, e4⟩ := pushT (by decide) h1 (by omega) (lowv s) a
      rw [e1, Option.bind_some, if_pos (by rw [c4]; rfl), l_low7 s hs c3, Option.bind_some, e3, Option.bind_some, nI_1, ← len1]
      exact ⟨_, _, rfl, e4, e2, List.prefix_append _ _⟩
    rw [if_neg c4] at h
    have hX := X_cmp (A := A) (c := false) hs hs
    have hX : f_X1_component (nI s) (nI s) 0 (adjL A) = _ := hX
    have hc1 : cmp A s false 5 5 (lowb s) < 32 := cmp_lt hs 5 _ (lowb_lt s hs)
    by_cases c5 : cmp A s false 5 5 (lowb s) = s
    · rw [if_pos c5] at h
      obtain ⟨z1, e1, e2⟩ := pushP (by decide) h2 (by omega) 10 a
      obtain ⟨z2, e3, e4⟩ := pushT (by decide) h1 (by omega) 10 a
      have e3 : tst c_t (nI T.length) 10 = some z2 := e3
      obtain ⟨c_t3, c_p3, g1, g2, g3, g4⟩ := X_kids (c := true) (b := a) (ih (level + 1) (by omega)) hs 5 0 tFU s (T ++ [(10, a)]) T' z2 z1 (by omega) (by unfold tFU; omega) hs e4 e2 (last_get T _) h
      rw [e1, Option.bind_some, if_neg (show ¬ nI (pop5 s) = 1 from fun q => c4 ((nI_eq (b := 1) (by omega) (by decide)).mp q)), hX, Option.bind_some, c5, if_pos rfl, e3, Option.bind_some, nI_1, nI_1]
      unfold f_X1_growChildren
      rw [len1, nI_0] at g1
      rw [g1]
      exact ⟨_, _, rfl, g2, g3, (List.prefix_append _ _).trans g4⟩
    · rw [if_neg c5] at h
      obtain ⟨z1, e1, e2⟩ := pushP (by decide) h2 (by omega) 11 a
      obtain ⟨z2, e3, e4⟩ := pushT (by decide) h1 (by omega) 11 a
      have e3 : tst c_t (nI T.length) 11 = some z2 := e3
      obtain ⟨c_t3, c_p3, g1, g2, g3, g4⟩ := X_kids (c := false) (b := a) (ih (level + 1) (by omega)) hs 5 0 tFU s (T ++ [(11, a)]) T' z2 z1 (by omega) (by unfold tFU; omega) hs e4 e2 (last_get T _) h
      rw [e1, Option.bind_some, if_neg (show ¬ nI (pop5 s) = 1 from fun q => c4 ((nI_eq (b := 1) (by omega) (by decide)).mp q)), hX, Option.bind_some, if_neg (fun q => c5 ((nI_eq (by omega) (by omega)).mp q)), e3, Option.bind_some, nI_1, nI_1]
      unfold f_X1_growChildren
      rw [len1, nI_0] at g1
      rw [g1]
      exact ⟨_, _, rfl, g2, g3, (List.prefix_append _ _).trans g4⟩
def rcM (rcN : Nat → Nat → List (Nat × Nat) → Option (List (Nat × Nat))) (f : Int32 → Int32 → Int32 → List Int32 → List Int32 → Option (Int32 × List Int32 × List Int32)) : Prop := ∀ s a T T' m_ty m_pa, s < 32 → pre 12 m_ty (tyT T) → pre 12 m_pa (paT T) → rcN s a T = some T' → ∃ m_ty' m_pa', f (nI s) (paI a) (nI T.length) m_ty m_pa = some (nI T'.length, m_ty', m_pa') ∧ pre 12 m_ty' (tyT T') ∧ pre 12 m_pa' (paT T') ∧ T <+: T'
theorem pow_low {s : Nat} (hs : s < 32) : 2 ^ lowv s < 32 := show 2 ^ lowv s < 2 ^ 5 from Nat.pow_lt_pow_right (by decide) (lowv_lt s hs)
theorem M_kids {A : Nat → Nat} {n : Nat} (hn : n ≤ 5) {rcN : Nat → Nat → List (Nat × Nat) → Option (List (Nat × Nat))} {rc : Int32 → Int32 → Int32 → Int32 → List Int32 → List Int32 → List Int32 → Option (Int32 × List Int32 × List Int32)} (hrc : rcM rcN (fun s a k t p => rc s a (nI n) k (adjL A) t p)) {set node : Nat} {c : Bool} (hs : set < 32) : ∀ (m fu rest : Nat) (T T' : List (Nat × Nat)) (m_ty m_pa : List Int32), m ≤ fu → rest < 32 → pre 12 m_ty (tyT T) → pre 12 m_pa (paT T) → kM A n rcN set node c m rest T = some T' → ∃ m_ty' m_pa', f_X8_grow_L83 rc (nI set) (nI node) (cI c) (nI n) (adjL A) (fun k14 k15 k16 => some (k14, k15, k16)) fu (nI rest) (nI T.length) m_ty m_pa = some (nI T'.length, m_ty', m_pa') ∧ pre 12 m_ty' (tyT T') ∧ pre 12 m_pa' (paT T') ∧ T <+: T' := by
  intro m
  induction m with
  | zero => intro fu rest T T' m_ty m_pa hf hr h1 h2 h4; cases h4
  | succ m ih =>
    intro fu rest T T' m_ty m_pa hf hr h1 h2 h4
    obtain ⟨fu, rfl⟩ : ∃ q, fu = q + 1 := ⟨fu - 1, by omega⟩
    rw [f_X8_grow_L83]
    rw [kM] at h4
    by_cases hz : rest = 0
    · rw [if_pos hz] at h4
      cases h4
      rw [if_pos ((n_z (by omega)).mpr hz)]
      exact ⟨_, _, rfl, h1, h2, List.prefix_refl _⟩
    · rw [if_neg hz] at h4
      rw [if_neg (fun q => hz ((n_z (by omega)).mp q)), l_low8 rest hr hz, Option.bind_some, M_cmp hn hs (lowv_lt rest hr), Option.bind_some]
      have hc1 : cmp A set c n n (2 ^ lowv rest) < 32 := cmp_lt hs n _ (pow_low hr)
      cases hT : rcN (cmp A set c n n (2 ^ lowv rest)) (node + 1) T with
      | none => rw [hT] at h4; cases h4
      | some T2 =>
        rw [hT, Option.bind_some] at h4
        obtain ⟨c_t2, c_p2, e1, e2, e3, e4⟩ := hrc _ (node + 1) T T2 m_ty m_pa hc1 h1 h2 hT
        have e1 : rc (nI (cmp A set c n n (2 ^ lowv rest))) (nI node) (nI n) (nI T.length) (adjL A) m_ty m_pa = _ := e1
        have hl := andn_le rest (cmp A set c n n (2 ^ lowv rest))
        obtain ⟨c_t3, c_p3, g1, g2, g3, g4⟩ := ih fu _ T2 T' c_t2 c_p2 (by omega) (by omega) e2 e3 h4
        refine ⟨c_t3, c_p3, ?_, g2, g3, e4.trans g4⟩
        rw [e1, Option.bind_some, n_andn]
        exact g1
theorem M_grow {A : Nat → Nat} {n : Nat} (hn : n ≤ 5) : ∀ (D : Nat), rcM (gM A n D) (fun s a k t p => f_X8_grow D s a (nI n) k (adjL A) t p) := by
  intro D
  induction D with
  | zero => intro s a T T' m_ty m_pa _ _ _ h; cases h
  | succ D ih =>
    intro s a T T' m_ty m_pa hs h1 h2 h
    show ∃ m_ty' m_pa', f_X8_grow (D + 1) (nI s) (paI a) (nI n) (nI T.length) (adjL A) m_ty m_pa = _ ∧ _
    rw [gM] at h
    rw [f_X8_grow]
    dsimp only
    by_cases c2 : 12 ≤ T.length
    · rw [if_pos c2] at h; cases h
    rw [if_neg c2] at h
    by_cases c3 : s = 0
    · rw [if_pos c3] at h; cases h
    rw [if_neg c3] at h
    have hp5 := pop5_lt s hs
    rw [l_bits8 s hs]
    by_cases c4 : pop5 s = 1
    · rw [if_pos c4] at h
      cases h
      obtain ⟨z1, e1, e2⟩ := pushP (by decide) h2 (by omega) (lowv s) a
      obtain ⟨z2, e3, e4⟩ := pushT (by decide) h1 (by omega) (lowv s) a
      rw [e1, Option.bind_some, Option.bind_some, if_pos (by rw [c4]; rfl), l_low8 s hs c3, Option.bind_some, e3, Option.bind_some, nI_1, ← len1]
      exact ⟨_, _, rfl, e4, e2, List.prefix_append _ _⟩
    rw [if_neg c4] at h
    have hX := M_cmp (A := A) (c := false) hn hs (lowv_lt s hs)
    have hX : f_X8_component (nI s) (nI (lowv s)) 0 (nI n) (adjL A) = _ := hX
    have hc1 : cmp A s false n n (2 ^ lowv s) < 32 := cmp_lt hs n _ (pow_low hs)
    by_cases c5 : cmp A s false n n (2 ^ lowv s) = s
    · rw [if_pos c5] at h
      obtain ⟨z1, e1, e2⟩ := pushP (by decide) h2 (by omega) 10 a
      obtain ⟨z2, e3, e4⟩ := pushT (by decide) h1 (by omega) 10 a
      have e3 : tst m_ty (nI T.length) 10 = some z2 := e3
      obtain ⟨c_t3, c_p3, g1, g2, g3, g4⟩ := M_kids (c := true) hn ih hs 6 tFU s (T ++ [(10, a)]) T' z2 z1 (by unfold tFU; omega) hs e4 e2 h
      rw [e1, Option.bind_some, Option.bind_some, if_neg (show ¬ nI (pop5 s) = 1 from fun q => c4 ((nI_eq (b := 1) (by omega) (by decide)).mp q)), l_low8 s hs c3, Option.bind_some, hX, Option.bind_some, c5, if_pos rfl, e3, Option.bind_some, nI_1]
      rw [len1] at g1
      have g1 : f_X8_grow_L83 (f_X8_grow D) (nI s) (nI T.length) 1 (nI n) (adjL A) _ tFU (nI s) _ z2 z1 = _ := g1
      rw [g1]
      exact ⟨_, _, rfl, g2, g3, (List.prefix_append _ _).trans g4⟩
    · rw [if_neg c5] at h
      obtain ⟨z1, e1, e2⟩ := pushP (by decide) h2 (by omega) 11 a
      obtain ⟨z2, e3, e4⟩ := pushT (by decide) h1 (by omega) 11 a
      have e3 : tst m_ty (nI T.length) 11 = some z2 := e3
      obtain ⟨c_t3, c_p3, g1, g2, g3, g4⟩ := M_kids (c := false) hn ih hs 6 tFU s (T ++ [(11, a)]) T' z2 z1 (by unfold tFU; omega) hs e4 e2 h
      rw [e1, Option.bind_some, Option.bind_some, if_neg (show ¬ nI (pop5 s) = 1 from fun q => c4 ((nI_eq (b := 1) (by omega) (by decide)).mp q)), l_low8 s hs c3, Option.bind_some, hX, Option.bind_some, if_neg (fun q => c5 ((nI_eq (by omega) (by omega)).mp q)), e3, Option.bind_some, nI_1]
      rw [len1] at g1
      have g1 : f_X8_grow_L83 (f_X8_grow D) (nI s) (nI T.length) 0 (nI n) (adjL A) _ tFU (nI s) _ z2 z1 = _ := g1
      rw [g1]
      exact ⟨_, _, rfl, g2, g3, (List.prefix_append _ _).trans g4⟩
