/-! graphs and their numbers -/
def eU (e : Nat) : Nat := if e < 4 then 0 else if e < 7 then 1 else if e < 9 then 2 else 3
def eV (e : Nat) : Nat := if e < 4 then e + 1 else if e < 7 then e - 2 else if e < 9 then e - 4 else 4
theorem eIx_ok : ∀ v, v < 5 → ∀ i, i < 5 → (v = i ∧ eIx v i = 10) ∨ (eIx v i < 10 ∧ ((eU (eIx v i) = v ∧ eV (eIx v i) = i) ∨ (eU (eIx v i) = i ∧ eV (eIx v i) = v))) := by decide +kernel
theorem gok_adj {n V : Nat} {A : Nat → Nat} (hg : gok n V A) (hn : n ≤ 5) {v : Nat} (hv : v < 5) : adjG (tabN (fun e => (A (eU e)).testBit (eV e)) 10) v = A v := by
  have h32 : A v < 2 ^ 5 := Nat.lt_of_lt_of_le (hg.lt v) (Nat.pow_le_pow_right (by decide) hn)
  apply Nat.eq_of_testBit_eq
  intro i
  unfold adjG
  rw [tabN_bit]
  by_cases hi : i < 5
  · rw [decide_eq_true hi, Bool.true_and, tabN_bit]
    rcases eIx_ok v hv i hi with ⟨rfl, h⟩ | ⟨h1, ⟨h2, h3⟩ | ⟨h2, h3⟩⟩
    · rw [h]
      cases hb : (A v).testBit v with
      | false => rfl
      | true => exact absurd rfl (hg.2 v v hb).1
    · rw [decide_eq_true h1, Bool.true_and, h2, h3]
    · rw [decide_eq_true h1, Bool.true_and, h2, h3, Bool.eq_iff_iff]
      exact ⟨fun h => (hg.2 i v h).2.1, fun h => (hg.2 v i h).2.1⟩
  · rw [decide_eq_false hi, bit_hi h32 (by omega)]; rfl
theorem unp_pk {A : Nat → Nat} (h : ∀ v, A v < 32) (h5 : ∀ v, 5 ≤ v → A v = 0) : A = unp (pkA A) := by
  have h0 := h 0
  have h1 := h 1
  have h2 := h 2
  have h3 := h 3
  have h4 := h 4
  funext v
  unfold unp pkA
  by_cases hv : v < 5
  · match v, hv with
    | 0, _ => show A 0 = _ / 1 % 32; omega
    | 1, _ => show A 1 = _ / 32 % 32; omega
    | 2, _ => show A 2 = _ / 1024 % 32; omega
    | 3, _ => show A 3 = _ / 32768 % 32; omega
    | 4, _ => show A 4 = _ / 1048576 % 32; omega
  · have : A 0 + 32 * A 1 + 1024 * A 2 + 32768 * A 3 + 1048576 * A 4 < 2 ^ (5 * v) := Nat.lt_of_lt_of_le (show _ < 2 ^ 25 by omega) (Nat.pow_le_pow_right (by decide) (by omega))
    rw [h5 v (by omega), Nat.div_eq_of_lt this]
theorem gok_M {n V : Nat} {A : Nat → Nat} (hg : gok n V A) (hn : n ≤ 5) : ∃ M, chkM M = true ∧ A = unp M := by
  have h32 : ∀ v, A v < 32 := fun v => Nat.lt_of_lt_of_le (hg.lt v) (show 2 ^ n ≤ 2 ^ 5 from Nat.pow_le_pow_right (by decide) hn)
  refine ⟨pkA A, ?_, unp_pk h32 (fun v hv => ?_)⟩
  · have hg2 := tabN_lt (fun e => (A (eU e)).testBit (eV e)) 10
    have h1 := t_rows _ hg2
    have e : pkA (adjG (tabN (fun e => (A (eU e)).testBit (eV e)) 10)) = pkA A := by
      unfold pkA
      rw [gok_adj hg hn (v := 0) (by decide), gok_adj hg hn (v := 1) (by decide), gok_adj hg hn (v := 2) (by decide), gok_adj hg hn (v := 3) (by decide), gok_adj hg hn (v := 4) (by decide)]
    rw [e, List.contains_iff_mem] at h1
    cases hL : GLA[tabN (fun e => (A (eU e)).testBit (eV e)) 10 / 64]? with
    | none => rw [hL] at h1; cases h1
    | some L =>
      rw [hL] at h1
      exact List.all_eq_true.mp (t_GLA L (List.mem_of_getElem? hL)) _ h1
  · apply Nat.eq_of_testBit_eq
    intro i
    rw [Nat.zero_testBit]
    cases hb : (A v).testBit i with
    | false => rfl
    | true =>
      have := bit_lo hg.1 (hg.2 v i hb).2.2.1
      omega
theorem chkA_to {M V : Nat} : ∀ {k : Nat}, chkA M k = true → 1 ≤ V → V ≤ k → andn (sup M) V = 0 → chkV M V = true
  | 0, _, h1, h2, _ => absurd h2 (by omega)
  | k + 1, h, h1, h2, h3 => by
    rw [chkA, Bool.and_eq_true, Bool.or_eq_true] at h
    by_cases e : V = k + 1
    · subst e
      rcases h.1 with h | h
      · rw [h3] at h; cases h
      · exact h
    · exact chkA_to h.2 h1 (by omega) h3
theorem eqT_ok : ∀ {s t : List (Nat × Nat)}, eqT s t = true → s = t
  | [], [], _ => rfl
  | a :: s, b :: t, h => by
    rw [eqT, Bool.and_eq_true, Bool.and_eq_true] at h
    have h1 := Nat.eq_of_beq_eq_true h.1
    have h2 := Nat.eq_of_beq_eq_true h.2.1
    rw [eqT_ok h.2.2]
    obtain ⟨a1, a2⟩ := a
    obtain ⟨b1, b2⟩ := b
    cases h1; cases h2; rfl
theorem eqO_ok : ∀ {s t : List Nat}, eqO s t = true → s = t
  | [], [], _ => rfl
  | a :: s, b :: t, h => by
    rw [eqO, Bool.and_eq_true] at h
    rw [Nat.eq_of_beq_eq_true h.1, eqO_ok h.2]
theorem isT_ok {T : List (Nat × Nat)} {o : Option (List (Nat × Nat))} (h : isT T o = true) : o = some T := by
  cases o with
  | none => cases h
  | some T' => rw [eqT_ok (s := T) (t := T') h]
theorem isO_ok {T : List Nat} {o : Option (List Nat)} (h : isO T o = true) : o = some T := by
  cases o with
  | none => cases h
  | some T' => rw [eqO_ok (s := T) (t := T') h]
theorem chkN_to {M V : Nat} {T : List (Nat × Nat)} : ∀ {k n : Nat}, chkN M V T k = true → 1 ≤ n → n ≤ k → V < 2 ^ n → gM (unp M) n 10 V 0 [] = some T
  | 0, n, _, h1, h2, _ => absurd h2 (by omega)
  | k + 1, n, h, h1, h2, h3 => by
    rw [chkN, Bool.and_eq_true, Bool.or_eq_true] at h
    by_cases e : n = k + 1
    · subst e
      rcases h.1 with h | h
      · exact absurd (Nat.le_of_ble_eq_true h) (by omega)
      · exact isT_ok h
    · exact chkN_to h.2 h1 (by omega) h3
theorem valT_ok : ∀ {T : List (Nat × Nat)} {i k ty a : Nat}, valT T i = true → T[k]? = some (ty, a) → a ≤ i + k ∧ ty ≤ 12
  | [], _, _, _, _, _, h => by cases h
  | q :: T, i, 0, ty, a, h, hk => by
    rw [valT, Bool.and_eq_true, Bool.and_eq_true] at h
    cases hk
    exact ⟨Nat.le_of_ble_eq_true h.1, Nat.le_of_ble_eq_true h.2.1⟩
  | q :: T, i, k + 1, ty, a, h, hk => by
    rw [valT, Bool.and_eq_true, Bool.and_eq_true] at h
    have := valT_ok (T := T) (i := i + 1) (k := k) h.2.2 hk
    omega
/-- what is known of a tree -/
def okT (T : List (Nat × Nat)) : Prop := T.length ≤ 9 ∧ ∀ (k ty a : Nat), T[k]? = some (ty, a) → a ≤ k ∧ ty ≤ 12
theorem tree_of {n V : Nat} {A : Nat → Nat} (hg : gok n V A) (hn0 : 1 ≤ n) (hn : n ≤ 5) (hV : V ≠ 0) (hp : ff (pcond A) 625 0 = none) : ∃ T O, gC A 10 V 0 1 [] = some T ∧ gM A n 10 V 0 [] = some T ∧ okT T ∧ 1 ≤ T.length ∧ wC T 10 0 1 [] = some O ∧ wM T 10 0 [] = some O := by
  obtain ⟨M, hM, rfl⟩ := gok_M hg hn
  have h5 : 2 ^ n ≤ 2 ^ 5 := Nat.pow_le_pow_right (by decide) hn
  have hV32 := hg.1
  unfold chkM chkP at hM
  rw [hp, Bool.or_false] at hM
  have hs : andn (sup M) V = 0 := by
    rw [andn_zero]
    intro i hi
    unfold sup at hi
    simp only [Nat.testBit_or, Bool.or_eq_true] at hi
    rcases hi with (((hi | hi) | hi) | hi) | hi
    · exact (hg.2 _ _ hi).2.2.2
    · exact (hg.2 _ _ hi).2.2.2
    · exact (hg.2 _ _ hi).2.2.2
    · exact (hg.2 _ _ hi).2.2.2
    · exact (hg.2 _ _ hi).2.2.2
  have hc := chkA_to hM (by omega) (by omega) hs
  unfold chkV at hc
  cases hG : gC (unp M) 10 V 0 1 [] with
  | none => rw [hG] at hc; cases hc
  | some T =>
    rw [hG] at hc
    simp only [Bool.and_eq_true] at hc
    obtain ⟨v1, v2, v3, v4, v5⟩ := hc
    unfold chkW at v4
    cases hO : wC T 10 0 1 [] with
    | none => rw [hO] at v4; cases v4
    | some O =>
      rw [hO] at v4
      refine ⟨T, O, rfl, chkN_to v5 hn0 hn hg.1, ⟨Nat.le_of_ble_eq_true v3, fun k ty a h => ?_⟩, Nat.le_of_ble_eq_true v2, hO, isO_ok v4⟩
      have := valT_ok v1 h
      omega
/-! writing -/
theorem X_put {O O' : List Nat} {w_s : List Int32} (h : pre 16 w_s (O.map nI)) {x : Nat} (hp : pushN x O = some O') : ∃ w_s', f_X2_put (nI x) (nI O.length) w_s = some (nI O'.length, w_s') ∧ pre 16 w_s' (O'.map nI) := by
  unfold pushN at hp
  split at hp
  · next hl =>
    cases hp
    obtain ⟨zs, h1, h2⟩ := h.push (by decide) (by rw [List.length_map]; exact hl) (nI x)
    rw [List.length_map] at h1
    refine ⟨zs, ?_, by rw [List.map_append]; exact h2⟩
    unfold f_X2_put
    rw [if_neg (by rw [show (16 : Int32) = nI 16 from rfl]; exact nI_ge (by omega) (by decide)), h1, Option.bind_some, nI_1, List.length_append]; rfl
  · cases hp
theorem M_put {O O' : List Nat} {w_s : List Int32} (h : pre 40 w_s (O.map nI)) {x : Nat} (hp : pushN x O = some O') : ∃ w_s', f_X8_put (nI x) (nI O.length) w_s = some (nI O'.length, w_s') ∧ pre 40 w_s' (O'.map nI) := by
  unfold pushN at hp
  split at hp
  · next hl =>
    cases hp
    obtain ⟨zs, h1, h2⟩ := h.push (by decide) (by rw [List.length_map]; omega) (nI x)
    rw [List.length_map] at h1
    refine ⟨zs, ?_, by rw [List.map_append]; exact h2⟩
    unfold f_X8_put
    rw [h1, Option.bind_some, nI_1, List.length_append]; rfl
  · cases hp
theorem paI_eq {a node : Nat} (ha : a ≤ 20) (hn : node ≤ 20) : paI a = nI node ↔ a = node + 1 := by
  cases a with
  | zero =>
    show (-1 : Int32) = nI node ↔ _
    constructor
    · intro h; exact absurd h.symm (nI_ne_m1 (by omega))
    · intro h; omega
  | succ a =>
    show nI a = nI node ↔ _
    rw [nI_eq (by omega) (by omega)]
    omega
def rwX (N : Nat) (rcN : Nat → List Nat → Option (List Nat)) (f : Int32 → Int32 → List Int32 → Option (Int32 × List Int32)) : Prop := ∀ k O O' w_s, k ≤ 20 → pre N w_s (O.map nI) → rcN k O = some O' → ∃ w_s', f (nI k) (nI O.length) w_s = some (nI O'.length, w_s') ∧ pre N w_s' (O'.map nI)
theorem bind_inv {α β : Type} {o : Option α} {f : α → Option β} {r : β} (h : o.bind f = some r) : ∃ v, o = some v ∧ f v = some r := by
  cases o with
  | none => cases h
  | some v => exact ⟨v, rfl, h⟩
section WX
variable {T : List (Nat × Nat)} {c_t c_p : List Int32}
theorem X_child (h1 : pre 9 c_t (tyT T)) (hT : okT T) {rcN : Nat → List Nat → Option (List Nat)} {rc : Int32 → Int32 → Int32 → List Int32 → List Int32 → Int32 → List Int32 → Option (Int32 × List Int32)} {lv : Int32} (hrc : rwX 16 rcN (fun k l s => rc k lv (nI T.length) c_t c_p l s)) {k : Nat} {q : Nat × Nat} (hk : T[k]? = some q) {O O' : List Nat} {w_s : List Int32} (hw : pre 16 w_s (O.map nI)) (h : (if q.1 = 11 then (pushN 40 O).bind fun O2 => (rcN k O2).bind fun O3 => pushN 41 O3 else rcN k O) = some O') : ∃ w_s', f_X2_putChild rc (nI k) lv (nI T.length) c_t c_p (nI O.length) w_s = some (nI O'.length, w_s') ∧ pre 16 w_s' (O'.map nI) := by
  obtain ⟨ty, a⟩ := q
  have hkl : k < T.length := (List.getElem?_eq_some_iff.mp hk).1
  have hT9 := hT.1
  have hty := (hT.2 k ty a hk).2
  unfold f_X2_putChild
  rw [ldT (by decide) h1 hk, Option.bind_some]
  by_cases c : ty = 11
  · rw [if_pos c] at h
    obtain ⟨O2, e1, h⟩ := bind_inv h
    obtain ⟨O3, e2, e3⟩ := bind_inv h
    obtain ⟨w2, a1, a2⟩ := X_put hw e1
    obtain ⟨w3, b1, b2⟩ := hrc k O2 O3 w2 (by omega) a2 e2
    obtain ⟨w4, d1, d2⟩ := X_put b2 e3
    have a1 : f_X2_put 40 (nI O.length) w_s = _ := a1
    have b1 : rc (nI k) lv (nI T.length) c_t c_p (nI O2.length) w2 = _ := b1
    have d1 : f_X2_put 41 (nI O3.length) w3 = _ := d1
    rw [if_pos (by rw [c]; rfl), a1, Option.bind_some, b1, Option.bind_some, d1]
    exact ⟨w4, rfl, d2⟩
  · rw [if_neg c] at h
    obtain ⟨w3, b1, b2⟩ := hrc k O O' w_s (by omega) hw h
    have b1 : rc (nI k) lv (nI T.length) c_t c_p (nI O.length) w_s = _ := b1
    rw [if_neg (show ¬ nI ty = 11 from fun x => c ((nI_eq (b := 11) (by omega) (by decide)).mp x)), b1]
    exact ⟨w3, rfl, b2⟩
theorem X_kw (h1 : pre 9 c_t (tyT T)) (h2 : pre 9 c_p (paT T)) (hT : okT T) {rcN : Nat → List Nat → Option (List Nat)} {rc : Int32 → Int32 → Int32 → List Int32 → List Int32 → Int32 → List Int32 → Option (Int32 × List Int32)} {level : Nat} (hrc : rwX 16 rcN (fun k l s => rc k (nI (level + 1)) (nI T.length) c_t c_p l s)) {node ty : Nat} (hnode : node ≤ 20) (hty : ty ≤ 12) : ∀ (m k fu : Nat) (first : Bool) (O O' : List Nat) (w_s : List Int32), k + m = T.length → m < fu → pre 16 w_s (O.map nI) → kwC T rcN node ty m first k O = some O' → ∃ w_s', f_X2_putNode_L47 rc (nI node) (nI level) (nI ty) (nI T.length) c_t c_p (fun k22 k23 => some (k22, k23)) fu (cI first) (nI k) (nI O.length) w_s = some (nI O'.length, w_s') ∧ pre 16 w_s' (O'.map nI) := by
  have hT9 := hT.1
  intro m
  induction m with
  | zero =>
    intro k fu first O O' w_s hk hf hw h
    obtain ⟨fu, rfl⟩ : ∃ q, fu = q + 1 := ⟨fu - 1, by omega⟩
    cases h
    rw [f_X2_putNode_L47, if_pos (nI_le (by omega) (by omega))]
    exact ⟨_, rfl, hw⟩
  | succ m ih =>
    intro k fu first O O' w_s hk hf hw h
    obtain ⟨fu, rfl⟩ : ∃ q, fu = q + 1 := ⟨fu - 1, by omega⟩
    rw [kwC] at h
    obtain ⟨q, hq, h⟩ := bind_inv h
    have hq2 : T[k]? = some (q.1, q.2) := hq
    have hb := hT.2 k q.1 q.2 hq2
    rw [f_X2_putNode_L47, if_neg (nI_ge (by omega) (by omega)), ldP (by decide) h2 hq2, Option.bind_some]
    by_cases c : q.2 = node + 1
    · rw [if_pos c] at h
      rw [if_pos ((paI_eq (by omega) hnode).mpr c)]
      obtain ⟨O1, e1, h6⟩ := bind_inv h
      obtain ⟨O4, e4, h7⟩ := bind_inv h6
      cases first with
      | true =>
        rw [if_pos rfl] at e1
        cases e1
        obtain ⟨w4, b1, b2⟩ := X_child h1 hT hrc hq hw e4
        obtain ⟨w5, d1, d2⟩ := ih (k + 1) fu false O4 O' w4 (by omega) (by omega) b2 h7
        rw [if_neg (show ¬ cI true = 0 by decide), nI_1, b1, Option.bind_some, nI_1]
        exact ⟨w5, d1, d2⟩
      | false =>
        rw [if_neg (by decide)] at e1
        rw [if_pos (show cI false = 0 from rfl)]
        by_cases c2 : ty = 10
        · rw [if_pos c2] at e1
          obtain ⟨w3, a1, a2⟩ := X_put hw e1
          have a1 : f_X2_put 42 (nI O.length) w_s = _ := a1
          obtain ⟨w4, b1, b2⟩ := X_child h1 hT hrc hq a2 e4
          obtain ⟨w5, d1, d2⟩ := ih (k + 1) fu false O4 O' w4 (by omega) (by omega) b2 h7
          rw [if_pos (by rw [c2]; rfl), a1, Option.bind_some, nI_1, b1, Option.bind_some, nI_1]
          exact ⟨w5, d1, d2⟩
        · rw [if_neg c2] at e1
          obtain ⟨w3, a1, a2⟩ := X_put hw e1
          have a1 : f_X2_put 43 (nI O.length) w_s = _ := a1
          obtain ⟨w4, b1, b2⟩ := X_child h1 hT hrc hq a2 e4
          obtain ⟨w5, d1, d2⟩ := ih (k + 1) fu false O4 O' w4 (by omega) (by omega) b2 h7
          rw [if_neg (show ¬ nI ty = 10 from fun x => c2 ((nI_eq (b := 10) (by omega) (by decide)).mp x)), a1, Option.bind_some, nI_1, b1, Option.bind_some, nI_1]
          exact ⟨w5, d1, d2⟩
    · rw [if_neg c] at h
      rw [if_neg (fun x => c ((paI_eq (by omega) hnode).mp x)), nI_1]
      exact ih (k + 1) fu first O O' w_s (by omega) (by omega) hw h
theorem X_write (h1 : pre 9 c_t (tyT T)) (h2 : pre 9 c_p (paT T)) (hT : okT T) : ∀ (D level : Nat), level ≤ 6 → rwX 16 (fun k O => wC T D k level O) (fun k l s => f_X2_putNode D k (nI level) (nI T.length) c_t c_p l s) := by
  have hT9 := hT.1
  intro D
  induction D with
  | zero => intro level _ k O O' w_s _ _ h; cases h
  | succ D ih =>
    intro level hlv k O O' w_s hk hw h
    show ∃ w_s', f_X2_putNode (D + 1) (nI k) (nI level) (nI T.length) c_t c_p (nI O.length) w_s = _ ∧ _
    have h : wC T (D + 1) k level O = some O' := h
    rw [wC] at h
    rw [f_X2_putNode]
    dsimp only
    by_cases c1 : 5 < level
    · rw [if_pos c1] at h
      cases h
      rw [if_pos (show (5 : Int32) < nI level by rw [show (5 : Int32) = nI 5 from rfl]; exact nI_lt c1 (by omega))]
      exact ⟨_, rfl, hw⟩
    rw [if_neg c1] at h
    rw [if_neg (show ¬ (5 : Int32) < nI level by rw [show (5 : Int32) = nI 5 from rfl]; exact nI_nlt (by omega) (by omega))]
    unfold f_X1_has
    by_cases c2 : T.length ≤ k
    · rw [if_pos c2] at h
      cases h
      rw [if_pos (show f_X7_isIndex (nI k) (nI T.length) = 0 by unfold f_X7_isIndex; rw [if_neg (nI_pos (by omega)), if_pos (nI_le c2 (by omega))])]
      exact ⟨_, rfl, hw⟩
    rw [if_neg c2] at h
    rw [if_neg (ne10 (n_isIndex1 (by omega) (by omega)))]
    obtain ⟨q, hq, h⟩ := bind_inv h
    have hq2 : T[k]? = some (q.1, q.2) := hq
    have hb := hT.2 k q.1 q.2 hq2
    rw [ldT (by decide) h1 hq2, Option.bind_some]
    by_cases c3 : 10 ≤ q.1
    · rw [if_pos c3] at h
      obtain ⟨w2, a1, a2⟩ := X_kw h1 h2 hT (ih (level + 1) (by omega)) hk hb.2 (T.length - (k + 1)) (k + 1) tFU true O O' w_s (by omega) (by unfold tFU; omega) hw h
      rw [if_pos (show (10 : Int32) ≤ nI q.1 by rw [show (10 : Int32) = nI 10 from rfl]; exact nI_le c3 (by omega)), nI_1]
      exact ⟨w2, a1, a2⟩
    · rw [if_neg c3] at h
      obtain ⟨w2, a1, a2⟩ := X_put hw h
      rw [if_neg (show ¬ (10 : Int32) ≤ nI q.1 by rw [show (10 : Int32) = nI 10 from rfl]; exact nI_ge (by omega) (by omega)), show (97 : Int32) + nI q.1 = nI (97 + q.1) from nI_add 97 q.1, a1]
      exact ⟨w2, rfl, a2⟩
end WX
section WM
variable {T : List (Nat × Nat)} {m_ty m_pa : List Int32}
theorem M_kw (h1 : pre 12 m_ty (tyT T)) (h2 : pre 12 m_pa (paT T)) (hT : okT T) {rcN : Nat → List Nat → Option (List Nat)} {rc : Int32 → Int32 → Int32 → List Int32 → List Int32 → List Int32 → Option (Int32 × List Int32)} (hrc : rwX 40 rcN (fun k l s => rc k l (nI T.length) s m_ty m_pa)) {node ty b : Nat} (hnode : node ≤ 20) (hty : ty ≤ 12) (hTn : T[node]? = some (ty, b)) : ∀ (m k fu : Nat) (first : Bool) (O O' : List Nat) (w_s : List Int32), k + m = T.length → m < fu → pre 40 w_s (O.map nI) → kwM T rcN node ty m first k O = some O' → ∃ w_s', f_X8_write_L31 rc (nI node) (nI T.length) m_ty m_pa (fun k22 k23 => some (k22, k23)) fu (cI first) (nI k) (nI O.length) w_s = some (nI O'.length, w_s') ∧ pre 40 w_s' (O'.map nI) := by
  have hT9 := hT.1
  intro m
  induction m with
  | zero =>
    intro k fu first O O' w_s hk hf hw h
    obtain ⟨fu, rfl⟩ : ∃ q, fu = q + 1 := ⟨fu - 1, by omega⟩
    cases h
    rw [f_X8_write_L31, if_pos (nI_le (by omega) (by omega))]
    exact ⟨_, rfl, hw⟩
  | succ m ih =>
    intro k fu first O O' w_s hk hf hw h
    obtain ⟨fu, rfl⟩ : ∃ q, fu = q + 1 := ⟨fu - 1, by omega⟩
    rw [kwM] at h
    obtain ⟨q, hq, h⟩ := bind_inv h
    have hq2 : T[k]? = some (q.1, q.2) := hq
    have hb := hT.2 k q.1 q.2 hq2
    have t1 := ldT (by decide) h1 hTn
    have t2 := ldT (by decide) h1 hq2
    rw [f_X8_write_L31, if_neg (nI_ge (by omega) (by omega)), ldP (by decide) h2 hq2, Option.bind_some]
    by_cases c : q.2 = node + 1
    · rw [if_pos c] at h
      rw [if_pos ((paI_eq (by omega) hnode).mpr c), t1]
      simp only [Option.bind_some, t1, t2, nI_1]
      obtain ⟨O1, e1, h⟩ := bind_inv h
      obtain ⟨O4, e4, h⟩ := bind_inv h
      have n11 : ¬ q.1 = 11 → ¬ nI q.1 = 11 := fun c x => c ((nI_eq (b := 11) (by omega) (by decide)).mp x)
      have n10 : ¬ ty = 10 → ¬ nI ty = 10 := fun c x => c ((nI_eq (b := 10) (by omega) (by decide)).mp x)
      have tail : ∀ (w1 : List Int32), pre 40 w1 (O1.map nI) → ∃ w_s', (if nI ty = 10 then (if nI q.1 = 11 then (f_X8_put 40 (nI O1.length) w1).bind fun r58 => (rc (nI k) (r58.1) (nI T.length) (r58.2) m_ty m_pa).bind fun r60 => (f_X8_put 41 (r60.1) (r60.2)).bind fun r62 => f_X8_write_L31 rc (nI node) (nI T.length) m_ty m_pa (fun k22 k23 => some (k22, k23)) fu 0 (nI (k + 1)) (r62.1) (r62.2) else (rc (nI k) (nI O1.length) (nI T.length) w1 m_ty m_pa).bind fun r56 => f_X8_write_L31 rc (nI node) (nI T.length) m_ty m_pa (fun k22 k23 => some (k22, k23)) fu 0 (nI (k + 1)) (r56.1) (r56.2)) else (rc (nI k) (nI O1.length) (nI T.length) w1 m_ty m_pa).bind fun r51 => f_X8_write_L31 rc (nI node) (nI T.length) m_ty m_pa (fun k22 k23 => some (k22, k23)) fu 0 (nI (k + 1)) (r51.1) (r51.2)) = some (nI O'.length, w_s') ∧ pre 40 w_s' (O'.map nI) := by
        intro w1 hw1
        have plain : rcN k O1 = some O4 → ∃ w_s', ((rc (nI k) (nI O1.length) (nI T.length) w1 m_ty m_pa).bind fun r51 => f_X8_write_L31 rc (nI node) (nI T.length) m_ty m_pa (fun k22 k23 => some (k22, k23)) fu 0 (nI (k + 1)) (r51.1) (r51.2)) = some (nI O'.length, w_s') ∧ pre 40 w_s' (O'.map nI) := by
          intro e
          obtain ⟨w2, a1, a2⟩ := hrc k O1 O4 w1 (by omega) hw1 e
          have a1 : rc (nI k) (nI O1.length) (nI T.length) w1 m_ty m_pa = _ := a1
          obtain ⟨w5, d1, d2⟩ := ih (k + 1) fu false O4 O' w2 (by omega) (by omega) a2 h
          rw [a1]
          exact ⟨w5, d1, d2⟩
        by_cases c2 : ty = 10
        · rw [if_pos c2] at e4
          rw [if_pos (show nI ty = 10 by rw [c2]; rfl)]
          by_cases c3 : q.1 = 11
          · rw [if_pos c3] at e4
            obtain ⟨O2, f1, e4⟩ := bind_inv e4
            obtain ⟨O3, f2, f3⟩ := bind_inv e4
            obtain ⟨w2, a1, a2⟩ := M_put hw1 f1
            have a1 : f_X8_put 40 (nI O1.length) w1 = _ := a1
            obtain ⟨w3, b1, b2⟩ := hrc k O2 O3 w2 (by omega) a2 f2
            have b1 : rc (nI k) (nI O2.length) (nI T.length) w2 m_ty m_pa = _ := b1
            obtain ⟨w4, g1, g2⟩ := M_put b2 f3
            have g1 : f_X8_put 41 (nI O3.length) w3 = _ := g1
            obtain ⟨w5, d1, d2⟩ := ih (k + 1) fu false O4 O' w4 (by omega) (by omega) g2 h
            rw [if_pos (show nI q.1 = 11 by rw [c3]; rfl), a1, Option.bind_some, b1, Option.bind_some, g1]
            exact ⟨w5, d1, d2⟩
          · rw [if_neg c3] at e4
            rw [if_neg (n11 c3)]
            exact plain e4
        · rw [if_neg c2] at e4
          rw [if_neg (n10 c2)]
          exact plain e4
      cases first with
      | true =>
        rw [if_pos rfl] at e1
        cases e1
        rw [if_neg (show ¬ cI true = 0 by decide)]
        exact tail w_s hw
      | false =>
        rw [if_neg (by decide)] at e1
        rw [if_pos (show cI false = 0 from rfl)]
        by_cases c2 : ty = 10
        · rw [if_pos c2] at e1
          obtain ⟨w3, a1, a2⟩ := M_put hw e1
          have a1 : f_X8_put 42 (nI O.length) w_s = _ := a1
          have c3 : nI ty = 10 := by rw [c2]; rfl
          rw [if_pos c3, a1]
          exact tail w3 a2
        · rw [if_neg c2] at e1
          obtain ⟨w3, a1, a2⟩ := M_put hw e1
          have a1 : f_X8_put 43 (nI O.length) w_s = _ := a1
          rw [if_neg (n10 c2), a1]
          exact tail w3 a2
    · rw [if_neg c] at h
      rw [if_neg (fun x => c ((paI_eq (by omega) hnode).mp x)), nI_1]
      exact ih (k + 1) fu first O O' w_s (by omega) (by omega) hw h
theorem M_write (h1 : pre 12 m_ty (tyT T)) (h2 : pre 12 m_pa (paT T)) (hT : okT T) : ∀ (D : Nat), rwX 40 (wM T D) (fun k l s => f_X8_write D k l (nI T.length) s m_ty m_pa) := by
  have hT9 := hT.1
  intro D
  induction D with
  | zero => intro k O O' w_s _ _ h; cases h
  | succ D ih =>
    intro k O O' w_s hk hw h
    show ∃ w_s', f_X8_write (D + 1) (nI k) (nI O.length) (nI T.length) w_s m_ty m_pa = _ ∧ _
    rw [wM] at h
    rw [f_X8_write]
    dsimp only
    obtain ⟨q, hq, h⟩ := bind_inv h
    have hq2 : T[k]? = some (q.1, q.2) := hq
    have hkl := (List.getElem?_eq_some_iff.mp hq2).1
    have hb := hT.2 k q.1 q.2 hq2
    rw [ldT (by decide) h1 hq2, Option.bind_some, Option.bind_some]
    by_cases c3 : 10 ≤ q.1
    · rw [if_pos c3] at h
      obtain ⟨w2, a1, a2⟩ := M_kw h1 h2 hT ih hk hb.2 hq2 (T.length - (k + 1)) (k + 1) tFU true O O' w_s (by omega) (by unfold tFU; omega) hw h
      rw [if_pos (show (10 : Int32) ≤ nI q.1 by rw [show (10 : Int32) = nI 10 from rfl]; exact nI_le c3 (by omega)), nI_1]
      exact ⟨w2, a1, a2⟩
    · rw [if_neg c3] at h
      obtain ⟨w2, a1, a2⟩ := M_put hw h
      rw [if_neg (show ¬ (10 : Int32) ≤ nI q.1 by rw [show (10 : Int32) = nI 10 from rfl]; exact nI_ge (by omega) (by omega)), show (97 : Int32) + nI q.1 = nI (97 + q.1) from nI_add 97 q.1, a1]
      exact ⟨w2, rfl, a2⟩
end WM
