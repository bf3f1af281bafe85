/-! extensions and counts -/
def agr (sp sb e : Nat) : Bool := ((e / 128 ^^^ sb) &&& sp) == 0
theorem lN_z {a : Nat} (h : a < 2 ^ 63) : lg_cmp (lN a) 0 = 0 ↔ a = 0 := by
  rw [lg_cmp_eq]
  constructor
  · intro q
    have := congrArg Int64.toInt q
    rw [pk_lT h] at this
    have e : (0 : Int64).toInt = 0 := by decide
    rw [e] at this
    omega
  · intro q; rw [q]; rfl
theorem lN_cmp {a b : Nat} (ha : a < 2 ^ 63) (hb : b < 2 ^ 63) : lg_cmp (lN a) (lN b) = 0 ↔ a = b := by
  rw [lg_cmp_eq]
  constructor
  · intro q
    have := congrArg Int64.toInt q
    rw [pk_lT ha, pk_lT hb] at this
    omega
  · intro q; rw [q]
theorem agr_iff {n sp sb e : Nat} (hp : sp < tabs n) (hs : sb &&& sp = sb) : agr sp sb e = true ↔ (e / 128 &&& (tabs n - 1)) &&& sp = sb := by
  unfold agr
  rw [beq_iff_eq]
  have hfull : ∀ i, sp.testBit i = true → (tabs n - 1).testBit i = true := fun i hi => by
    have e : (tabs n - 1).testBit i = decide (i < 2 ^ n) := Nat.testBit_two_pow_sub_one _ _
    rw [e, decide_eq_true (bit_lo (n := 2 ^ n) hp hi)]
  have hsb : ∀ i, sb.testBit i = true → sp.testBit i = true := fun i hi => by
    have h : (sb &&& sp).testBit i = sb.testBit i := by rw [hs]
    rw [Nat.testBit_and, hi, Bool.true_and] at h
    exact h
  constructor
  · intro h
    apply Nat.eq_of_testBit_eq
    intro i
    have h2 : ((e / 128 ^^^ sb) &&& sp).testBit i = false := by rw [h, Nat.zero_testBit]
    rw [Nat.testBit_and, Nat.testBit_xor] at h2
    rw [Nat.testBit_and, Nat.testBit_and]
    have f1 := hfull i
    have f2 := hsb i
    cases a1 : (e / 128).testBit i <;> cases a2 : sb.testBit i <;> cases a3 : sp.testBit i <;> cases a4 : (tabs n - 1).testBit i <;> simp_all
  · intro h
    apply Nat.eq_of_testBit_eq
    intro i
    have h2 : ((e / 128 &&& (tabs n - 1)) &&& sp).testBit i = sb.testBit i := by rw [h]
    rw [Nat.testBit_and, Nat.testBit_and] at h2
    rw [Nat.testBit_and, Nat.testBit_xor, Nat.zero_testBit]
    have f1 := hfull i
    have f2 := hsb i
    cases a1 : (e / 128).testBit i <;> cases a2 : sb.testBit i <;> cases a3 : sp.testBit i <;> cases a4 : (tabs n - 1).testBit i <;> simp_all
theorem drop_get {C : List Nat} {e i : Nat} {L : List Nat} (h : L.drop i = e :: C) : L[i]? = some e ∧ L.drop (i + 1) = C := by
  constructor
  · have := congrArg (fun l => l[0]?) h
    simp only [List.getElem?_drop, Nat.add_zero, List.getElem?_cons_zero] at this
    exact this
  · have := congrArg List.tail h
    rw [List.tail_drop] at this
    exact this
theorem CE_len : CE.length = 839 := by rw [CE_perm.length_eq]; exact segE_len
theorem CE_pre : pre 839 (CE.map lN) (CE.map lN) := ⟨by rw [List.length_map]; exact CE_len, List.prefix_refl _⟩
section EX
variable {n sp sb : Nat} {m_fn : List Int64}
theorem X_isPt {s : Nat} (hn : n ≤ 5) (hs : s < 32) : f_X7_isPoint (nI s) (nI n) = if 2 ^ n ≤ s then 0 else 1 := by
  have h5 := n_p5 hn
  unfold f_X7_isPoint
  rw [n_pc (by omega)]
  split
  · next h => unfold f_X7_isIndex; rw [if_neg (nI_pos (by omega)), if_pos (nI_le h (by omega))]
  · next h => exact n_isIndex1 (by omega) (by omega)
theorem X_isExt (hn : n ≤ 5) (hsp : sp < 2 ^ 62) (hsb : sb < 2 ^ 62) {i e : Nat} (hi : CE[i]? = some e) : f_X7_isExtension (nI i) (nI n) (lN sp) (lN sb) (nI CE.length) (CE.map lN) = some (if 2 ^ n ≤ e / 4 % 32 then 0 else nI (agr sp sb e).toNat) := by
  have he := CE_big (List.mem_of_getElem? hi)
  have hle : (e / 128 ^^^ sb) &&& sp ≤ sp := Nat.and_le_right
  unfold f_X7_isExtension
  rw [X_tab CE_pre hi he, Option.bind_some, X_sup CE_pre hi he, Option.bind_some, X_isPt hn (by omega), xorL, andL]
  by_cases c : 2 ^ n ≤ e / 4 % 32
  · rw [if_pos c, if_pos rfl, if_pos c]
  · rw [if_neg c, if_neg z_1, if_neg c]
    unfold agr
    by_cases c2 : (e / 128 ^^^ sb) &&& sp = 0
    · rw [if_pos ((lN_z (by omega)).mpr c2), c2]; rfl
    · rw [if_neg (fun q => c2 ((lN_z (by omega)).mp q)), beq_eq_false_iff_ne.mpr c2]; rfl
theorem M_agr (hn : n ≤ 5) (hp : sp < tabs n) (hs : sb &&& sp = sb) (e : Nat) : f_X8_agrees (lN (e / 128 &&& (tabs n - 1))) (lN sp) (lN sb) = nI (agr sp sb e).toNat := by
  have h62 := tabs63 hn hp
  have hsb : sb ≤ sp := by rw [← hs]; exact Nat.and_le_right
  have hle : (e / 128 &&& (tabs n - 1)) &&& sp ≤ sp := Nat.and_le_right
  unfold f_X8_agrees
  rw [andL]
  cases h : agr sp sb e with
  | true => rw [if_pos ((lN_cmp (by omega) (by omega)).mpr ((agr_iff hp hs).mp h))]; rfl
  | false =>
    rw [if_neg]
    · rfl
    · intro q
      have := (agr_iff (e := e) hp hs).mpr ((lN_cmp (by omega) (by omega)).mp q)
      rw [h] at this; cases this
/-- the suffixes of the two lists go together -/
def tog (n i k : Nat) (C : List Nat) : Prop := CE.drop i = C ∧ i + C.length = CE.length ∧ (FL n).drop k = cN n C ∧ k + (cN n C).length = (FL n).length
theorem tog.skip {i k e : Nat} {C : List Nat} (h : tog n i k (e :: C)) (c : 2 ^ n ≤ e / 4 % 32) : CE[i]? = some e ∧ i < 839 ∧ tog n (i + 1) k C := by
  obtain ⟨h1, h2, h3, h4⟩ := h
  obtain ⟨a1, a2⟩ := drop_get h1
  rw [cN, if_pos (Nat.ble_eq_true_of_le c)] at h3 h4
  rw [List.length_cons] at h2
  have := CE_len
  exact ⟨a1, by omega, a2, by omega, h3, h4⟩
theorem tog.step {i k e : Nat} {C : List Nat} (h : tog n i k (e :: C)) (c : ¬ 2 ^ n ≤ e / 4 % 32) : CE[i]? = some e ∧ i < 839 ∧ (FL n)[k]? = some (e / 128 &&& (tabs n - 1)) ∧ k < (FL n).length ∧ tog n (i + 1) (k + 1) C := by
  obtain ⟨h1, h2, h3, h4⟩ := h
  obtain ⟨a1, a2⟩ := drop_get h1
  rw [cN, if_neg (fun q => c (Nat.le_of_ble_eq_true q))] at h3 h4
  obtain ⟨b1, b2⟩ := drop_get h3
  rw [List.length_cons] at h2 h4
  have := CE_len
  exact ⟨a1, by omega, b1, by omega, a2, by omega, b2, by omega⟩
theorem tog.fin {i k : Nat} (h : tog n i k []) : i = 839 ∧ k = (FL n).length := by
  obtain ⟨h1, h2, h3, h4⟩ := h
  have h2 : i + 0 = CE.length := h2
  have h4 : k + 0 = (FL n).length := h4
  have := CE_len
  exact ⟨by omega, by omega⟩
theorem tog0 (hn0 : 1 ≤ n) (hn : n ≤ 5) : tog n 0 0 CE := by
  have h := eqO_ok (k_cN n (by omega) hn0)
  exact ⟨rfl, by omega, h.symm, by rw [h]; omega⟩
theorem FL_le (hn0 : 1 ≤ n) (hn : n ≤ 5) : (FL n).length ≤ 839 := Nat.le_of_ble_eq_true (k_lenF n (by omega) hn0)
theorem FL_ld (h : pre 900 m_fn ((FL n).map lN)) {k f : Nat} (hk : (FL n)[k]? = some f) : tld m_fn (nI k) = some (lN f) := by
  have hl := (List.getElem?_eq_some_iff.mp hk).1
  rw [h.ld (by decide) (by rw [List.length_map]; exact hl), List.getElem?_map, hk]; rfl
theorem CE_n : nI CE.length = nI 839 := by rw [CE_len]
theorem p_extensions (hn0 : 1 ≤ n) (hn : n ≤ 5) (hp : sp < tabs n) (hs : sb &&& sp = sb) (hF : pre 900 m_fn ((FL n).map lN)) : ∃ z, f_X7_extensions (nI n) (lN sp) (lN sb) (nI CE.length) (CE.map lN) = some z ∧ f_X8_extensions (lN sp) (lN sb) (nI (FL n).length) m_fn = some z := by
  have h62 := tabs63 hn hp
  have hsb : sb ≤ sp := by rw [← hs]; exact Nat.and_le_right
  have hFl := FL_le hn0 hn
  have key : ∀ (C : List Nat) (i k fu fv c : Nat), tog n i k C → C.length < fu → (cN n C).length < fv → ∃ z, f_X7_extensions_L9 (nI n) (lN sp) (lN sb) (nI CE.length) (CE.map lN) (fun y5 => some y5) fu (nI c) (nI i) = some z ∧ f_X8_extensions_L4 (lN sp) (lN sb) (nI (FL n).length) m_fn (fun y5 => some y5) fv (nI c) (nI k) = some z := by
    intro C
    induction C with
    | nil =>
      intro i k fu fv c ht hf hv
      obtain ⟨fu, rfl⟩ : ∃ q, fu = q + 1 := ⟨fu - 1, by omega⟩
      obtain ⟨fv, rfl⟩ : ∃ q, fv = q + 1 := ⟨fv - 1, by omega⟩
      obtain ⟨rfl, rfl⟩ := ht.fin
      rw [f_X7_extensions_L9, f_X8_extensions_L4, CE_n, if_pos (nI_le (Nat.le_refl _) (by decide)), if_pos (nI_le (Nat.le_refl _) (by omega))]
      exact ⟨_, rfl, rfl⟩
    | cons e C ih =>
      intro i k fu fv c ht hf hv
      obtain ⟨fu, rfl⟩ : ∃ q, fu = q + 1 := ⟨fu - 1, by omega⟩
      rw [List.length_cons] at hf
      by_cases c1 : 2 ^ n ≤ e / 4 % 32
      · obtain ⟨a1, a2, a3⟩ := ht.skip c1
        rw [cN, if_pos (Nat.ble_eq_true_of_le c1)] at hv
        rw [f_X7_extensions_L9, X_isExt hn h62 (by omega) a1, CE_n, if_neg (nI_ge a2 (by decide)), Option.bind_some, if_pos c1, if_pos rfl, nI_1, ← CE_n]
        exact ih (i + 1) k fu fv c a3 (by omega) hv
      · obtain ⟨a1, a2, b1, b2, a3⟩ := ht.step c1
        rw [cN, if_neg (fun q => c1 (Nat.le_of_ble_eq_true q)), List.length_cons] at hv
        obtain ⟨fv, rfl⟩ : ∃ q, fv = q + 1 := ⟨fv - 1, by omega⟩
        rw [f_X7_extensions_L9, X_isExt hn h62 (by omega) a1, CE_n, if_neg (nI_ge a2 (by decide)), Option.bind_some, if_neg c1, nI_1, nI_1, ← CE_n, f_X8_extensions_L4, if_neg (nI_ge b2 (by omega)), FL_ld hF b1, Option.bind_some, M_agr hn hp hs, Int32.add_zero, nI_1, nI_1]
        cases agr sp sb e with
        | false =>
          rw [if_pos bf0, if_pos bf0]
          exact ih (i + 1) (k + 1) fu fv c a3 (by omega) (by omega)
        | true =>
          rw [if_neg bt1, if_neg bt1]
          exact ih (i + 1) (k + 1) fu fv (c + 1) a3 (by omega) (by omega)
  have ht := tog0 hn0 hn
  have h4 := ht.2.2.2
  exact key CE 0 0 tFU tFU 0 ht (by rw [CE_len]; decide) (by unfold tFU; omega)
theorem p_extension (hn0 : 1 ≤ n) (hn : n ≤ 5) (hp : sp < tabs n) (hs : sb &&& sp = sb) (hF : pre 900 m_fn ((FL n).map lN)) (x0 : Int32) : ∃ z, f_X7_extension x0 (nI n) (lN sp) (lN sb) (nI CE.length) (CE.map lN) = some z ∧ f_X8_extension x0 (lN sp) (lN sb) (nI (FL n).length) m_fn = some z := by
  have h62 := tabs63 hn hp
  have hsb : sb ≤ sp := by rw [← hs]; exact Nat.and_le_right
  have hFl := FL_le hn0 hn
  have key : ∀ (C : List Nat) (i k fu fv c : Nat), tog n i k C → C.length < fu → (cN n C).length < fv → ∃ z, f_X7_extension_L10 x0 (nI n) (lN sp) (lN sb) (nI CE.length) (CE.map lN) (some (-1)) fu (nI c) (nI i) = some z ∧ f_X8_extension_L4 x0 (lN sp) (lN sb) (nI (FL n).length) m_fn (some (-1)) fv (nI c) (nI k) = some z := by
    intro C
    induction C with
    | nil =>
      intro i k fu fv c ht hf hv
      obtain ⟨fu, rfl⟩ : ∃ q, fu = q + 1 := ⟨fu - 1, by omega⟩
      obtain ⟨fv, rfl⟩ : ∃ q, fv = q + 1 := ⟨fv - 1, by omega⟩
      obtain ⟨rfl, rfl⟩ := ht.fin
      rw [f_X7_extension_L10, f_X8_extension_L4, CE_n, if_pos (nI_le (Nat.le_refl _) (by decide)), if_pos (nI_le (Nat.le_refl _) (by omega))]
      exact ⟨_, rfl, rfl⟩
    | cons e C ih =>
      intro i k fu fv c ht hf hv
      obtain ⟨fu, rfl⟩ : ∃ q, fu = q + 1 := ⟨fu - 1, by omega⟩
      rw [List.length_cons] at hf
      by_cases c1 : 2 ^ n ≤ e / 4 % 32
      · obtain ⟨a1, a2, a3⟩ := ht.skip c1
        rw [cN, if_pos (Nat.ble_eq_true_of_le c1)] at hv
        rw [f_X7_extension_L10, X_isExt hn h62 (by omega) a1, CE_n, if_neg (nI_ge a2 (by decide)), Option.bind_some, if_pos c1, if_pos rfl, nI_1, ← CE_n]
        exact ih (i + 1) k fu fv c a3 (by omega) hv
      · obtain ⟨a1, a2, b1, b2, a3⟩ := ht.step c1
        have he := CE_big (List.mem_of_getElem? a1)
        rw [cN, if_neg (fun q => c1 (Nat.le_of_ble_eq_true q)), List.length_cons] at hv
        obtain ⟨fv, rfl⟩ : ∃ q, fv = q + 1 := ⟨fv - 1, by omega⟩
        rw [f_X7_extension_L10, X_isExt hn h62 (by omega) a1, X_tab CE_pre a1 he]
        simp only [Option.bind_some]
        rw [n_fullT hn, andL, CE_n, if_neg (nI_ge a2 (by decide)), if_neg c1, nI_1, nI_1, ← CE_n, f_X8_extension_L4, if_neg (nI_ge b2 (by omega)), FL_ld hF b1]
        simp only [Option.bind_some]
        rw [M_agr hn hp hs, nI_1, nI_1]
        cases agr sp sb e with
        | false =>
          rw [if_pos bf0, if_pos bf0]
          exact ih (i + 1) (k + 1) fu fv c a3 (by omega) (by omega)
        | true =>
          rw [if_neg bt1, if_neg bt1]
          by_cases c2 : nI c = x0
          · rw [if_pos c2, if_pos c2]
            exact ⟨_, rfl, rfl⟩
          · rw [if_neg c2, if_neg c2]
            exact ih (i + 1) (k + 1) fu fv (c + 1) a3 (by omega) (by omega)
  have ht := tog0 hn0 hn
  have h4 := ht.2.2.2
  exact key CE 0 0 tFU tFU 0 ht (by rw [CE_len]; decide) (by unfold tFU; omega)
theorem ess_of (hn0 : 1 ≤ n) (hn : n ≤ 5) {i e : Nat} (hi : CE[i]? = some e) (c : ¬ 2 ^ n ≤ e / 4 % 32) : pop5 (essS n (e / 128 &&& (tabs n - 1))) = pop5 (e / 4 % 32) := by
  have h := List.all_eq_true.mp (k_e n (by omega) hn0) e (List.mem_of_getElem? hi)
  unfold chkE at h
  rw [Bool.or_eq_true] at h
  rcases h with h | h
  · exact absurd (Nat.le_of_ble_eq_true h) c
  · exact Nat.eq_of_beq_eq_true h
theorem M_bits (hn : n ≤ 5) {f : Nat} (hf : f < 2 ^ 62) : ((f_X8_essentialOf (lN f) (nI n) (nI (pts n))).bind fun r => f_X8_bits r) = some (nI (pop5 (essS n f))) := by
  have h : essS n f < 2 ^ n := tabN_lt _ _
  have h5 := n_p5 hn
  rw [M_ess hn hf, Option.bind_some, l_bits8 _ (by omega)]
theorem tab62 (hn : n ≤ 5) (e : Nat) : e / 128 &&& (tabs n - 1) < 2 ^ 62 := by
  have h1 : e / 128 &&& (tabs n - 1) ≤ tabs n - 1 := Nat.and_le_right
  have h2 := tabs_le hn
  omega
theorem p_readOnceCount (hn0 : 1 ≤ n) (hn : n ≤ 5) (hF : pre 900 m_fn ((FL n).map lN)) (x0 : Int32) : ∃ z, f_X7_readOnceCount x0 (nI n) (nI CE.length) (CE.map lN) = some z ∧ f_X8_readOnceCount_L21 x0 (nI n) (nI (pts n)) (nI (FL n).length) m_fn (fun y10 => some y10) tFU 0 0 = some z := by
  have hFl := FL_le hn0 hn
  have key : ∀ (C : List Nat) (i k fu fv c : Nat), tog n i k C → C.length < fu → (cN n C).length < fv → ∃ z, f_X7_readOnceCount_L29 x0 (nI n) (nI CE.length) (CE.map lN) (fun y7 => some y7) fu (nI c) (nI i) = some z ∧ f_X8_readOnceCount_L21 x0 (nI n) (nI (pts n)) (nI (FL n).length) m_fn (fun y10 => some y10) fv (nI c) (nI k) = some z := by
    intro C
    induction C with
    | nil =>
      intro i k fu fv c ht hf hv
      obtain ⟨fu, rfl⟩ : ∃ q, fu = q + 1 := ⟨fu - 1, by omega⟩
      obtain ⟨fv, rfl⟩ : ∃ q, fv = q + 1 := ⟨fv - 1, by omega⟩
      obtain ⟨rfl, rfl⟩ := ht.fin
      rw [f_X7_readOnceCount_L29, f_X8_readOnceCount_L21, CE_n, if_pos (nI_le (Nat.le_refl _) (by decide)), if_pos (nI_le (Nat.le_refl _) (by omega))]
      exact ⟨_, rfl, rfl⟩
    | cons e C ih =>
      intro i k fu fv c ht hf hv
      obtain ⟨fu, rfl⟩ : ∃ q, fu = q + 1 := ⟨fu - 1, by omega⟩
      rw [List.length_cons] at hf
      by_cases c1 : 2 ^ n ≤ e / 4 % 32
      · obtain ⟨a1, a2, a3⟩ := ht.skip c1
        have he := CE_big (List.mem_of_getElem? a1)
        rw [cN, if_pos (Nat.ble_eq_true_of_le c1)] at hv
        rw [f_X7_readOnceCount_L29, X_sup CE_pre a1 he, CE_n, if_neg (nI_ge a2 (by decide)), Option.bind_some, X_isPt hn (by omega), if_pos c1, if_pos rfl, nI_1, ← CE_n]
        exact ih (i + 1) k fu fv c a3 (by omega) hv
      · obtain ⟨a1, a2, b1, b2, a3⟩ := ht.step c1
        have he := CE_big (List.mem_of_getElem? a1)
        have hM := M_bits hn (tab62 hn e)
        rw [M_ess hn (tab62 hn e), Option.bind_some] at hM
        rw [cN, if_neg (fun q => c1 (Nat.le_of_ble_eq_true q)), List.length_cons] at hv
        obtain ⟨fv, rfl⟩ : ∃ q, fv = q + 1 := ⟨fv - 1, by omega⟩
        rw [f_X7_readOnceCount_L29, X_sup CE_pre a1 he, CE_n, if_neg (nI_ge a2 (by decide)), Option.bind_some, X_isPt hn (by omega), if_neg c1, if_neg z_1, l_bits7 _ (by omega), nI_1, nI_1, ← CE_n, f_X8_readOnceCount_L21, if_neg (nI_ge b2 (by omega)), FL_ld hF b1, Option.bind_some, M_ess hn (tab62 hn e), Option.bind_some, hM, Option.bind_some, ess_of hn0 hn a1 c1, Int32.add_zero, nI_1, nI_1]
        by_cases c2 : nI (pop5 (e / 4 % 32)) = x0
        · rw [if_pos c2, if_pos c2]
          exact ih (i + 1) (k + 1) fu fv (c + 1) a3 (by omega) (by omega)
        · rw [if_neg c2, if_neg c2]
          exact ih (i + 1) (k + 1) fu fv c a3 (by omega) (by omega)
  have ht := tog0 hn0 hn
  have h4 := ht.2.2.2
  exact key CE 0 0 tFU tFU 0 ht (by rw [CE_len]; decide) (by unfold tFU; omega)
theorem p_simpkey {kk : Int32} {ke : List Int64} (hk : kk = nI 839) (hS : ∀ i e : Nat, CE[i]? = some e → f_X0_supportAt (nI i) kk ke = some (nI (e / 4 % 32))) (hT : ∀ i e : Nat, CE[i]? = some e → f_X0_tableAt (nI i) kk ke = some (lN (e / 128))) (hX : ∀ i e : Nat, CE[i]? = some e → f_X7_isExtension (nI i) (nI n) (lN sp) (lN sb) kk ke = some (if 2 ^ n ≤ e / 4 % 32 then 0 else nI (agr sp sb e).toNat)) (hn0 : 1 ≤ n) (hn : n ≤ 5) (hp : sp < tabs n) (hs : sb &&& sp = sb) (hF : pre 900 m_fn ((FL n).map lN)) : ∀ (C : List Nat) (i k fu fv p : Nat) (v : Int64) (w : Int32), tog n i k C → C.length < fu → (cN n C).length < fv → ((v = -1 ∧ p = 6 ∧ w = -1) ∨ ∃ b f, b < 2 ^ 31 ∧ (FL n)[b]? = some f ∧ f < 2 ^ 62 ∧ v = lN f ∧ w = nI b ∧ p = pop5 (essS n f) ∧ p < 6) → ∃ z, f_X7_simplestExtension_L16 (nI n) (lN sp) (lN sb) kk ke (fun y10 => some y10) fu v (nI p) (nI i) = some z ∧ f_X8_simplestExtension_L4 (nI n) (nI (pts n)) (lN sp) (lN sb) (nI (FL n).length) m_fn (fun y19 => (if y19 = (-1) then some (-1) else (tld m_fn y19).bind fun r21 => some r21)) fv w (nI k) = some z := by
  have h62 := tabs63 hn hp
  have hsb : sb ≤ sp := by rw [← hs]; exact Nat.and_le_right
  have hFl := FL_le hn0 hn
  intro C
  induction C with
  | nil =>
    intro i k fu fv p v w ht hf hv hst
    obtain ⟨fu, rfl⟩ : ∃ q, fu = q + 1 := ⟨fu - 1, by omega⟩
    obtain ⟨fv, rfl⟩ : ∃ q, fv = q + 1 := ⟨fv - 1, by omega⟩
    obtain ⟨rfl, rfl⟩ := ht.fin
    rw [f_X7_simplestExtension_L16, f_X8_simplestExtension_L4, if_pos (show kk ≤ nI 839 by rw [hk]; exact nI_le (Nat.le_refl _) (by decide)), if_pos (nI_le (Nat.le_refl _) (by omega))]
    rcases hst with ⟨rfl, rfl, rfl⟩ | ⟨b, f, hb, g1, g2, rfl, rfl, rfl, -⟩
    · exact ⟨_, rfl, rfl⟩
    · rw [if_neg (nI_ne_m1 hb), FL_ld hF g1]
      exact ⟨_, rfl, rfl⟩
  | cons e C ih =>
    intro i k fu fv p v w ht hf hv hst
    obtain ⟨fu, rfl⟩ : ∃ q, fu = q + 1 := ⟨fu - 1, by omega⟩
    rw [List.length_cons] at hf
    have hp7 : p < 7 := by
      rcases hst with ⟨-, rfl, -⟩ | ⟨b, f, -, -, -, -, -, -, h⟩
      · decide
      · omega
    have hpe := pop5_lt (e / 4 % 32) (by omega)
    by_cases c1 : 2 ^ n ≤ e / 4 % 32
    · obtain ⟨a1, a2, a3⟩ := ht.skip c1
      rw [cN, if_pos (Nat.ble_eq_true_of_le c1)] at hv
      rw [f_X7_simplestExtension_L16, hS i e a1, hX i e a1, if_neg (show ¬ kk ≤ nI i by rw [hk]; exact nI_ge a2 (by decide)), Option.bind_some, Option.bind_some, if_pos c1, if_pos rfl, nI_1]
      have := ih (i + 1) k fu fv p v w a3 (by omega) hv hst
      split
      · exact this
      · exact this
    · obtain ⟨a1, a2, b1, b2, a3⟩ := ht.step c1
      have hM := M_bits hn (tab62 hn e)
      rw [M_ess hn (tab62 hn e), Option.bind_some] at hM
      have hess := ess_of hn0 hn a1 c1
      rw [cN, if_neg (fun q => c1 (Nat.le_of_ble_eq_true q)), List.length_cons] at hv
      obtain ⟨fv, rfl⟩ : ∃ q, fv = q + 1 := ⟨fv - 1, by omega⟩
      rw [f_X7_simplestExtension_L16, hS i e a1, hX i e a1, hT i e a1]
      simp only [Option.bind_some]
      rw [n_fullT hn, andL, if_neg (show ¬ kk ≤ nI i by rw [hk]; exact nI_ge a2 (by decide)), if_neg c1, l_bits7 _ (by omega), nI_1, f_X8_simplestExtension_L4, if_neg (nI_ge b2 (by omega)), FL_ld hF b1]
      simp only [Option.bind_some]
      rw [M_agr hn hp hs, M_ess hn (tab62 hn e), Option.bind_some, hM, Option.bind_some, nI_1]
      have keep := ih (i + 1) (k + 1) fu fv p v w a3 (by omega) (by omega) hst
      have take := ih (i + 1) (k + 1) fu fv (pop5 (e / 4 % 32)) (lN (e / 128 &&& (tabs n - 1))) (nI k) a3 (by omega) (by omega) (Or.inr ⟨k, e / 128 &&& (tabs n - 1), by omega, b1, tab62 hn e, rfl, rfl, hess.symm, hpe⟩)
      rcases hst with ⟨rfl, rfl, rfl⟩ | ⟨b, f, hb, g1, g2, rfl, rfl, hpp, hp6⟩
      · rw [if_neg (nI_ge hpe (by decide))]
        cases agr sp sb e with
        | false =>
          rw [if_pos bf0, if_pos bf0]
          exact keep
        | true =>
          rw [if_neg bt1, if_neg bt1, if_pos rfl]
          exact take
      · have hMb := M_bits hn g2
        rw [M_ess hn g2, Option.bind_some] at hMb
        rw [FL_ld hF g1, Option.bind_some, M_ess hn g2, Option.bind_some, hMb, Option.bind_some, hess, ← hpp, if_neg (nI_ne_m1 hb)]
        by_cases c3 : p ≤ pop5 (e / 4 % 32)
        · rw [if_pos (nI_le c3 (by omega)), if_pos (nI_le c3 (by omega))]
          split
          · exact keep
          · exact keep
        · rw [if_neg (nI_ge (by omega) (by omega)), if_neg (nI_ge (by omega) (by omega))]
          cases agr sp sb e with
          | false =>
            rw [if_pos bf0, if_pos bf0]
            exact keep
          | true =>
            rw [if_neg bt1, if_neg bt1]
            exact take
theorem p_simplest0 {kk : Int32} {ke : List Int64} (hk : kk = nI 839) (hS : ∀ i e : Nat, CE[i]? = some e → f_X0_supportAt (nI i) kk ke = some (nI (e / 4 % 32))) (hT : ∀ i e : Nat, CE[i]? = some e → f_X0_tableAt (nI i) kk ke = some (lN (e / 128))) (hX : ∀ i e : Nat, CE[i]? = some e → f_X7_isExtension (nI i) (nI n) (lN sp) (lN sb) kk ke = some (if 2 ^ n ≤ e / 4 % 32 then 0 else nI (agr sp sb e).toNat)) (hn0 : 1 ≤ n) (hn : n ≤ 5) (hp : sp < tabs n) (hs : sb &&& sp = sb) (hF : pre 900 m_fn ((FL n).map lN)) : ∃ z, f_X7_simplestExtension (nI n) (lN sp) (lN sb) kk ke = some z ∧ f_X8_simplestExtension (nI n) (nI (pts n)) (lN sp) (lN sb) (nI (FL n).length) m_fn = some z := by
  have hFl := FL_le hn0 hn
  have ht := tog0 hn0 hn
  have h4 := ht.2.2.2
  exact p_simpkey hk hS hT hX hn0 hn hp hs hF CE 0 0 tFU tFU 6 (-1) (-1) ht (by rw [CE_len]; decide) (by unfold tFU; omega) (Or.inl ⟨rfl, rfl, rfl⟩)
theorem p_simplest (hn0 : 1 ≤ n) (hn : n ≤ 5) (hp : sp < tabs n) (hs : sb &&& sp = sb) (hF : pre 900 m_fn ((FL n).map lN)) : ∃ z, f_X7_simplestExtension (nI n) (lN sp) (lN sb) (nI CE.length) (CE.map lN) = some z ∧ f_X8_simplestExtension (nI n) (nI (pts n)) (lN sp) (lN sb) (nI (FL n).length) m_fn = some z := by
  have h62 := tabs63 hn hp
  have hsb : sb ≤ sp := by rw [← hs]; exact Nat.and_le_right
  exact p_simplest0 CE_n (fun i e h => X_sup CE_pre h (CE_big (List.mem_of_getElem? h))) (fun i e h => X_tab CE_pre h (CE_big (List.mem_of_getElem? h))) (fun i e h => X_isExt hn h62 (by omega) h) hn0 hn hp hs hF
end EX
