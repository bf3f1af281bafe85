/-! arrays, samples, copies -/
theorem arr_loop {a : Nat} (ha : a < 4) : ∀ (m k fu : Nat) (e : List Int32), k + m = 16 → m < fu → e.length = 64 → ∃ e', e'.length = 64 ∧ (∀ K, f_X7_createArray_L33 (nI a) K fu (nI k) e = K e') ∧ ∀ K, f_X8_createArray_L32 (nI a) K fu (nI k) e = K e' := by
  intro m
  induction m with
  | zero =>
    intro k fu e hk hf he
    obtain ⟨fu, rfl⟩ : ∃ q, fu = q + 1 := ⟨fu - 1, by omega⟩
    have : k = 16 := by omega
    subst this
    refine ⟨e, he, fun K => ?_, fun K => ?_⟩
    · rw [f_X7_createArray_L33, if_pos (by decide)]
    · rw [f_X8_createArray_L32, if_pos (by decide)]
  | succ m ih =>
    intro k fu e hk hf he
    obtain ⟨fu, rfl⟩ : ∃ q, fu = q + 1 := ⟨fu - 1, by omega⟩
    obtain ⟨e', h1, h2, h3⟩ := ih (k + 1) fu (e.set (16 * a + k) 0) (by omega) (by omega) (by rw [List.length_set]; exact he)
    have i1 : nI a * 16 + nI k = nI (16 * a + k) := by rw [show (16 : Int32) = nI 16 from rfl, pk_mul, nI_add, Nat.mul_comm]
    have i2 : 16 * nI a + nI k = nI (16 * a + k) := by rw [show (16 : Int32) = nI 16 from rfl, pk_mul, nI_add]
    have t1 : tst e (nI (16 * a + k)) 0 = some (e.set (16 * a + k) 0) := tst_nI (by omega) (by omega)
    have g : ¬ (16 : Int32) ≤ nI k := by rw [show (16 : Int32) = nI 16 from rfl]; exact nI_ge (by omega) (by decide)
    refine ⟨e', h1, fun K => ?_, fun K => ?_⟩
    · rw [f_X7_createArray_L33, if_neg g, i1, t1, Option.bind_some, nI_1]; exact h2 K
    · rw [f_X8_createArray_L32, if_neg g, i2, t1, Option.bind_some, nI_1]; exact h3 K
theorem p_createArray {x_l x_e m_al m_el : List Int32} (h : rA x_l x_e m_al m_el) (x0 x1 : Int32) : ∃ (z : Int32) (x_e' x_l' m_al' m_el' : List Int32), f_X7_createArray x0 x1 x_e x_l = some (z, x_e', x_l') ∧ f_X8_createArray x0 x1 m_al m_el = some (z, m_al', m_el') ∧ rA x_l' x_e' m_al' m_el' := by
  have h0 := h
  obtain ⟨rfl, rfl, h1, h2, h3⟩ := h
  unfold f_X7_createArray f_X8_createArray
  rcases n_array x0 with ⟨a1, a2⟩ | ⟨a, ha, rfl, a1, a2⟩
  · rw [if_pos a1, if_pos a2]; exact ⟨_, _, _, _, _, rfl, rfl, h0⟩
  · rw [if_neg (ne10 a1), if_neg (ne10 a2)]
    by_cases c1 : x1 ≤ 16
    · rw [if_pos c1, if_pos c1]
      by_cases c2 : 0 ≤ x1
      · rw [if_pos c2, if_pos c2]
        obtain ⟨e', q1, q2, q3⟩ := arr_loop ha 16 0 tFU x_e (by omega) (by decide) h2
        have t1 : tst x_l (nI a) x1 = some (x_l.set a x1) := tst_nI (by omega) (by omega)
        rw [t1, Option.bind_some, Option.bind_some]
        have q2 : ∀ K, f_X7_createArray_L33 (nI a) K tFU 0 x_e = K e' := q2
        have q3 : ∀ K, f_X8_createArray_L32 (nI a) K tFU 0 x_e = K e' := q3
        rw [q2, q3]
        refine ⟨_, _, _, _, _, rfl, rfl, rfl, rfl, by rw [List.length_set]; exact h1, q1, ?_⟩
        intro i v hv
        by_cases hij : a = i
        · subst hij
          rw [List.getElem?_set_self (by omega)] at hv
          cases hv
          obtain ⟨k, hk, ek⟩ := nI_of2 (x := x1) (M := 16) (n := 16) (by decide) (by rw [fa_lt]; rw [fa_le] at c2; omega) c1
          exact Or.inr ⟨k, hk, ek⟩
        · rw [List.getElem?_set_ne hij] at hv
          exact h3 i v hv
      · rw [if_neg c2, if_neg c2]; exact ⟨_, _, _, _, _, rfl, rfl, h0⟩
    · rw [if_neg c1, if_neg c1]; exact ⟨_, _, _, _, _, rfl, rfl, h0⟩
theorem rA.ld {x_l x_e m_al m_el : List Int32} (h : rA x_l x_e m_al m_el) {a : Nat} (ha : a < 4) : ∃ r, tld x_l (nI a) = some r ∧ tld m_al (nI a) = some r ∧ (r = -1 ∨ ∃ k, k ≤ 1000 ∧ r = nI k) ∧ ∀ k, r = nI k → k < 2 ^ 31 → k ≤ 16 := by
  obtain ⟨rfl, rfl, h1, h2, h3⟩ := h
  have e : x_l[a]? = some (x_l[a]'(by omega)) := List.getElem?_eq_getElem _
  refine ⟨x_l[a]'(by omega), by rw [tld_nI (by omega), e], by rw [tld_nI (by omega), e], ?_, ?_⟩
  · rcases h3 a _ e with q | ⟨k, hk, q⟩
    · exact Or.inl q
    · exact Or.inr ⟨k, by omega, q⟩
  · intro k hk hk2
    rcases h3 a _ e with q | ⟨k', hk', q⟩
    · rw [q] at hk
      have := congrArg Int32.toInt hk
      rw [nI_toInt hk2] at this
      have e1 : (-1 : Int32).toInt = -1 := by decide
      rw [e1] at this
      omega
    · rw [q, nI_eq (by omega) hk2] at hk
      omega
theorem p_setElement {x_l x_e m_al m_el : List Int32} (h : rA x_l x_e m_al m_el) (x0 x1 x2 : Int32) : ∃ (z : Int32) (x_e' m_el' : List Int32), f_X7_setElement x0 x1 x2 x_e x_l = some (z, x_e') ∧ f_X8_setElement x0 x1 x2 m_al m_el = some (z, m_el') ∧ rA x_l x_e' m_al m_el' := by
  have h0 := h
  unfold f_X7_setElement f_X8_setElement
  rcases n_array x0 with ⟨a1, a2⟩ | ⟨a, ha, rfl, a1, a2⟩
  · rw [if_pos a1, if_pos a2]; exact ⟨_, _, _, rfl, rfl, h0⟩
  · rw [if_neg (ne10 a1), if_neg (ne10 a2)]
    obtain ⟨r, e1, e2, e3, e4⟩ := h.ld ha
    simp only [e1, e2, Option.bind_some]
    by_cases c1 : r = -1
    · rw [if_pos c1, if_pos c1]; exact ⟨_, _, _, rfl, rfl, h0⟩
    · rw [if_neg c1, if_neg c1]
      rcases n_ixG x1 e3 with ⟨b1, b2⟩ | ⟨j, k, hk, rfl, hj, rfl, b1, b2⟩
      · rw [if_pos b1, if_pos b2]; exact ⟨_, _, _, rfl, rfl, h0⟩
      · have hk16 := e4 k rfl (by omega)
        rw [if_neg (ne10 b1), if_neg (ne10 b2)]
        have i1 : nI a * 16 + nI j = nI (16 * a + j) := by rw [show (16 : Int32) = nI 16 from rfl, pk_mul, nI_add, Nat.mul_comm]
        have i2 : 16 * nI a + nI j = nI (16 * a + j) := by rw [show (16 : Int32) = nI 16 from rfl, pk_mul, nI_add]
        obtain ⟨rfl, rfl, h1, h2, h3⟩ := h
        have t1 : tst x_e (nI (16 * a + j)) x2 = some (x_e.set (16 * a + j) x2) := tst_nI (by omega) (by omega)
        rw [i1, i2, t1]
        exact ⟨_, _, _, rfl, rfl, rfl, rfl, h1, by rw [List.length_set]; exact h2, h3⟩
theorem p_element {x_l x_e m_al m_el : List Int32} (h : rA x_l x_e m_al m_el) (x0 x1 : Int32) : ∃ z, f_X7_element x0 x1 x_e x_l = some z ∧ f_X8_element x0 x1 m_al m_el = some z := by
  unfold f_X7_element f_X8_element
  rcases n_array x0 with ⟨a1, a2⟩ | ⟨a, ha, rfl, a1, a2⟩
  · rw [if_pos a1, if_pos a2]; exact ⟨_, rfl, rfl⟩
  · rw [if_neg (ne10 a1), if_neg (ne10 a2)]
    obtain ⟨r, e1, e2, e3, e4⟩ := h.ld ha
    rw [e1, e2, Option.bind_some, Option.bind_some]
    rcases n_ixG x1 e3 with ⟨b1, b2⟩ | ⟨j, k, hk, rfl, hj, rfl, b1, b2⟩
    · rw [if_pos b1, if_pos b2]; exact ⟨_, rfl, rfl⟩
    · have hk16 := e4 k rfl (by omega)
      rw [if_neg (ne10 b1), if_neg (ne10 b2)]
      have i1 : nI a * 16 + nI j = nI (16 * a + j) := by rw [show (16 : Int32) = nI 16 from rfl, pk_mul, nI_add, Nat.mul_comm]
      have i2 : 16 * nI a + nI j = nI (16 * a + j) := by rw [show (16 : Int32) = nI 16 from rfl, pk_mul, nI_add]
      obtain ⟨rfl, rfl, h1, h2, h3⟩ := h
      rw [i1, i2, tld_nI (by omega), List.getElem?_eq_getElem (by omega)]
      exact ⟨_, rfl, rfl⟩
/-! samples -/
theorem n_andnL (a b : Nat) : lN a &&& (lN b ^^^ (-1)) = lN (andn a b) := by
  apply Int64.toBitVec_inj.1
  show BitVec.ofNat 64 a &&& (BitVec.ofNat 64 b ^^^ (-1 : Int64).toBitVec) = BitVec.ofNat 64 (andn a b)
  apply BitVec.eq_of_getLsbD_eq
  intro i hi
  have e : (-1 : Int64).toBitVec = BitVec.allOnes 64 := by decide
  rw [e, BitVec.getLsbD_and, BitVec.getLsbD_xor, BitVec.getLsbD_allOnes, BitVec.getLsbD_ofNat, BitVec.getLsbD_ofNat, BitVec.getLsbD_ofNat, decide_eq_true hi, andn_bit, Bool.true_and, Bool.true_and, Bool.true_and, Bool.xor_true]
theorem p_addSample {n sp sb : Nat} {s_sp s_sb m_sa m_sb : Int64} {s_n m_n m_pt : Int32} (hN : rN n s_n m_n m_pt) (h : rP n sp sb s_sp s_sb m_sa m_sb) (x0 x1 : Int32) : ∃ (z : Int32) (s_sp' s_sb' m_sa' m_sb' : Int64) (sp' sb' : Nat), f_X7_addSample x0 x1 s_n s_sp s_sb = (z, s_sp', s_sb') ∧ f_X8_addSample x0 x1 m_pt m_sa m_sb = some (z, m_sa', m_sb') ∧ rP n sp' sb' s_sp' s_sb' m_sa' m_sb' := by
  have h0 := h
  obtain ⟨hn0, hn, rfl, rfl, rfl⟩ := hN
  obtain ⟨h1, h2, rfl, rfl, rfl, rfl⟩ := h
  have hT := tabs_le hn
  unfold f_X7_addSample f_X8_addSample
  rcases n_point x0 hn with ⟨p1, p2⟩ | ⟨q, hq, rfl, p1, p2⟩
  · rw [if_pos p1, if_pos p2]; exact ⟨_, _, _, _, _, _, _, rfl, rfl, h0⟩
  · rw [if_neg (ne10 p1), if_neg (ne10 p2)]
    rcases n_bit01 x1 with ⟨b1, b2⟩ | ⟨v, hv, rfl, b1, b2⟩
    · rw [if_pos b1, if_pos b2]; exact ⟨_, _, _, _, _, _, _, rfl, rfl, h0⟩
    · rw [if_neg (ne10 b1), if_neg (ne10 b2)]
      have hq2 : q < 64 := by have := n_p5 hn; unfold pts at hq; omega
      have hpw : 2 ^ q < tabs n := Nat.pow_lt_pow_right (by decide) hq
      have hsp : sp ||| 2 ^ q < tabs n := or_lt_tabs h1 hpw
      rw [n_sh1L hq2, fb_orL, n_andnL, nI_l (by omega), n_shl64 v hq2, fb_orL, X_pop hn hsp, M_pop hn hsp]
      refine ⟨_, _, _, _, _, sp ||| 2 ^ q, andn sb (2 ^ q) ||| v * 2 ^ q, rfl, rfl, hsp, ?_, rfl, rfl, rfl, rfl⟩
      apply Nat.eq_of_testBit_eq
      intro i
      have hs : (sb &&& sp).testBit i = sb.testBit i := by rw [h2]
      rw [Nat.testBit_and] at hs
      rw [Nat.testBit_and, Nat.testBit_or, Nat.testBit_or, andn_bit]
      match v, hv with
      | 0, _ =>
        rw [Nat.zero_mul, Nat.zero_testBit]
        cases h9 : sb.testBit i <;> cases h8 : sp.testBit i <;> cases h7 : (2 ^ q).testBit i <;> simp_all
      | 1, _ =>
        rw [Nat.one_mul]
        cases h9 : sb.testBit i <;> cases h8 : sp.testBit i <;> cases h7 : (2 ^ q).testBit i <;> simp_all
theorem p_removeSample {n sp sb : Nat} {s_sp s_sb m_sa m_sb : Int64} {s_n m_n m_pt : Int32} (hN : rN n s_n m_n m_pt) (h : rP n sp sb s_sp s_sb m_sa m_sb) (x0 : Int32) : ∃ (z : Int32) (s_sp' s_sb' m_sa' m_sb' : Int64) (sp' sb' : Nat), f_X7_removeSample x0 s_n s_sp s_sb = (z, s_sp', s_sb') ∧ f_X8_removeSample x0 m_pt m_sa m_sb = some (z, m_sa', m_sb') ∧ rP n sp' sb' s_sp' s_sb' m_sa' m_sb' := by
  have h0 := h
  obtain ⟨hn0, hn, rfl, rfl, rfl⟩ := hN
  obtain ⟨h1, h2, rfl, rfl, rfl, rfl⟩ := h
  have hT := tabs_le hn
  unfold f_X7_removeSample f_X8_removeSample
  rcases n_point x0 hn with ⟨p1, p2⟩ | ⟨q, hq, rfl, p1, p2⟩
  · rw [if_pos p1, if_pos p2]; exact ⟨_, _, _, _, _, _, _, rfl, rfl, h0⟩
  · have hq2 : q < 64 := by have := n_p5 hn; unfold pts at hq; omega
    rw [if_neg (ne10 p1), if_neg (ne10 p2), n_bitAt (by omega) hq2, n_at (by omega) hq2]
    by_cases c : nI (sp.testBit q).toNat = 0
    · rw [if_pos c, if_pos c]; exact ⟨_, _, _, _, _, _, _, rfl, rfl, h0⟩
    · have hsp : andn sp (2 ^ q) < tabs n := Nat.lt_of_le_of_lt (andn_le _ _) h1
      rw [if_neg c, if_neg c, n_sh1L hq2, n_andnL, n_andnL, X_pop hn hsp, M_pop hn hsp]
      refine ⟨_, _, _, _, _, andn sp (2 ^ q), andn sb (2 ^ q), rfl, rfl, hsp, ?_, rfl, rfl, rfl, rfl⟩
      apply Nat.eq_of_testBit_eq
      intro i
      have hs : (sb &&& sp).testBit i = sb.testBit i := by rw [h2]
      rw [Nat.testBit_and] at hs
      rw [Nat.testBit_and, andn_bit, andn_bit]
      cases h9 : sb.testBit i <;> cases h8 : sp.testBit i <;> cases h7 : (2 ^ q).testBit i <;> simp_all
/-! copies -/
theorem tcpy_all {α : Type} (z : α) {xs ys : List α} {N : Nat} (hN : N < 2 ^ 31) (hx : xs.length = N) (hy : ys.length = N) : tcpy z xs ys 0 0 (nI N) = some xs := by
  unfold tcpy
  have e1 : (0 : Int32).toNatClampNeg = 0 := by decide
  rw [if_neg (by decide), if_neg (by decide), if_neg (nI_pos hN), e1, nI_clamp hN, if_neg (by omega), if_neg (by omega)]
  congr 1
  apply List.ext_getElem?
  intro i
  rw [List.getElem?_map]
  by_cases hi : i < N
  · rw [List.getElem?_range (by omega), List.getElem?_eq_getElem (by omega)]
    show some (if _ ∧ _ then _ else _) = _
    rw [if_pos (by omega), List.getD_eq_getElem?_getD, show 0 + (i - 0) = i from by omega, List.getElem?_eq_getElem (by omega)]; rfl
  · rw [List.getElem?_eq_none (by rw [List.length_range]; omega), List.getElem?_eq_none (by omega)]; rfl
def cpl {α : Type} (k : Nat) (xs ys : List α) : List α := xs.take k ++ ys.drop k
theorem cpl_step {α : Type} {k N : Nat} {xs ys : List α} {v : α} (hx : xs.length = N) (hy : ys.length = N) (hk : k < N) (hv : xs[k]? = some v) : (cpl k xs ys).set k v = cpl (k + 1) xs ys := by
  have l1 : ∀ j, j ≤ N → (xs.take j).length = j := fun j hj => by rw [List.length_take]; omega
  apply List.ext_getElem?
  intro i
  unfold cpl
  by_cases h : k = i
  · subst h
    rw [List.getElem?_set_self (by rw [List.length_append, l1 k (by omega), List.length_drop]; omega), List.getElem?_append_left (by rw [l1 (k + 1) (by omega)]; omega), List.getElem?_take, if_pos (by omega), hv]
  · rw [List.getElem?_set_ne h]
    by_cases h2 : i < k
    · rw [List.getElem?_append_left (by rw [l1 k (by omega)]; omega), List.getElem?_append_left (by rw [l1 (k + 1) (by omega)]; omega), List.getElem?_take, List.getElem?_take, if_pos h2, if_pos (by omega)]
    · rw [List.getElem?_append_right (by rw [l1 k (by omega)]; omega), List.getElem?_append_right (by rw [l1 (k + 1) (by omega)]; omega), l1 k (by omega), l1 (k + 1) (by omega), List.getElem?_drop, List.getElem?_drop]
      congr 1; omega
theorem cpl_len {α : Type} {k N : Nat} {xs ys : List α} (hx : xs.length = N) (hy : ys.length = N) (hk : k ≤ N) : (cpl k xs ys).length = N := by
  unfold cpl
  rw [List.length_append, List.length_take, List.length_drop]; omega
theorem cpl_0 {α : Type} (xs ys : List α) : cpl 0 xs ys = ys := rfl
theorem cpl_N {α : Type} {N : Nat} {xs ys : List α} (hx : xs.length = N) (hy : ys.length = N) : cpl N xs ys = xs := by
  unfold cpl
  rw [List.take_of_length_le (by omega), List.drop_of_length_le (by omega), List.append_nil]
theorem save_L34 {xs ys : List Int64} {us ws : List Int32} {K : List Int64 → List Int32 → Option (Int32 × Int32 × Int32 × Int64 × Int64 × List Int64 × List Int32 × List Int32)} (hx : xs.length = 8) (hy : ys.length = 8) (hu : us.length = 8) (hw : ws.length = 8) (hb : ∀ v ∈ us, vp_nar .boolean v = v) : ∀ (m k fu : Nat), k + m = 8 → m < fu → f_X8_save_L34 xs us K fu (nI k) (cpl k xs ys) (cpl k us ws) = K xs us := by
  intro m
  induction m with
  | zero =>
    intro k fu hk hf
    obtain ⟨fu, rfl⟩ : ∃ q, fu = q + 1 := ⟨fu - 1, by omega⟩
    have : k = 8 := by omega
    subst this
    rw [f_X8_save_L34, if_pos (by decide), cpl_N hx hy, cpl_N hu hw]
  | succ m ih =>
    intro k fu hk hf
    obtain ⟨fu, rfl⟩ : ∃ q, fu = q + 1 := ⟨fu - 1, by omega⟩
    obtain ⟨v1, a1⟩ : ∃ v, xs[k]? = some v := ⟨xs[k]'(by omega), List.getElem?_eq_getElem _⟩
    obtain ⟨v2, a2⟩ : ∃ v, us[k]? = some v := ⟨us[k]'(by omega), List.getElem?_eq_getElem _⟩
    rw [f_X8_save_L34, if_neg (by rw [show (8 : Int32) = nI 8 from rfl]; exact nI_ge (by omega) (by decide)), tld_nI (by omega), a1, Option.bind_some, tst_nI (by rw [cpl_len hx hy (by omega)]; omega) (by rw [cpl_len hx hy (by omega)]; decide), cpl_step hx hy (by omega) a1, Option.bind_some, tld_nI (by omega), a2, Option.bind_some, hb v2 (List.mem_of_getElem? a2), tst_nI (by rw [cpl_len hu hw (by omega)]; omega) (by rw [cpl_len hu hw (by omega)]; decide), cpl_step hu hw (by omega) a2, Option.bind_some, nI_1]
    exact ih (k + 1) fu (by omega) (by omega)
theorem save_L72 {us ws : List Int32} {K : List Int32 → Option (Int32 × Int32 × Int32 × Int64 × Int64 × List Int64 × List Int32 × List Int32)} (hu : us.length = 32) (hw : ws.length = 32) : ∀ (m k fu : Nat), k + m = 32 → m < fu → f_X8_save_L72 us K fu (nI k) (cpl k us ws) = K us := by
  intro m
  induction m with
  | zero =>
    intro k fu hk hf
    obtain ⟨fu, rfl⟩ : ∃ q, fu = q + 1 := ⟨fu - 1, by omega⟩
    have : k = 32 := by omega
    subst this
    rw [f_X8_save_L72, if_pos (by decide), cpl_N hu hw]
  | succ m ih =>
    intro k fu hk hf
    obtain ⟨fu, rfl⟩ : ∃ q, fu = q + 1 := ⟨fu - 1, by omega⟩
    obtain ⟨v2, a2⟩ : ∃ v, us[k]? = some v := ⟨us[k]'(by omega), List.getElem?_eq_getElem _⟩
    rw [f_X8_save_L72, if_neg (by rw [show (32 : Int32) = nI 32 from rfl]; exact nI_ge (by omega) (by decide)), tld_nI (by omega), a2, Option.bind_some, tst_nI (by rw [cpl_len hu hw (by omega)]; omega) (by rw [cpl_len hu hw (by omega)]; decide), cpl_step hu hw (by omega) a2, Option.bind_some, nI_1]
    exact ih (k + 1) fu (by omega) (by omega)
theorem p_save {n sp sb c : Nat} {sl : List (Option Nat)} {st : List Int32} {s_n m_n m_pt : Int32} {s_f m_t : List Int64} {m_f : List Int32} {s_sp s_sb m_sa m_sb : Int64} {s_sc m_sc : Int32} {s_st m_st : List Int32} {x_hs v_n : Int32} {v_sp v_sb : Int64} {v_sc : Int32} {v_f : List Int64} {v_st : List Int32} {m_vn m_vc : Int32} {m_va m_vb : Int64} {m_vt : List Int64} {m_vf m_vs : List Int32}
    (hN : rN n s_n m_n m_pt) (hS : rS n sl s_f m_t m_f) (hP : rP n sp sb s_sp s_sb m_sa m_sb) (hT : rT c st s_sc s_st m_sc m_st) (hV : rV x_hs v_n v_sp v_sb v_sc v_f v_st m_vn m_vc m_va m_vb m_vt m_vf m_vs) :
    ∃ (z x_hs' v_n' : Int32) (v_sp' v_sb' : Int64) (v_sc' : Int32) (v_f' : List Int64) (v_st' : List Int32) (m_vn' m_vc' : Int32) (m_va' m_vb' : Int64) (m_vt' : List Int64) (m_vf' m_vs' : List Int32), f_X7_save x_hs s_n s_sp s_sb s_sc s_f s_st v_n v_sp v_sb v_sc v_f v_st = some (z, x_hs', v_n', v_sp', v_sb', v_sc', v_f', v_st') ∧ f_X8_save m_n m_sa m_sb m_sc m_vn m_vc m_va m_vb m_t m_f m_st m_vt m_vf m_vs = some (z, m_vn', m_vc', m_va', m_vb', m_vt', m_vf', m_vs') ∧ rV x_hs' v_n' v_sp' v_sb' v_sc' v_f' v_st' m_vn' m_vc' m_va' m_vb' m_vt' m_vf' m_vs' := by
  obtain ⟨⟨l1, l2, l3, l4, l5⟩, -⟩ := hV
  have hN0 := hN
  obtain ⟨hn0, hn, rfl, rfl, rfl⟩ := hN
  have k1 : s_f.length = 8 := by rw [hS.2.2.1, List.length_map]; exact hS.1
  have k2 : m_f.length = 8 := by rw [hS.2.2.2.1, List.length_map]; exact hS.1
  have k3 := hT.2.2.2.2.2.1.1
  have k4 := hT.2.2.2.2.2.2.1
  have k5 := hS.2.2.2.2.1
  refine ⟨nI (usedN sl 8), 1, nI n, s_sp, s_sb, s_sc, s_f, s_st, nI n, m_sc, m_sa, m_sb, m_t, m_f, m_st, ?_, ?_, ⟨k1, k3, k5, k2, k4⟩, Or.inr ⟨n, sl, sp, sb, c, st, rfl, hn0, hn, rfl, rfl, hS, hP, hT⟩⟩
  · unfold f_X7_save f_X6_copyFrom_4_1
    rw [show (8 : Int32) = nI 8 from rfl, show (32 : Int32) = nI 32 from rfl, tcpy_all _ (by decide) k1 l1, tcpy_all _ (by decide) k3 l2, X_used hn hS]
    rfl
  · unfold f_X8_save
    have a := save_L34 (ys := m_vt) (ws := m_vf) (K := fun k10 k11 => f_X8_save_L72 m_st (fun k17 => (f_X8_usedSlots m_f).bind fun r18 => some (r18, nI n, m_sc, m_sa, m_sb, k10, k11, k17)) tFU 0 m_vs) k5 l3 k2 l4 (fun v hv => by
      rw [hS.2.2.2.1] at hv
      obtain ⟨q, -, rfl⟩ := List.mem_map.mp hv
      exact nar_fO q) 8 0 tFU (by omega) (by decide)
    have a2 : f_X8_save_L34 m_t m_f _ tFU 0 m_vt m_vf = _ := a
    rw [a2]
    have b := save_L72 (us := m_st) (ws := m_vs) (K := fun k17 => (f_X8_usedSlots m_f).bind fun r18 => some (r18, nI n, m_sc, m_sa, m_sb, m_t, m_f, k17)) k4 l5 32 0 tFU (by omega) (by decide)
    have b2 : f_X8_save_L72 m_st _ tFU 0 m_vs = _ := b
    rw [b2, M_used hS]
    rfl
