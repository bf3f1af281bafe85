/-! parse, and the calls that need little -/
section EZ
variable {n : Nat} {hi : List (Nat × Option Nat)} {h_k : Int32} {h_s : List Int32} {h_c : List Int64} {m_rc : Int32} {m_rs : List Int32} {m_rt : List Int64} {m_rf : List Int32} {sl : List (Option Nat)} {s_f m_t : List Int64} {m_f : List Int32} {s_n m_n m_pt : Int32}
theorem p_parse {inp : List Nat} {i_l : Int32} {i_b : List Int32} {m_is : Int32} {m_ib : List Int32} (hN : rN n s_n m_n m_pt) (hS : rS n sl s_f m_t m_f) (hH : rH n hi h_k h_s h_c m_rc m_rs m_rt m_rf) (hI : rI inp i_l i_b m_is m_ib) (i_n : Int32) (i_f : Int64) (i_p i_o m_pl m_fa m_oc x0 : Int32) :
    ∃ (z : Int32) (s_f' : List Int64) (h_k' : Int32) (h_s' : List Int32) (h_c' : List Int64) (i_l' i_n' : Int32) (i_f' : Int64) (i_p' i_o' : Int32) (m_rc' m_is' m_pl' m_fa' m_oc' : Int32) (m_t' : List Int64) (m_f' m_rs' : List Int32) (m_rt' : List Int64) (m_rf' : List Int32) (sl' : List (Option Nat)) (hi' : List (Nat × Option Nat)) (inp' : List Nat), f_X7_parse x0 s_n s_f h_k h_s h_c i_l i_n i_f i_p i_o i_b = some (z, s_f', h_k', h_s', h_c', i_l', i_n', i_f', i_p', i_o') ∧ f_X8_parse x0 m_n m_pt m_rc m_is m_pl m_fa m_oc m_t m_f m_rs m_rt m_rf m_ib = some (z, m_rc', m_is', m_pl', m_fa', m_oc', m_t', m_f', m_rs', m_rt', m_rf') ∧ rS n sl' s_f' m_t' m_f' ∧ rH n hi' h_k' h_s' h_c' m_rc' m_rs' m_rt' m_rf' ∧ rI inp' i_l' i_b m_is' m_ib := by
  obtain ⟨hn0, hn, rfl, rfl, rfl⟩ := hN
  have hI0 := hI
  obtain ⟨h1, rfl, rfl, h2, h3⟩ := hI
  have ht : txt inp i_b m_ib := ⟨h1, h2, h3⟩
  have hl := ht.le
  have hE : rI [] 0 i_b 0 m_ib := ⟨fun v hv => (nomatch hv), rfl, rfl, pre.nil h2.1, pre.nil h3.1⟩
  unfold f_X7_parse f_X8_parse
  rcases n_slot x0 with ⟨a1, a2⟩ | ⟨j, hj, rfl, a1, a2⟩
  · rw [if_pos a1, if_pos a2]
    exact ⟨_, _, _, _, _, _, _, _, _, _, _, _, _, _, _, _, _, _, _, _, _, _, _, rfl, rfl, hS, hH, hI0⟩
  · obtain ⟨x, y, r1, r2, r3⟩ := sim_sum hn ht (sim_prod hn ht (sim_factor hn0 hn ht 10 0 (by omega) (by omega))) 0 0 (by omega)
    have r1 : f_X5_readSum (f_X5_readFactor tDP) 0 (nI inp.length) (nI n) (lN (tabs n - 1)) 0 0 i_b = some x := r1
    have r2 : f_X8_formula (f_X8_factor tDP) 0 (nI n) (nI (pts n)) (nI inp.length) 0 (-1) 0 m_ib = some y := r2
    unfold f_X5_readFormula
    rw [if_neg (ne10 a1), if_neg (ne10 a2), n_fullT hn, r1, r2, Option.bind_some, Option.bind_some]
    rcases r3 with ⟨t', p', o', q1, q2, q3, rfl, rfl⟩ | ⟨p', o', o'', f, q1, q2, rfl, rfl⟩
    · dsimp only
      by_cases e : inp.length ≤ p'
      · obtain ⟨z, w1, w2, w3, w4, w5, w6, w7, w8, w9, w10, w11, w12, e1, e2, e3, e4, -⟩ := p_store hn hS hH hj q1
        rw [if_pos (nI_le e (by omega)), if_pos (nI_le e (by omega)), if_pos rfl, Option.bind_some, if_neg (eO_ne t' (by have := tabs63 hn q1; omega)), e1, e2]
        exact ⟨_, _, _, _, _, _, _, _, _, _, _, _, _, _, _, _, _, _, _, _, _, _, _, rfl, rfl, e3, e4, hE⟩
      · have fl : f_X8_fail (nI p') (-1) = nI p' := by unfold f_X8_fail; rw [if_pos rfl]
        rw [if_neg (nI_ge (by omega) (by omega)), if_neg (nI_ge (by omega) (by omega)), Option.bind_some, if_pos m1cmp, fl, if_neg (nI_ne_m1 (by omega : p' < 2 ^ 31))]
        exact ⟨_, _, _, _, _, _, _, _, _, _, _, _, _, _, _, _, _, _, _, _, _, _, _, rfl, rfl, hS, hH, hE⟩
    · dsimp only
      have fl : f_X8_fail (nI p') (nI p') = nI p' := by unfold f_X8_fail; rw [if_neg (nI_ne_m1 (by omega : p' < 2 ^ 31))]
      rw [fl, if_neg (nI_ne_m1 (by omega : p' < 2 ^ 31))]
      by_cases e : inp.length ≤ p'
      · rw [if_pos (nI_le e (by omega)), if_pos (nI_le e (by omega)), Option.bind_some, if_pos m1cmp]
        exact ⟨_, _, _, _, _, _, _, _, _, _, _, _, _, _, _, _, _, _, _, _, _, _, _, rfl, rfl, hS, hH, hE⟩
      · rw [if_neg (nI_ge (by omega) (by omega)), if_neg (nI_ge (by omega) (by omega)), Option.bind_some, if_pos m1cmp]
        exact ⟨_, _, _, _, _, _, _, _, _, _, _, _, _, _, _, _, _, _, _, _, _, _, _, rfl, rfl, hS, hH, hE⟩
theorem p_essential (hN : rN n s_n m_n m_pt) (hS : rS n sl s_f m_t m_f) (x0 : Int32) : ∃ z, f_X7_essential x0 s_n s_f = some z ∧ f_X8_essential x0 m_n m_pt m_t m_f = some z := by
  obtain ⟨hn0, hn, rfl, rfl, rfl⟩ := hN
  unfold f_X7_essential f_X8_essential
  rcases X_slot3 hn hS x0 with ⟨a1, a2, a3, a4⟩ | ⟨j, hj, rfl, ho, a1, a2, a3, a4, a5, a6, a7⟩ | ⟨j, t, hj, rfl, ho, a1, a2, a3, a4, a5, a6, a7, a8, a9⟩
  · rw [a3, a4, Option.bind_some, Option.bind_some, if_neg z_m2, if_neg z_m2]
    exact ⟨_, rfl, rfl⟩
  · rw [a3, a4, Option.bind_some, Option.bind_some, if_neg z_m3, if_neg z_m3]
    exact ⟨_, rfl, rfl⟩
  · rw [a3, a4, Option.bind_some, Option.bind_some, if_pos rfl, if_pos rfl, a5, a9, Option.bind_some, Option.bind_some, X_ess hn (tabs63 hn a8), M_ess hn (tabs63 hn a8)]
    exact ⟨_, rfl, rfl⟩
theorem p_isMonotone (hN : rN n s_n m_n m_pt) (hS : rS n sl s_f m_t m_f) (x0 : Int32) : ∃ z, f_X7_isMonotone x0 s_n s_f = some z ∧ f_X8_isMonotone x0 m_n m_pt m_t m_f = some z := by
  obtain ⟨hn0, hn, rfl, rfl, rfl⟩ := hN
  unfold f_X7_isMonotone f_X8_isMonotone
  rcases X_slot3 hn hS x0 with ⟨a1, a2, a3, a4⟩ | ⟨j, hj, rfl, ho, a1, a2, a3, a4, a5, a6, a7⟩ | ⟨j, t, hj, rfl, ho, a1, a2, a3, a4, a5, a6, a7, a8, a9⟩
  · rw [a3, a4, Option.bind_some, Option.bind_some, if_neg z_m2, if_neg z_m2]
    exact ⟨_, rfl, rfl⟩
  · rw [a3, a4, Option.bind_some, Option.bind_some, if_neg z_m3, if_neg z_m3]
    exact ⟨_, rfl, rfl⟩
  · rw [a3, a4, Option.bind_some, Option.bind_some, if_pos rfl, if_pos rfl, a5, a9, Option.bind_some, Option.bind_some, X_vio hn (tabs63 hn a8), M_vio hn (tabs63 hn a8), Option.bind_some]
    split
    · exact ⟨_, rfl, rfl⟩
    · exact ⟨_, rfl, rfl⟩
theorem p_violatingPoint (hN : rN n s_n m_n m_pt) (hS : rS n sl s_f m_t m_f) (x0 : Int32) : ∃ z, f_X7_violatingPoint x0 s_n s_f = some z ∧ f_X8_violatingPoint x0 m_n m_pt m_t m_f = some z := by
  obtain ⟨hn0, hn, rfl, rfl, rfl⟩ := hN
  unfold f_X7_violatingPoint f_X8_violatingPoint
  rcases X_slot3 hn hS x0 with ⟨a1, a2, a3, a4⟩ | ⟨j, hj, rfl, ho, a1, a2, a3, a4, a5, a6, a7⟩ | ⟨j, t, hj, rfl, ho, a1, a2, a3, a4, a5, a6, a7, a8, a9⟩
  · rw [a3, a4, Option.bind_some, Option.bind_some, if_neg z_m2, if_neg z_m2]
    exact ⟨_, rfl, rfl⟩
  · rw [a3, a4, Option.bind_some, Option.bind_some, if_neg z_m3, if_neg z_m3]
    exact ⟨_, rfl, rfl⟩
  · rw [a3, a4, Option.bind_some, Option.bind_some, if_pos rfl, if_pos rfl, a5, a9, Option.bind_some, Option.bind_some, X_vio hn (tabs63 hn a8), M_vio hn (tabs63 hn a8)]
    exact ⟨_, rfl, rfl⟩
theorem p_usedSlots (hN : rN n s_n m_n m_pt) (hS : rS n sl s_f m_t m_f) : ∃ z, f_X7_usedSlots s_f = some z ∧ f_X8_usedSlots m_f = some z := by
  obtain ⟨hn0, hn, rfl, rfl, rfl⟩ := hN
  unfold f_X7_usedSlots
  rw [X_used hn hS, M_used hS]
  exact ⟨_, rfl, rfl⟩
theorem p_clearSteps {c : Nat} {st : List Int32} {s_sc : Int32} {s_st : List Int32} {m_sc : Int32} {m_st : List Int32} (h : rT c st s_sc s_st m_sc m_st) : ∃ (z s_sc' m_sc' : Int32) (c' : Nat) (st' : List Int32), f_X7_clearSteps s_sc = (z, s_sc') ∧ f_X8_clearSteps m_sc = (z, m_sc') ∧ rT c' st' s_sc' s_st m_sc' m_st := by
  obtain ⟨h1, h2, h3, rfl, rfl, h4, h5⟩ := h
  exact ⟨_, 0, 0, 0, [], rfl, rfl, by omega, rfl, fun k hk => absurd hk (by omega), rfl, rfl, pre.nil h4.1, pre.nil h5.1⟩
theorem p_step {c k : Nat} {st : List Int32} {s_sc : Int32} {s_st : List Int32} {m_sc : Int32} {m_st : List Int32} (hN : rN n s_n m_n m_pt) (hS : rS n sl s_f m_t m_f) (hH : rH n hi h_k h_s h_c m_rc m_rs m_rt m_rf) (h : rT c st s_sc s_st m_sc m_st) (hk : k < c) : both n (f_X7_runStep (nI k * 4) s_n s_f s_st h_k h_s h_c) (f_X8_execute (4 * nI k) m_n m_pt m_rc m_t m_f m_rs m_rt m_rf m_st) := by
  obtain ⟨h1, h2, h3, rfl, rfl, h4, h5⟩ := h
  have i1 : nI k * 4 = nI (4 * k) := by rw [show (4 : Int32) = nI 4 from rfl, pk_mul, Nat.mul_comm]
  have i2 : 4 * nI k = nI (4 * k) := by rw [show (4 : Int32) = nI 4 from rfl, pk_mul]
  have j1 : nI (4 * k) + 1 = nI (4 * k + 1) := nI_add (4 * k) 1
  have j2 : nI (4 * k) + 2 = nI (4 * k + 2) := nI_add (4 * k) 2
  have j3 : nI (4 * k) + 3 = nI (4 * k + 3) := nI_add (4 * k) 3
  obtain ⟨j, hj, hop⟩ := h3 k hk
  have lX : ∀ i (hi : i < 4), tld s_st (nI (4 * k + i)) = some (st[4 * k + i]'(by omega)) := fun i hi => by rw [h4.ld (by decide) (by omega), List.getElem?_eq_getElem (by omega)]
  have lM : ∀ i (hi : i < 4), tld m_st (nI (4 * k + i)) = some (st[4 * k + i]'(by omega)) := fun i hi => by rw [h5.ld (by decide) (by omega), List.getElem?_eq_getElem (by omega)]
  have o1 : tld s_st (nI (4 * k)) = some (nI j) := by rw [h4.ld (by decide) (by omega), hop]
  have o2 : tld m_st (nI (4 * k)) = some (nI j) := by rw [h5.ld (by decide) (by omega), hop]
  unfold f_X7_runStep f_X8_execute
  rw [i1, i2, j1, j2, j3, o1, o2, Option.bind_some, lX 1 (by omega), Option.bind_some, lX 2 (by omega), Option.bind_some, lX 3 (by omega), Option.bind_some, Option.bind_some, lM 1 (by omega), Option.bind_some, lM 2 (by omega), Option.bind_some, lM 3 (by omega), Option.bind_some]
  generalize st[4 * k + 1] = a
  generalize st[4 * k + 2] = b
  generalize st[4 * k + 3] = d
  have fin : ∀ {fX : Option (Int32 × List Int64 × Int32 × List Int32 × List Int64)} {fM : Option (Int32 × Int32 × List Int64 × List Int32 × List Int32 × List Int64 × List Int32)}, both n fX fM → both n (fX.bind fun r13 => some (r13.1, r13.2.1, r13.2.2.1, r13.2.2.2.1, r13.2.2.2.2)) (fM.bind fun r17 => some (r17.1, r17.2.1, r17.2.2.1, r17.2.2.2.1, r17.2.2.2.2.1, r17.2.2.2.2.2.1, r17.2.2.2.2.2.2)) := by
    rintro fX fM ⟨z, w1, w2, w3, w4, w5, w6, w7, w8, w9, w10, w11, w12, rfl, rfl, e3, e4⟩
    exact ⟨z, w1, w2, w3, w4, w5, w6, w7, w8, w9, w10, w11, w12, rfl, rfl, e3, e4⟩
  have pc : ∀ x0, both n (f_X7_combine x0 a b d s_f h_k h_s h_c) (f_X8_combine x0 a b d m_pt m_rc m_t m_f m_rs m_rt m_rf) := fun x0 => p_combine hN hS hH x0 a b d
  match j, hj with
  | 0, _ =>
    rw [if_neg (show ¬ (3 : Int32) ≤ nI 0 by decide), if_neg (show ¬ (3 : Int32) ≤ nI 0 by decide)]
    exact fin (pc _)
  | 1, _ =>
    rw [if_neg (show ¬ (3 : Int32) ≤ nI 1 by decide), if_neg (show ¬ (3 : Int32) ≤ nI 1 by decide)]
    exact fin (pc _)
  | 2, _ =>
    rw [if_neg (show ¬ (3 : Int32) ≤ nI 2 by decide), if_neg (show ¬ (3 : Int32) ≤ nI 2 by decide)]
    exact fin (pc _)
  | 3, _ =>
    rw [if_pos (show (3 : Int32) ≤ nI 3 by decide), if_pos (show (3 : Int32) ≤ nI 3 by decide), if_pos (show nI 3 = 3 from rfl), if_pos (show nI 3 = 3 from rfl)]
    exact fin (p_dual hN hS hH a d)
  | 4, _ =>
    rw [if_pos (show (3 : Int32) ≤ nI 4 by decide), if_pos (show (3 : Int32) ≤ nI 4 by decide), if_neg (show ¬ nI 4 = 3 by decide), if_neg (show ¬ nI 4 = 3 by decide), show (nI 4 - 3) - 1 = 0 by decide, show nI 4 - 4 = 0 by decide]
    exact fin (p_cofactor hN hS hH a b 0 d)
  | 5, _ =>
    rw [if_pos (show (3 : Int32) ≤ nI 5 by decide), if_pos (show (3 : Int32) ≤ nI 5 by decide), if_neg (show ¬ nI 5 = 3 by decide), if_neg (show ¬ nI 5 = 3 by decide), show (nI 5 - 3) - 1 = 1 by decide, show nI 5 - 4 = 1 by decide]
    exact fin (p_cofactor hN hS hH a b 1 d)
theorem p_runSteps {c : Nat} {st : List Int32} {s_sc : Int32} {s_st : List Int32} {m_sc : Int32} {m_st : List Int32} (hN : rN n s_n m_n m_pt) (hS : rS n sl s_f m_t m_f) (hH : rH n hi h_k h_s h_c m_rc m_rs m_rt m_rf) (h : rT c st s_sc s_st m_sc m_st) : both n (f_X7_runSteps s_n s_sc s_f s_st h_k h_s h_c) (f_X8_runSteps m_n m_pt m_rc m_sc m_t m_f m_rs m_rt m_rf m_st) := by
  have hc := h.1
  have e1 := h.2.2.2.1
  have e2 := h.2.2.2.2.1
  have key : ∀ (m k fu d : Nat) (hi : List (Nat × Option Nat)) (h_k : Int32) (h_s : List Int32) (h_c : List Int64) (m_rc : Int32) (m_rs : List Int32) (m_rt : List Int64) (m_rf : List Int32) (sl : List (Option Nat)) (s_f m_t : List Int64) (m_f : List Int32), k + m = c → m < fu → rS n sl s_f m_t m_f → rH n hi h_k h_s h_c m_rc m_rs m_rt m_rf → both n (f_X7_runSteps_L4 s_n s_sc s_st (fun y5 k6 k7 k8 k9 => some (y5, k6, k7, k8, k9)) fu (nI d) (nI k) s_f h_k h_s h_c) (f_X8_runSteps_L4 m_n m_pt m_sc m_st (fun y5 k6 k7 k8 k9 k10 k11 => some (y5, k6, k7, k8, k9, k10, k11)) fu (nI d) (nI k) m_rc m_t m_f m_rs m_rt m_rf) := by
    intro m
    induction m with
    | zero =>
      intro k fu d hi h_k h_s h_c m_rc m_rs m_rt m_rf sl s_f m_t m_f hk hf hS hH
      obtain ⟨fu, rfl⟩ : ∃ q, fu = q + 1 := ⟨fu - 1, by omega⟩
      have : k = c := by omega
      subst this
      rw [f_X7_runSteps_L4, f_X8_runSteps_L4, e1, e2, if_pos (nI_le (Nat.le_refl _) (by omega)), if_pos (nI_le (Nat.le_refl _) (by omega))]
      exact both_same hS hH _
    | succ m ih =>
      intro k fu d hi h_k h_s h_c m_rc m_rs m_rt m_rf sl s_f m_t m_f hk hf hS hH
      obtain ⟨fu, rfl⟩ : ∃ q, fu = q + 1 := ⟨fu - 1, by omega⟩
      obtain ⟨z, w1, w2, w3, w4, w5, w6, w7, w8, w9, w10, w11, w12, b1, b2, b3, b4⟩ := p_step hN hS hH h (k := k) (by omega)
      rw [f_X7_runSteps_L4, f_X8_runSteps_L4, if_neg (by rw [e1]; exact nI_ge (by omega) (by omega)), if_neg (by rw [e2]; exact nI_ge (by omega) (by omega)), b1, b2, Option.bind_some, Option.bind_some, nI_1, Int32.add_zero, nI_1]
      by_cases hz : z < 0
      · rw [if_pos hz, if_pos hz]
        exact ih (k + 1) fu d _ _ _ _ _ _ _ _ _ _ _ _ (by omega) (by omega) b3 b4
      · rw [if_neg hz, if_neg hz]
        exact ih (k + 1) fu (d + 1) _ _ _ _ _ _ _ _ _ _ _ _ (by omega) (by omega) b3 b4
  exact key c 0 tFU 0 hi h_k h_s h_c m_rc m_rs m_rt m_rf sl s_f m_t m_f (by omega) (by unfold tFU; omega) hS hH
end EZ
