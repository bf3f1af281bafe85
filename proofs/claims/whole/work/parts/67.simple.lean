/-! the simple calls -/
theorem p_setTable {n : Nat} {hi : List (Nat × Option Nat)} {h_k : Int32} {h_s : List Int32} {h_c : List Int64} {m_rc : Int32} {m_rs : List Int32} {m_rt : List Int64} {m_rf : List Int32} {sl : List (Option Nat)} {s_f m_t : List Int64} {m_f : List Int32} {s_n m_n m_pt : Int32} (hN : rN n s_n m_n m_pt) (hS : rS n sl s_f m_t m_f) (hH : rH n hi h_k h_s h_c m_rc m_rs m_rt m_rf) (x0 : Int32) (x1 : Int64) :
    ∃ (z : Int32) (s_f' : List Int64) (h_k' : Int32) (h_s' : List Int32) (h_c' : List Int64) (m_rc' : Int32) (m_t' : List Int64) (m_f' m_rs' : List Int32) (m_rt' : List Int64) (m_rf' : List Int32) (sl' : List (Option Nat)) (hi' : List (Nat × Option Nat)), f_X7_setTable x0 x1 s_n s_f h_k h_s h_c = some (z, s_f', h_k', h_s', h_c') ∧ f_X8_setTable x0 x1 m_pt m_rc m_t m_f m_rs m_rt m_rf = some (z, m_rc', m_t', m_f', m_rs', m_rt', m_rf') ∧ rS n sl' s_f' m_t' m_f' ∧ rH n hi' h_k' h_s' h_c' m_rc' m_rs' m_rt' m_rf' := by
  obtain ⟨hn0, hn, rfl, rfl, rfl⟩ := hN
  have hT := tabs_le hn
  have hp := tabs_pos n
  unfold f_X7_setTable f_X8_setTable
  rcases n_slot x0 with ⟨a1, a2⟩ | ⟨j, hj, rfl, a1, a2⟩
  · rw [if_pos a1, if_pos a2]
    exact ⟨_, _, _, _, _, _, _, _, _, _, _, _, _, rfl, rfl, hS, hH⟩
  · rw [if_neg (ne10 a1), if_neg (ne10 a2), n_fullT hn]
    have eM : tlshl 1 (nI (pts n)) - 1 = lN (tabs n - 1) := n_allM hn
    rw [eM]
    by_cases c1 : x1 < 0
    · rw [if_pos ((lg_cmp_lt _ _).mpr c1), if_pos (by unfold f_X8_isIn; rw [if_pos ((lg_cmp_lt _ _).mpr c1)])]
      exact ⟨_, _, _, _, _, _, _, _, _, _, _, _, _, rfl, rfl, hS, hH⟩
    · rw [if_neg (fun q => c1 ((lg_cmp_lt _ _).mp q))]
      obtain ⟨t, ht, rfl⟩ := pk_lOf c1
      by_cases c2 : t ≤ tabs n - 1
      · have c3 : lg_cmp (lN t) (lN (tabs n - 1)) ≤ 0 := (lg_cmp_le _ _).mpr ((pk_lLE ht (by omega)).mpr c2)
        rw [if_pos c3, if_neg (by
          unfold f_X8_isIn
          rw [if_neg (fun q => c1 ((lg_cmp_lt _ _).mp q)), if_neg (by rw [lg_cmp_gt, pk_lLT (by omega) ht]; omega)]; decide)]
        obtain ⟨z, q1, q2, q3, q4, q5, q6, q7, q8, q9, q10, q11, q12, e1, e2, e3, e4, -⟩ := p_store hn hS hH hj (t := t) (by omega)
        rw [e1, e2]
        exact ⟨z, q1, q2, q3, q4, q5, q6, q7, q8, q9, q10, q11, q12, rfl, rfl, e3, e4⟩
      · rw [if_neg (by rw [lg_cmp_le, pk_lLE ht (by omega)]; exact c2), if_pos (by
          unfold f_X8_isIn
          rw [if_neg (fun q => c1 ((lg_cmp_lt _ _).mp q)), if_pos (by rw [lg_cmp_gt, pk_lLT (by omega) ht]; omega)])]
        exact ⟨_, _, _, _, _, _, _, _, _, _, _, _, _, rfl, rfl, hS, hH⟩
theorem p_table {n : Nat} {sl : List (Option Nat)} {s_f m_t : List Int64} {m_f : List Int32} {s_n m_n m_pt : Int32} (hN : rN n s_n m_n m_pt) (hS : rS n sl s_f m_t m_f) (x0 : Int32) : ∃ z, f_X7_table x0 s_f = some z ∧ f_X8_table x0 m_t m_f = some z := by
  obtain ⟨hn0, hn, rfl, rfl, rfl⟩ := hN
  unfold f_X7_table f_X8_table
  rcases X_slot3 hn hS x0 with ⟨a1, a2, a3, a4⟩ | ⟨j, hj, rfl, ho, a1, a2, a3, a4, a5, a6, a7⟩ | ⟨j, t, hj, rfl, ho, a1, a2, a3, a4, a5, a6, a7, a8, a9⟩
  · rw [a3, Option.bind_some, if_neg z_m2, if_pos a2]
    exact ⟨_, rfl, by decide⟩
  · rw [a3, Option.bind_some, if_neg z_m3, if_neg (ne10 a2), a6, Option.bind_some, if_pos rfl]
    exact ⟨_, rfl, by decide⟩
  · rw [a3, Option.bind_some, if_pos rfl, if_neg (ne10 a2), a6, Option.bind_some, if_neg z_1, a5, a9]
    exact ⟨_, rfl, rfl⟩
def usedN (sl : List (Option Nat)) : Nat → Nat := fb_ct (fun i => (sl[i]?.getD none).isSome)
theorem X_used {n : Nat} {sl : List (Option Nat)} {s_f m_t : List Int64} {m_f : List Int32} (hn : n ≤ 5) (hS : rS n sl s_f m_t m_f) : f_X6_usedCount s_f = some (nI (usedN sl 8)) := by
  have key : ∀ (m k fu : Nat), k + m = 8 → m < fu → f_X6_usedCount_L4 s_f (fun y => some y) fu (nI (usedN sl k)) (nI k) = some (nI (usedN sl 8)) := by
    intro m
    induction m with
    | zero =>
      intro k fu hk hf
      obtain ⟨fu, rfl⟩ : ∃ q, fu = q + 1 := ⟨fu - 1, by omega⟩
      have : k = 8 := by omega
      subst this
      rw [f_X6_usedCount_L4, if_pos (by decide)]
    | succ m ih =>
      intro k fu hk hf
      obtain ⟨fu, rfl⟩ : ∃ q, fu = q + 1 := ⟨fu - 1, by omega⟩
      obtain ⟨o, o1, -, -⟩ := hS.ld (j := k) (by omega)
      rw [f_X6_usedCount_L4, if_neg (by rw [show (8 : Int32) = nI 8 from rfl]; exact nI_ge (by omega) (by decide)), X_holds hn hS (by omega) o1, Option.bind_some, nI_1, ← ih (k + 1) fu (by omega) (by omega)]
      have e : usedN sl (k + 1) = usedN sl k + (if o.isSome then 1 else 0) := by
        unfold usedN
        rw [fb_ct_succ]
        simp only [o1, Option.getD_some]
      rw [e]
      cases o with
      | none => exact if_pos rfl
      | some t => rw [nI_1]; exact if_neg z_1
  exact key 8 0 tFU (by decide) (by decide)
theorem M_used {n : Nat} {sl : List (Option Nat)} {s_f m_t : List Int64} {m_f : List Int32} (hS : rS n sl s_f m_t m_f) : f_X8_usedSlots m_f = some (nI (usedN sl 8)) := by
  have key : ∀ (m k fu : Nat), k + m = 8 → m < fu → f_X8_usedSlots_L4 m_f (fun y => some y) fu (nI (usedN sl k)) (nI k) = some (nI (usedN sl 8)) := by
    intro m
    induction m with
    | zero =>
      intro k fu hk hf
      obtain ⟨fu, rfl⟩ : ∃ q, fu = q + 1 := ⟨fu - 1, by omega⟩
      have : k = 8 := by omega
      subst this
      rw [f_X8_usedSlots_L4, if_pos (by decide)]
    | succ m ih =>
      intro k fu hk hf
      obtain ⟨fu, rfl⟩ : ∃ q, fu = q + 1 := ⟨fu - 1, by omega⟩
      obtain ⟨o, o1, o2, o3⟩ := hS.ld (j := k) (by omega)
      rw [f_X8_usedSlots_L4, if_neg (by rw [show (8 : Int32) = nI 8 from rfl]; exact nI_ge (by omega) (by decide)), o3, Option.bind_some, nI_1, ← ih (k + 1) fu (by omega) (by omega)]
      have e : usedN sl (k + 1) = usedN sl k + (if o.isSome then 1 else 0) := by
        unfold usedN
        rw [fb_ct_succ]
        simp only [o1, Option.getD_some]
      rw [e]
      cases o with
      | none => rw [Int32.add_zero]; exact if_pos rfl
      | some t => rw [nI_1]; exact if_neg z_1
  exact key 8 0 tFU (by decide) (by decide)
theorem p_clear {n : Nat} {hi : List (Nat × Option Nat)} {h_k : Int32} {h_s : List Int32} {h_c : List Int64} {m_rc : Int32} {m_rs : List Int32} {m_rt : List Int64} {m_rf : List Int32} {sl : List (Option Nat)} {s_f m_t : List Int64} {m_f : List Int32} {s_n m_n m_pt : Int32} (hN : rN n s_n m_n m_pt) (hS : rS n sl s_f m_t m_f) (hH : rH n hi h_k h_s h_c m_rc m_rs m_rt m_rf) (x0 : Int32) :
    ∃ (z : Int32) (s_f' : List Int64) (h_k' : Int32) (h_s' : List Int32) (h_c' : List Int64) (m_rc' : Int32) (m_f' m_rs' : List Int32) (m_rt' : List Int64) (m_rf' : List Int32) (sl' : List (Option Nat)) (hi' : List (Nat × Option Nat)), f_X7_clear x0 s_f h_k h_s h_c = some (z, s_f', h_k', h_s', h_c') ∧ f_X8_clear x0 m_rc m_t m_f m_rs m_rt m_rf = some (z, m_rc', m_f', m_rs', m_rt', m_rf') ∧ rS n sl' s_f' m_t m_f' ∧ rH n hi' h_k' h_s' h_c' m_rc' m_rs' m_rt' m_rf' := by
  obtain ⟨hn0, hn, rfl, rfl, rfl⟩ := hN
  unfold f_X7_clear f_X8_clear
  rcases X_slot3 hn hS x0 with ⟨a1, a2, a3, a4⟩ | ⟨j, hj, rfl, ho, a1, a2, a3, a4, a5, a6, a7⟩ | ⟨j, t, hj, rfl, ho, a1, a2, a3, a4, a5, a6, a7, a8, a9⟩
  · rw [a3, Option.bind_some, if_neg z_m2, if_pos a2]
    exact ⟨_, _, _, _, _, _, _, _, _, _, _, _, rfl, rfl, hS, hH⟩
  · rw [a3, Option.bind_some, if_neg z_m3, if_neg (ne10 a2), a6, Option.bind_some, if_pos rfl]
    exact ⟨_, _, _, _, _, _, _, _, _, _, _, _, rfl, rfl, hS, hH⟩
  · rw [a3, Option.bind_some, if_pos rfl, if_neg (ne10 a2), a6, Option.bind_some, if_neg z_1]
    obtain ⟨rX, rM, e1, e2, e3⟩ := hH.push hS hj ho
    obtain ⟨s_f', m_f', d1, d2, d3⟩ := hS.del hj
    have e1 : f_X4_remember (nI j) (lN t) h_k h_s h_c = some rX := e1
    refine ⟨nI (usedN (sl.set j none) 8), s_f', rX.1, rX.2.1, rX.2.2, rM.1, m_f', rM.2.1, rM.2.2.1, rM.2.2.2, _, _, ?_, ?_, d3, e3⟩
    · unfold f_X7_store
      simp only [a5, Option.bind_some, e1, d1, X_used hn d3]
    · simp only [e2, d2, M_used d3, Option.bind_some]
theorem p_value {n : Nat} {sl : List (Option Nat)} {s_f m_t : List Int64} {m_f : List Int32} {s_n m_n m_pt : Int32} (hN : rN n s_n m_n m_pt) (hS : rS n sl s_f m_t m_f) (x0 x1 : Int32) : ∃ z, f_X7_value x0 x1 s_n s_f = some z ∧ f_X8_value x0 x1 m_pt m_t m_f = some z := by
  obtain ⟨hn0, hn, rfl, rfl, rfl⟩ := hN
  unfold f_X7_value f_X8_value
  rcases n_point x1 hn with ⟨p1, p2⟩ | ⟨q, hq, rfl, p1, p2⟩
  · rw [if_pos p1]
    refine ⟨_, rfl, ?_⟩
    split
    · rfl
    · rfl
  · rw [if_neg (ne10 p1)]
    rcases X_slot3 hn hS x0 with ⟨a1, a2, a3, a4⟩ | ⟨j, hj, rfl, ho, a1, a2, a3, a4, a5, a6, a7⟩ | ⟨j, t, hj, rfl, ho, a1, a2, a3, a4, a5, a6, a7, a8, a9⟩
    · rw [a3, Option.bind_some, if_neg z_m2, if_pos a2]
      exact ⟨_, rfl, rfl⟩
    · rw [a3, Option.bind_some, if_neg z_m3, if_neg (ne10 a2), if_neg (ne10 p2), a6, Option.bind_some, if_pos rfl]
      exact ⟨_, rfl, rfl⟩
    · have ht := tabs63 hn a8
      have hq2 : q < 64 := by have := n_p5 hn; unfold pts at hq; omega
      rw [a3, Option.bind_some, if_pos rfl, if_neg (ne10 a2), if_neg (ne10 p2), a6, Option.bind_some, if_neg z_1, a5, a9, Option.bind_some, Option.bind_some, n_at ht hq2, n_bitAt (by omega) hq2]
      cases t.testBit q
      · exact ⟨_, rfl, by decide⟩
      · exact ⟨_, rfl, by decide⟩
theorem p_output {out : List Int32} {w_l : Int32} {w_s : List Int32} {m_os : Int32} {m_ob : List Int32} (h : rW out w_l w_s m_os m_ob) (x0 : Int32) : ∃ z, f_X7_output x0 w_l w_s = some z ∧ f_X8_output x0 m_os m_ob = some z := by
  obtain ⟨rfl, rfl, h1, h2⟩ := h
  have hl := h1.le
  unfold f_X7_output f_X8_output
  have e : (nI out.length - 1).toInt64 = (nI out.length).toInt64 - 1 := by
    rw [fa_eq64]
    rcases Nat.eq_zero_or_pos out.length with h0 | h0
    · rw [h0]; decide
    · rw [show nI out.length - 1 = nI (out.length - 1) from pk_sub (b := 1) h0, nI_l (by omega), nI_l (by omega), show (1 : Int64) = lN 1 from rfl, lN_sub h0]
  rcases Nat.eq_zero_or_pos out.length with h0 | h0
  · have a1 : f_X7_isIndex x0 (nI out.length) = 0 := by
      unfold f_X7_isIndex
      split
      · rfl
      · next h9 => rw [if_pos (by rw [h0]; exact fa_of_nlt h9)]
    have a2 : f_X8_isIn x0.toInt64 0 (nI out.length - 1).toInt64 = 0 := by
      unfold f_X8_isIn
      split
      · rfl
      · next h9 =>
        rw [if_pos]
        rw [lg_cmp_gt, h0]
        rw [lg_cmp_lt] at h9
        rw [fa_lt64] at h9 ⊢
        have e1 : (0 : Int64).toInt = 0 := by decide
        have e2 : (nI 0 - 1).toInt64.toInt = -1 := by decide
        rw [e1] at h9
        rw [e2]; omega
    rw [if_pos a1, if_pos a2]
    exact ⟨_, rfl, rfl⟩
  · have e2 : (nI out.length - 1).toInt64 = lN (out.length - 1) := by
      rw [show nI out.length - 1 = nI (out.length - 1) from pk_sub (b := 1) h0, nI_l (by omega)]
    rw [e2, show (0 : Int64) = lN 0 from rfl]
    rcases n_ix x0 (N := out.length) h0 (by omega) with ⟨a1, a2⟩ | ⟨j, hj, rfl, a1, a2⟩
    · rw [if_pos a1, if_pos a2]
      exact ⟨_, rfl, rfl⟩
    · rw [if_neg (ne10 a1), if_neg (ne10 a2), h1.ld (by decide) hj, h2.ld (by decide) hj, List.getElem?_eq_getElem hj]
      exact ⟨_, rfl, rfl⟩
