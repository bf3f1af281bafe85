theorem n_ixG (x : Int32) {r : Int32} (hr : r = -1 ∨ ∃ k, k ≤ 1000 ∧ r = nI k) : (f_X7_isIndex x r = 0 ∧ f_X8_isIn x.toInt64 0 (r - 1).toInt64 = 0) ∨ ∃ j k, k ≤ 1000 ∧ r = nI k ∧ j < k ∧ x = nI j ∧ f_X7_isIndex x r = 1 ∧ f_X8_isIn x.toInt64 0 (r - 1).toInt64 = 1 := by
  have neg : r.toInt ≤ 0 → (r - 1).toInt64.toInt < 0 → (f_X7_isIndex x r = 0 ∧ f_X8_isIn x.toInt64 0 (r - 1).toInt64 = 0) := by
    intro h1 h2
    constructor
    · unfold f_X7_isIndex
      split
      · rfl
      · next h9 =>
        rw [if_pos]
        rw [fa_lt] at h9
        rw [fa_le]
        have e : (0 : Int32).toInt = 0 := by decide
        rw [e] at h9
        omega
    · unfold f_X8_isIn
      split
      · rfl
      · next h9 =>
        rw [if_pos]
        rw [lg_cmp_gt]
        rw [lg_cmp_lt] at h9
        rw [fa_lt64] at h9 ⊢
        have e1 : (0 : Int64).toInt = 0 := by decide
        rw [e1] at h9
        omega
  rcases hr with rfl | ⟨k, hk, rfl⟩
  · exact Or.inl (neg (by decide) (by decide))
  · rcases Nat.eq_zero_or_pos k with h0 | h0
    · subst h0
      exact Or.inl (neg (by decide) (by decide))
    · have e2 : (nI k - 1).toInt64 = lN (k - 1) := by
        rw [show nI k - 1 = nI (k - 1) from pk_sub (b := 1) h0, nI_l (by omega)]
      rw [e2, show (0 : Int64) = lN 0 from rfl]
      rcases n_ix x (N := k) h0 (by omega) with h | ⟨j, hj, rfl, a1, a2⟩
      · exact Or.inl h
      · exact Or.inr ⟨j, k, hk, rfl, hj, rfl, a1, a2⟩
theorem p_feed {inp : List Nat} {i_l : Int32} {i_b : List Int32} {m_is : Int32} {m_ib : List Int32} (h : rI inp i_l i_b m_is m_ib) (x0 : Int32) : ∃ (z i_l' : Int32) (i_b' : List Int32) (m_is' : Int32) (m_ib' : List Int32) (inp' : List Nat), f_X7_feed x0 i_l i_b = some (z, i_l', i_b') ∧ f_X8_feed x0 m_is m_ib = some (z, m_is', m_ib') ∧ rI inp' i_l' i_b' m_is' m_ib' := by
  have h0 := h
  obtain ⟨hv, rfl, rfl, h1, h2⟩ := h
  have hl : inp.length ≤ 80 := by have := h1.le; rwa [List.length_map] at this
  unfold f_X7_feed f_X8_feed f_X5_append
  by_cases c1 : x0 < 1
  · rw [if_pos c1, if_pos (by
      unfold f_X8_isIn
      rw [if_pos]
      rw [lg_cmp_lt]
      exact (fa_wide_lt x0 1).mpr c1)]
    exact ⟨_, _, _, _, _, _, rfl, rfl, h0⟩
  · rw [if_neg c1]
    by_cases c2 : x0 ≤ 127
    · have c4 : ¬ f_X8_isIn x0.toInt64 1 127 = 0 := by
        unfold f_X8_isIn
        rw [if_neg (by rw [lg_cmp_lt]; exact fun q => c1 ((fa_wide_lt x0 1).mp q)), if_neg (by
          rw [lg_cmp_gt]
          intro q
          have q2 := (fa_wide_lt 127 x0).mp q
          rw [fa_lt] at q2
          rw [fa_le] at c2
          omega)]
        exact z_1
      rw [if_pos c2, if_neg c4]
      obtain ⟨v, hv1, rfl⟩ := nI_of (x := x0) (by
        intro q
        refine c1 ?_
        rw [fa_lt] at q ⊢
        have e1 : (0 : Int32).toInt = 0 := by decide
        have e2 : (1 : Int32).toInt = 1 := by decide
        rw [e1] at q; rw [e2]; omega)
      have hv2 : 1 ≤ v ∧ v ≤ 127 := by
        rw [fa_lt, nI_toInt hv1] at c1
        rw [fa_le, nI_toInt hv1] at c2
        have e1 : (1 : Int32).toInt = 1 := by decide
        have e2 : (127 : Int32).toInt = 127 := by decide
        rw [e1] at c1; rw [e2] at c2
        omega
      by_cases c3 : inp.length = 80
      · rw [if_neg (by rw [c3]; decide), if_pos (by rw [c3]; rfl)]
        exact ⟨_, _, _, _, _, _, rfl, rfl, h0⟩
      · rw [if_pos (by rw [show (80 : Int32) = nI 80 from rfl]; exact nI_lt (by omega) (by decide)), if_neg (by rw [show (80 : Int32) = nI 80 from rfl, nI_eq (by omega) (by decide)]; exact c3)]
        obtain ⟨z1, e1, p1⟩ := h1.push (by decide) (by rw [List.length_map]; omega) (nI v)
        obtain ⟨z2, e2, p2⟩ := h2.push (by decide) (by rw [List.length_map]; omega) (nI v)
        rw [List.length_map] at e1 e2
        refine ⟨nI inp.length + 1, nI inp.length + 1, z1, nI inp.length + 1, z2, inp ++ [v], ?_, ?_, ?_, ?_, ?_, ?_, ?_⟩
        · simp only [e1, Option.bind_some]
          rw [if_neg z_1]
        · simp only [e2, Option.bind_some]
        · intro w hw
          rcases List.mem_append.mp hw with hw | hw
          · exact hv w hw
          · rcases List.mem_singleton.mp hw with rfl
            exact hv2
        · rw [List.length_append]; exact nI_1 _
        · rw [List.length_append]; exact nI_1 _
        · rw [List.map_append]; exact p1
        · rw [List.map_append]; exact p2
    · rw [if_neg c2, if_pos (by
        unfold f_X8_isIn
        rw [if_neg (by rw [lg_cmp_lt]; exact fun q => c1 ((fa_wide_lt x0 1).mp q)), if_pos]
        rw [lg_cmp_gt]
        exact (fa_wide_lt 127 x0).mpr (fa_of_nle c2))]
      exact ⟨_, _, _, _, _, _, rfl, rfl, h0⟩
theorem xor_lt_tabs {n a b : Nat} (ha : a < tabs n) (hb : b < tabs n) : a ^^^ b < tabs n := Nat.xor_lt_two_pow ha hb
theorem or_lt_tabs {n a b : Nat} (ha : a < tabs n) (hb : b < tabs n) : a ||| b < tabs n := Nat.or_lt_two_pow ha hb
theorem and_lt_tabs {n a b : Nat} (ha : a < tabs n) : a &&& b < tabs n := Nat.lt_of_le_of_lt Nat.and_le_left ha
theorem p_combine {n : Nat} {hi : List (Nat × Option Nat)} {h_k : Int32} {h_s : List Int32} {h_c : List Int64} {m_rc : Int32} {m_rs : List Int32} {m_rt : List Int64} {m_rf : List Int32} {sl : List (Option Nat)} {s_f m_t : List Int64} {m_f : List Int32} {s_n m_n m_pt : Int32} (hN : rN n s_n m_n m_pt) (hS : rS n sl s_f m_t m_f) (hH : rH n hi h_k h_s h_c m_rc m_rs m_rt m_rf) (x0 x1 x2 x3 : Int32) :
    ∃ (z : Int32) (s_f' : List Int64) (h_k' : Int32) (h_s' : List Int32) (h_c' : List Int64) (m_rc' : Int32) (m_t' : List Int64) (m_f' m_rs' : List Int32) (m_rt' : List Int64) (m_rf' : List Int32) (sl' : List (Option Nat)) (hi' : List (Nat × Option Nat)), f_X7_combine x0 x1 x2 x3 s_f h_k h_s h_c = some (z, s_f', h_k', h_s', h_c') ∧ f_X8_combine x0 x1 x2 x3 m_pt m_rc m_t m_f m_rs m_rt m_rf = some (z, m_rc', m_t', m_f', m_rs', m_rt', m_rf') ∧ rS n sl' s_f' m_t' m_f' ∧ rH n hi' h_k' h_s' h_c' m_rc' m_rs' m_rt' m_rf' := by
  obtain ⟨hn0, hn, rfl, rfl, rfl⟩ := hN
  have same : ∀ w : Int32, ∃ (z : Int32) (s_f' : List Int64) (h_k' : Int32) (h_s' : List Int32) (h_c' : List Int64) (m_rc' : Int32) (m_t' : List Int64) (m_f' m_rs' : List Int32) (m_rt' : List Int64) (m_rf' : List Int32) (sl' : List (Option Nat)) (hi' : List (Nat × Option Nat)), some (w, s_f, h_k, h_s, h_c) = some (z, s_f', h_k', h_s', h_c') ∧ some (w, m_rc, m_t, m_f, m_rs, m_rt, m_rf) = some (z, m_rc', m_t', m_f', m_rs', m_rt', m_rf') ∧ rS n sl' s_f' m_t' m_f' ∧ rH n hi' h_k' h_s' h_c' m_rc' m_rs' m_rt' m_rf' := fun w => ⟨_, _, _, _, _, _, _, _, _, _, _, _, _, rfl, rfl, hS, hH⟩
  unfold f_X7_combine f_X8_combine
  rcases n_ix x0 (N := 3) (by decide) (by decide) with ⟨a1, a2⟩ | ⟨op, hop, rfl, a1, a2⟩
  · have a1 : f_X7_isIndex x0 3 = 0 := a1
    have a2 : f_X8_isIn x0.toInt64 0 2 = 0 := a2
    rw [if_pos a1, if_pos a2]; exact same _
  have a1 : f_X7_isIndex (nI op) 3 = 1 := a1
  have a2 : f_X8_isIn (nI op).toInt64 0 2 = 1 := a2
  rw [if_neg (ne10 a1), if_neg (ne10 a2)]
  rcases X_slot3 hn hS x1 with ⟨b1, b2, b3, b4⟩ | ⟨j, hj, rfl, ho, b1, b2, b3, b4, b5, b6, b7⟩ | ⟨j, t, hj, rfl, ho, b1, b2, b3, b4, b5, b6, b7, b8, b9⟩
  · rw [if_pos b1, if_pos b2]; exact same _
  all_goals rw [if_neg (ne10 b1), if_neg (ne10 b2)]
  all_goals rcases X_slot3 hn hS x2 with ⟨c1, c2, c3, c4⟩ | ⟨i, hi2, rfl, hp, c1, c2, c3, c4, c5, c6, c7⟩ | ⟨i, u, hi2, rfl, hp, c1, c2, c3, c4, c5, c6, c7, c8, c9⟩
  · rw [if_pos c1, if_pos c2]; exact same _
  · rw [if_neg (ne10 c1), if_neg (ne10 c2)]
    rcases n_slot x3 with ⟨d1, d2⟩ | ⟨k, hk, rfl, d1, d2⟩
    · rw [if_pos d1, if_pos d2]; exact same _
    · rw [if_neg (ne10 d1), if_neg (ne10 d2), b7, Option.bind_some, if_pos rfl, b6, Option.bind_some, if_pos rfl]; exact same _
  · rw [if_neg (ne10 c1), if_neg (ne10 c2)]
    rcases n_slot x3 with ⟨d1, d2⟩ | ⟨k, hk, rfl, d1, d2⟩
    · rw [if_pos d1, if_pos d2]; exact same _
    · rw [if_neg (ne10 d1), if_neg (ne10 d2), b7, Option.bind_some, if_pos rfl, b6, Option.bind_some, if_pos rfl]; exact same _
  · rw [if_pos c1, if_pos c2]; exact same _
  · rw [if_neg (ne10 c1), if_neg (ne10 c2)]
    rcases n_slot x3 with ⟨d1, d2⟩ | ⟨k, hk, rfl, d1, d2⟩
    · rw [if_pos d1, if_pos d2]; exact same _
    · rw [if_neg (ne10 d1), if_neg (ne10 d2), b7, Option.bind_some, if_neg z_1, b6, Option.bind_some, if_neg z_1, c7, Option.bind_some, if_pos rfl, c6, Option.bind_some, if_pos rfl]; exact same _
  · rw [if_neg (ne10 c1), if_neg (ne10 c2)]
    rcases n_slot x3 with ⟨d1, d2⟩ | ⟨k, hk, rfl, d1, d2⟩
    · rw [if_pos d1, if_pos d2]; exact same _
    · rw [if_neg (ne10 d1), if_neg (ne10 d2), b7, Option.bind_some, if_neg z_1, b6, Option.bind_some, if_neg z_1, c7, Option.bind_some, if_neg z_1, c6, Option.bind_some, if_neg z_1, b5, Option.bind_some, c5, Option.bind_some, b9, Option.bind_some, c9, Option.bind_some]
      unfold f_X7_applied
      match op, hop with
      | 0, _ =>
        rw [if_pos (show nI 0 = 0 from rfl), if_pos (show nI 0 = 0 from rfl), fb_andL]
        obtain ⟨z, q1, q2, q3, q4, q5, q6, q7, q8, q9, q10, q11, q12, e1, e2, e3, e4, -⟩ := p_store hn hS hH hk (and_lt_tabs (b := u) b8)
        rw [e1, e2]
        exact ⟨z, q1, q2, q3, q4, q5, q6, q7, q8, q9, q10, q11, q12, rfl, rfl, e3, e4⟩
      | 1, _ =>
        rw [if_neg (show ¬ nI 1 = 0 by decide), if_neg (show ¬ nI 1 = 0 by decide), if_pos (show nI 1 = 1 from rfl), if_pos (show nI 1 = 1 from rfl), fb_orL]
        obtain ⟨z, q1, q2, q3, q4, q5, q6, q7, q8, q9, q10, q11, q12, e1, e2, e3, e4, -⟩ := p_store hn hS hH hk (or_lt_tabs b8 c8)
        rw [e1, e2]
        exact ⟨z, q1, q2, q3, q4, q5, q6, q7, q8, q9, q10, q11, q12, rfl, rfl, e3, e4⟩
      | 2, _ =>
        rw [if_neg (show ¬ nI 2 = 0 by decide), if_neg (show ¬ nI 2 = 0 by decide), if_neg (show ¬ nI 2 = 1 by decide), if_neg (show ¬ nI 2 = 1 by decide), lN_xor]
        obtain ⟨z, q1, q2, q3, q4, q5, q6, q7, q8, q9, q10, q11, q12, e1, e2, e3, e4, -⟩ := p_store hn hS hH hk (xor_lt_tabs b8 c8)
        rw [e1, e2]
        exact ⟨z, q1, q2, q3, q4, q5, q6, q7, q8, q9, q10, q11, q12, rfl, rfl, e3, e4⟩
theorem p_addStep {c : Nat} {st : List Int32} {s_sc : Int32} {s_st : List Int32} {m_sc : Int32} {m_st : List Int32} (h : rT c st s_sc s_st m_sc m_st) (x0 x1 x2 x3 : Int32) : ∃ (z s_sc' : Int32) (s_st' : List Int32) (m_sc' : Int32) (m_st' : List Int32) (c' : Nat) (st' : List Int32), f_X7_addStep x0 x1 x2 x3 s_sc s_st = some (z, s_sc', s_st') ∧ f_X8_addStep x0 x1 x2 x3 m_sc m_st = some (z, m_sc', m_st') ∧ rT c' st' s_sc' s_st' m_sc' m_st' := by
  have h0 := h
  obtain ⟨hc, hl, ho, rfl, rfl, h1, h2⟩ := h
  unfold f_X7_addStep f_X8_addStep f_X6_appendStep
  rcases n_ix x0 (N := 6) (by decide) (by decide) with ⟨a1, a2⟩ | ⟨op, hop, rfl, a1, a2⟩
  · have a1 : f_X7_isIndex x0 6 = 0 := a1
    have a2 : f_X8_isIn x0.toInt64 0 5 = 0 := a2
    rw [if_pos a1, if_pos a2]
    exact ⟨_, _, _, _, _, _, _, rfl, rfl, h0⟩
  have a1 : f_X7_isIndex (nI op) 6 = 1 := a1
  have a2 : f_X8_isIn (nI op).toInt64 0 5 = 1 := a2
  rw [if_neg (ne10 a1), if_neg (ne10 a2)]
  by_cases c8 : c = 8
  · rw [if_neg (by rw [c8]; decide), if_pos (by rw [c8]; rfl)]
    exact ⟨_, _, _, _, _, _, _, rfl, rfl, h0⟩
  · rw [if_pos (by rw [show (8 : Int32) = nI 8 from rfl]; exact nI_lt (by omega) (by decide)), if_neg (show ¬ (8 : Int32) ≤ nI c by rw [show (8 : Int32) = nI 8 from rfl]; exact nI_ge (by omega) (by decide)), if_neg (show ¬ nI c = 8 by rw [show (8 : Int32) = nI 8 from rfl, nI_eq (by omega) (by decide)]; exact c8)]
    have ea : nI c * 4 = nI st.length := by rw [show (4 : Int32) = nI 4 from rfl, pk_mul, hl, Nat.mul_comm]
    have eb : 4 * nI c = nI st.length := by rw [show (4 : Int32) = nI 4 from rfl, pk_mul, hl]
    rw [ea, eb]
    obtain ⟨y1, e1, p1⟩ := h1.push (by decide) (by omega) (nI op)
    obtain ⟨y2, e2, p2⟩ := p1.push (by decide) (by rw [List.length_append, List.length_singleton]; omega) x1
    obtain ⟨y3, e3, p3⟩ := p2.push (by decide) (by simp only [List.length_append, List.length_singleton]; omega) x2
    obtain ⟨y4, e4, p4⟩ := p3.push (by decide) (by simp only [List.length_append, List.length_singleton]; omega) x3
    obtain ⟨w1, g1, r1⟩ := h2.push (by decide) (by omega) (nI op)
    obtain ⟨w2, g2, r2⟩ := r1.push (by decide) (by rw [List.length_append, List.length_singleton]; omega) x1
    obtain ⟨w3, g3, r3⟩ := r2.push (by decide) (by simp only [List.length_append, List.length_singleton]; omega) x2
    obtain ⟨w4, g4, r4⟩ := r3.push (by decide) (by simp only [List.length_append, List.length_singleton]; omega) x3
    have l1 : nI (st ++ [nI op]).length = nI st.length + 1 := by rw [List.length_append]; exact (nI_1 _).symm
    have l2 : nI (st ++ [nI op] ++ [x1]).length = nI st.length + 2 := by simp only [List.length_append, List.length_singleton]; exact (nI_add _ 2).symm
    have l3 : nI (st ++ [nI op] ++ [x1] ++ [x2]).length = nI st.length + 3 := by simp only [List.length_append, List.length_singleton]; exact (nI_add _ 3).symm
    rw [l1] at e2 g2
    rw [l2] at e3 g3
    rw [l3] at e4 g4
    refine ⟨nI c + 1, nI c + 1, y4, nI c + 1, w4, c + 1, st ++ [nI op] ++ [x1] ++ [x2] ++ [x3], ?_, ?_, by omega, by simp only [List.length_append, List.length_singleton]; omega, ?_, nI_1 c, nI_1 c, p4, r4⟩
    · simp only [e1, e2, e3, e4, Option.bind_some]
    · simp only [g1, g2, g3, g4, Option.bind_some]
    · intro k hk
      by_cases hk2 : k < c
      · obtain ⟨j, hj, ej⟩ := ho k hk2
        refine ⟨j, hj, ?_⟩
        rw [List.append_assoc, List.append_assoc, List.append_assoc, List.getElem?_append_left (by omega)]
        exact ej
      · have : k = c := by omega
        subst this
        refine ⟨op, hop, ?_⟩
        rw [List.append_assoc, List.append_assoc, List.append_assoc, List.getElem?_append_right (by omega), hl, Nat.sub_self]
        rfl
theorem p_undo {n : Nat} {hi : List (Nat × Option Nat)} {h_k : Int32} {h_s : List Int32} {h_c : List Int64} {m_rc : Int32} {m_rs : List Int32} {m_rt : List Int64} {m_rf : List Int32} {sl : List (Option Nat)} {s_f m_t : List Int64} {m_f : List Int32} (hS : rS n sl s_f m_t m_f) (hH : rH n hi h_k h_s h_c m_rc m_rs m_rt m_rf) :
    ∃ (z : Int32) (s_f' : List Int64) (h_k' : Int32) (m_rc' : Int32) (m_t' : List Int64) (m_f' : List Int32) (sl' : List (Option Nat)) (hi' : List (Nat × Option Nat)), f_X7_undo s_f h_k h_s h_c = some (z, s_f', h_k') ∧ f_X8_undo m_rc m_t m_f m_rs m_rt m_rf = some (z, m_rc', m_t', m_f') ∧ rS n sl' s_f' m_t' m_f' ∧ rH n hi' h_k' h_s h_c m_rc' m_rs m_rt m_rf := by
  have hH0 := hH
  obtain ⟨hq, ⟨rfl, hs, hc⟩, ⟨rfl, ms, mf, ml, mt⟩⟩ := hH
  have hl : hi.length ≤ 10 := by have := hs.le; rwa [List.length_map] at this
  unfold f_X7_undo f_X8_undo
  by_cases h0 : hi.length = 0
  · rw [if_pos (show f_X7_isIndex (nI hi.length - 1) 10 = 0 by rw [h0]; decide), if_pos (by rw [h0]; rfl)]
    exact ⟨_, _, _, _, _, _, _, _, rfl, rfl, hS, hH0⟩
  · have e : nI hi.length - 1 = nI (hi.length - 1) := pk_sub (b := 1) (by omega)
    rw [e, if_neg (show ¬ f_X7_isIndex (nI (hi.length - 1)) 10 = 0 by rw [show (10 : Int32) = nI 10 from rfl, n_isIndex1 (by omega) (by decide)]; decide), if_neg (show ¬ nI hi.length = 0 from nI_ne0 (by omega) (by omega))]
    obtain ⟨⟨j, o⟩, ej⟩ : ∃ q, hi[hi.length - 1]? = some q := ⟨hi[hi.length - 1]'(by omega), List.getElem?_eq_getElem _⟩
    have hjo := hq (j, o) (List.mem_of_getElem? ej)
    obtain ⟨v, ev⟩ : ∃ v, m_rt[hi.length - 1]? = some v := ⟨m_rt[hi.length - 1]'(by omega), List.getElem?_eq_getElem _⟩
    have g1 : tld h_s (nI (hi.length - 1)) = some (nI j) := by rw [hs.ld (by decide) (by rw [List.length_map]; omega), List.getElem?_map, ej]; rfl
    have g2 : tld h_c (nI (hi.length - 1)) = some (eO o) := by rw [hc.ld (by decide) (by rw [List.length_map]; omega), List.getElem?_map, ej]; rfl
    have g3 : tld m_rs (nI (hi.length - 1)) = some (nI j) := by rw [ms.ld (by decide) (by rw [List.length_map]; omega), List.getElem?_map, ej]; rfl
    have g4 : tld m_rf (nI (hi.length - 1)) = some (fO o) := by rw [mf.ld (by decide) (by rw [List.length_map]; omega), List.getElem?_map, ej]; rfl
    have g5 : tld m_rt (nI (hi.length - 1)) = some v := by rw [tld_nI (by omega), ev]
    have hj : j < 8 := hjo.1
    have g0 : f_X7_isSlot (nI j) = 1 := n_isIndex1 (N := 8) hj (by decide)
    have hS0 := hS
    obtain ⟨s1, s2, rfl, rfl, s5, s6⟩ := hS
    have t1 : tst (sl.map eO) (nI j) (eO o) = some ((sl.set j o).map eO) := by rw [tst_nI (by rw [List.length_map]; omega) (by rw [List.length_map]; omega), List.map_set]
    have t2 : tst (sl.map fO) (nI j) (fO o) = some ((sl.set j o).map fO) := by rw [tst_nI (by rw [List.length_map]; omega) (by rw [List.length_map]; omega), List.map_set]
    have t3 : tst m_t (nI j) v = some (m_t.set j v) := tst_nI (by omega) (by omega)
    have lk : ∀ {α : Type} {N : Nat} {xs : List α} {f : Nat × Option Nat → α}, pre N xs (hi.map f) → pre N xs ((hi.take (hi.length - 1)).map f) := fun {α N xs f} h => by rw [List.map_take]; exact h.cut _
    have ll : (hi.take (hi.length - 1)).length = hi.length - 1 := by rw [List.length_take]; omega
    refine ⟨nI j, (sl.set j o).map eO, nI (hi.length - 1), nI (hi.length - 1), m_t.set j v, (sl.set j o).map fO, sl.set j o, hi.take (hi.length - 1), by rw [g1, Option.bind_some, g0, if_neg (show ¬ (1 : Int32) = 0 by decide), Option.bind_some, g2, Option.bind_some, t1, Option.bind_some], by simp only [g3, g4, g5, t3, nar_fO, t2, Option.bind_some], ⟨by rw [List.length_set]; exact s1, ?_, rfl, rfl, by rw [List.length_set]; exact s5, ?_⟩, fun q hq2 => hq q (List.mem_of_mem_take hq2), ⟨by rw [ll], lk hs, lk hc⟩, by rw [ll], lk ms, lk mf, ml, ?_⟩
    · intro i u hi2
      by_cases hij : j = i
      · subst hij
        rw [List.getElem?_set_self (by omega)] at hi2
        exact hjo.2 u (Option.some.inj hi2)
      · rw [List.getElem?_set_ne hij] at hi2
        exact s2 i u hi2
    · intro i u hi2
      by_cases hij : j = i
      · subst hij
        rw [List.getElem?_set_self (by omega)] at hi2
        have ho : o = some u := Option.some.inj hi2
        subst ho
        have := mt (hi.length - 1) j u ej
        rw [ev] at this
        rw [List.getElem?_set_self (by omega), this]
      · rw [List.getElem?_set_ne hij] at hi2
        rw [List.getElem?_set_ne hij]
        exact s6 i u hi2
    · intro i s t hi2
      refine mt i s t ?_
      rw [List.getElem?_take] at hi2
      split at hi2
      · exact hi2
      · cases hi2
