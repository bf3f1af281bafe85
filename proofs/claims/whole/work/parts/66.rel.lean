/-! what ties the class's state to the reference's -/
def rN (n : Nat) (s_n m_n m_pt : Int32) : Prop := 1 ≤ n ∧ n ≤ 5 ∧ s_n = nI n ∧ m_n = nI n ∧ m_pt = nI (pts n)
def rS (n : Nat) (sl : List (Option Nat)) (s_f : List Int64) (m_t : List Int64) (m_f : List Int32) : Prop := sl.length = 8 ∧ (∀ (i t : Nat), sl[i]? = some (some t) → t < tabs n) ∧ s_f = sl.map eO ∧ m_f = sl.map fO ∧ m_t.length = 8 ∧ ∀ (i t : Nat), sl[i]? = some (some t) → m_t[i]? = some (lN t)
def rH (n : Nat) (hi : List (Nat × Option Nat)) (h_k : Int32) (h_s : List Int32) (h_c : List Int64) (m_rc : Int32) (m_rs : List Int32) (m_rt : List Int64) (m_rf : List Int32) : Prop := (∀ q ∈ hi, q.1 < 8 ∧ ∀ t, q.2 = some t → t < tabs n) ∧ hX hi h_k h_s h_c ∧ hM hi m_rc m_rs m_rt m_rf
def rP (n sp sb : Nat) (s_sp s_sb m_sa m_sb : Int64) : Prop := sp < tabs n ∧ sb &&& sp = sb ∧ s_sp = lN sp ∧ s_sb = lN sb ∧ m_sa = lN sp ∧ m_sb = lN sb
def rT (c : Nat) (st : List Int32) (s_sc : Int32) (s_st : List Int32) (m_sc : Int32) (m_st : List Int32) : Prop := c ≤ 8 ∧ st.length = 4 * c ∧ (∀ k, k < c → ∃ j, j < 6 ∧ st[4 * k]? = some (nI j)) ∧ s_sc = nI c ∧ m_sc = nI c ∧ pre 32 s_st st ∧ pre 32 m_st st
def rI (inp : List Nat) (i_l : Int32) (i_b : List Int32) (m_is : Int32) (m_ib : List Int32) : Prop := (∀ v ∈ inp, 1 ≤ v ∧ v ≤ 127) ∧ i_l = nI inp.length ∧ m_is = nI inp.length ∧ pre 80 i_b (inp.map nI) ∧ pre 80 m_ib (inp.map nI)
def rW (out : List Int32) (w_l : Int32) (w_s : List Int32) (m_os : Int32) (m_ob : List Int32) : Prop := w_l = nI out.length ∧ m_os = nI out.length ∧ pre 16 w_s out ∧ pre 40 m_ob out
def rA (x_l x_e m_al m_el : List Int32) : Prop := x_l = m_al ∧ x_e = m_el ∧ x_l.length = 4 ∧ x_e.length = 64 ∧ ∀ (i : Nat) (v : Int32), x_l[i]? = some v → v = -1 ∨ ∃ k, k ≤ 16 ∧ v = nI k
def rV (x_hs v_n : Int32) (v_sp v_sb : Int64) (v_sc : Int32) (v_f : List Int64) (v_st : List Int32) (m_vn m_vc : Int32) (m_va m_vb : Int64) (m_vt : List Int64) (m_vf m_vs : List Int32) : Prop :=
  (v_f.length = 8 ∧ v_st.length = 32 ∧ m_vt.length = 8 ∧ m_vf.length = 8 ∧ m_vs.length = 32) ∧
  ((x_hs = 0 ∧ m_vn = -1) ∨ ∃ (n : Nat) (sl : List (Option Nat)) (sp sb c : Nat) (st : List Int32), x_hs = 1 ∧ 1 ≤ n ∧ n ≤ 5 ∧ v_n = nI n ∧ m_vn = nI n ∧ rS n sl v_f m_vt m_vf ∧ rP n sp sb v_sp v_sb m_va m_vb ∧ rT c st v_sc v_st m_vc m_vs)
def rG (g_p g_a g_t c_t c_p m_nr m_ty m_pa : List Int32) : Prop := g_p.length = 32 ∧ g_a.length = 5 ∧ g_t.length = 4 ∧ c_t.length = 9 ∧ c_p.length = 9 ∧ m_nr.length = 5 ∧ m_ty.length = 12 ∧ m_pa.length = 12
theorem rS.ld {n : Nat} {sl : List (Option Nat)} {s_f m_t : List Int64} {m_f : List Int32} (h : rS n sl s_f m_t m_f) {j : Nat} (hj : j < 8) : ∃ o, sl[j]? = some o ∧ tld s_f (nI j) = some (eO o) ∧ tld m_f (nI j) = some (fO o) := by
  obtain ⟨h1, h2, rfl, rfl, h5, h6⟩ := h
  refine ⟨sl[j]'(by omega), List.getElem?_eq_getElem _, ?_, ?_⟩
  · rw [tld_nI (by omega), List.getElem?_map, List.getElem?_eq_getElem (by omega)]; rfl
  · rw [tld_nI (by omega), List.getElem?_map, List.getElem?_eq_getElem (by omega)]; rfl
theorem rS.ldt {n : Nat} {sl : List (Option Nat)} {s_f m_t : List Int64} {m_f : List Int32} (h : rS n sl s_f m_t m_f) {j t : Nat} (hj : sl[j]? = some (some t)) : tld m_t (nI j) = some (lN t) := by
  have hl := (List.getElem?_eq_some_iff.mp hj).1
  have := h.1
  rw [tld_nI (by omega), h.2.2.2.2.2 j t hj]
theorem eO_ne (t : Nat) (ht : t < 2 ^ 63) : ¬ lg_cmp (lN t) (-1) = 0 := by
  rw [lg_cmp_eq]
  intro h
  have := congrArg Int64.toInt h
  rw [pk_lT ht] at this
  have e : (-1 : Int64).toInt = -1 := by decide
  rw [e] at this
  omega
theorem tabs63 {n t : Nat} (hn : n ≤ 5) (ht : t < tabs n) : t < 2 ^ 62 := by have := tabs_le hn; omega
theorem X_holds {n : Nat} {sl : List (Option Nat)} {s_f m_t : List Int64} {m_f : List Int32} (hn : n ≤ 5) (h : rS n sl s_f m_t m_f) {j : Nat} (hj : j < 8) {o : Option Nat} (ho : sl[j]? = some o) : f_X6_holds (nI j) s_f = some (fO o) := by
  obtain ⟨o', e1, e2, e3⟩ := h.ld hj
  rw [ho] at e1; cases e1
  unfold f_X6_holds
  rcases n_slot (nI j) with ⟨h1, -⟩ | ⟨k, hk, ek, h1, -⟩
  · exact absurd (n_isIndex1 hj (by decide)) (by intro q; have q2 : f_X7_isSlot (nI j) = 1 := q; rw [h1] at q2; exact absurd q2 (by decide))
  · rw [if_neg (by rw [h1]; decide), e2, Option.bind_some]
    cases o with
    | none => rw [if_pos (by decide)]; rfl
    | some t =>
      show (if lg_cmp (lN t) (-1) = 0 then _ else _) = _
      rw [if_neg (eO_ne t (by have := tabs63 hn (h.2.1 j t ho); omega))]; rfl
theorem X_slotError {n : Nat} {sl : List (Option Nat)} {s_f m_t : List Int64} {m_f : List Int32} (hn : n ≤ 5) (h : rS n sl s_f m_t m_f) (x : Int32) : (f_X7_slotError x s_f = some (-2) ∧ f_X8_wrong x m_f = some (-2) ∧ f_X8_isSlot x = 0 ∧ f_X7_isSlot x = 0) ∨ ∃ (j : Nat) (o : Option Nat), j < 8 ∧ x = nI j ∧ sl[j]? = some o ∧ f_X7_isSlot x = 1 ∧ f_X8_isSlot x = 1 ∧ f_X7_slotError x s_f = some (if o = none then -3 else 0) ∧ f_X8_wrong x m_f = some (if o = none then -3 else 0) := by
  rcases n_slot x with ⟨h1, h2⟩ | ⟨j, hj, rfl, h1, h2⟩
  · refine Or.inl ⟨?_, ?_, h2, h1⟩
    · unfold f_X7_slotError; rw [if_pos h1]
    · unfold f_X8_wrong; rw [if_pos h2]
  · obtain ⟨o, e1, e2, e3⟩ := h.ld hj
    refine Or.inr ⟨j, o, hj, rfl, e1, h1, h2, ?_, ?_⟩
    · unfold f_X7_slotError
      rw [if_neg (by rw [h1]; decide), X_holds hn h hj e1, Option.bind_some]
      cases o <;> rfl
    · unfold f_X8_wrong
      rw [if_neg (by rw [h2]; decide), e3, Option.bind_some]
      cases o <;> rfl
theorem rS.set {n : Nat} {sl : List (Option Nat)} {s_f m_t : List Int64} {m_f : List Int32} (h : rS n sl s_f m_t m_f) {j : Nat} (hj : j < 8) {t : Nat} (ht : t < tabs n) : ∃ s_f' m_t' m_f', tst s_f (nI j) (lN t) = some s_f' ∧ tst m_t (nI j) (lN t) = some m_t' ∧ tst m_f (nI j) (vp_nar .boolean 1) = some m_f' ∧ rS n (sl.set j (some t)) s_f' m_t' m_f' := by
  obtain ⟨h1, h2, rfl, rfl, h5, h6⟩ := h
  refine ⟨(sl.set j (some t)).map eO, m_t.set j (lN t), (sl.set j (some t)).map fO, ?_, ?_, ?_, by rw [List.length_set]; exact h1, ?_, rfl, rfl, by rw [List.length_set]; exact h5, ?_⟩
  · rw [tst_nI (by rw [List.length_map]; omega) (by rw [List.length_map, h1]; decide), List.map_set]; rfl
  · rw [tst_nI (by omega) (by omega)]
  · rw [nar_1, tst_nI (by rw [List.length_map]; omega) (by rw [List.length_map, h1]; decide), List.map_set]; rfl
  · intro i u hi
    by_cases hij : j = i
    · subst hij
      rw [List.getElem?_set_self (by omega)] at hi
      cases hi; exact ht
    · rw [List.getElem?_set_ne hij] at hi
      exact h2 i u hi
  · intro i u hi
    by_cases hij : j = i
    · subst hij
      rw [List.getElem?_set_self (by omega)] at hi
      cases hi
      rw [List.getElem?_set_self (by omega)]
    · rw [List.getElem?_set_ne hij] at hi
      rw [List.getElem?_set_ne hij]
      exact h6 i u hi
theorem rS.del {n : Nat} {sl : List (Option Nat)} {s_f m_t : List Int64} {m_f : List Int32} (h : rS n sl s_f m_t m_f) {j : Nat} (hj : j < 8) : ∃ s_f' m_f', tst s_f (nI j) (-1) = some s_f' ∧ tst m_f (nI j) (vp_nar .boolean 0) = some m_f' ∧ rS n (sl.set j none) s_f' m_t m_f' := by
  obtain ⟨h1, h2, rfl, rfl, h5, h6⟩ := h
  refine ⟨(sl.set j none).map eO, (sl.set j none).map fO, ?_, ?_, by rw [List.length_set]; exact h1, ?_, rfl, rfl, h5, ?_⟩
  · rw [tst_nI (by rw [List.length_map]; omega) (by rw [List.length_map, h1]; decide), List.map_set]; rfl
  · rw [nar_0, tst_nI (by rw [List.length_map]; omega) (by rw [List.length_map, h1]; decide), List.map_set]; rfl
  · intro i u hi
    by_cases hij : j = i
    · subst hij
      rw [List.getElem?_set_self (by omega)] at hi
      cases hi
    · rw [List.getElem?_set_ne hij] at hi
      exact h2 i u hi
  · intro i u hi
    by_cases hij : j = i
    · subst hij
      rw [List.getElem?_set_self (by omega)] at hi
      cases hi
    · rw [List.getElem?_set_ne hij] at hi
      exact h6 i u hi
theorem rH.push {n : Nat} {hi : List (Nat × Option Nat)} {h_k : Int32} {h_s : List Int32} {h_c : List Int64} {m_rc : Int32} {m_rs : List Int32} {m_rt : List Int64} {m_rf : List Int32} {sl : List (Option Nat)} {s_f m_t : List Int64} {m_f : List Int32} (h : rH n hi h_k h_s h_c m_rc m_rs m_rt m_rf) (hS : rS n sl s_f m_t m_f) {j : Nat} (hj : j < 8) {o : Option Nat} (ho : sl[j]? = some o) :
    ∃ rX rM, f_X4_remember (nI j) (eO o) h_k h_s h_c = some rX ∧ f_X8_record (nI j) m_rc m_t m_f m_rs m_rt m_rf = some rM ∧ rH n (hpush hi j o) rX.1 rX.2.1 rX.2.2 rM.1 rM.2.1 rM.2.2.1 rM.2.2.2 := by
  obtain ⟨rX, e1, e2⟩ := X_remember h.2.1 j o
  obtain ⟨s1, s2, s3, rfl, s5, s6⟩ := hS
  obtain ⟨rM, e3, e4⟩ := M_record h.2.2 s1 s5 s6 hj ho
  refine ⟨rX, rM, e1, e3, ?_, e2, e4⟩
  intro q hq
  unfold hpush at hq
  rcases List.mem_append.mp hq with hq | hq
  · refine h.1 q ?_
    split at hq
    · exact List.mem_of_mem_tail hq
    · exact hq
  · rcases List.mem_singleton.mp hq with rfl
    exact ⟨hj, fun t ht => s2 j t (by rw [ho]; exact congrArg some ht)⟩
/-- a function is stored -/
theorem p_store {n : Nat} {hi : List (Nat × Option Nat)} {h_k : Int32} {h_s : List Int32} {h_c : List Int64} {m_rc : Int32} {m_rs : List Int32} {m_rt : List Int64} {m_rf : List Int32} {sl : List (Option Nat)} {s_f m_t : List Int64} {m_f : List Int32} (hn : n ≤ 5) (hS : rS n sl s_f m_t m_f) (h : rH n hi h_k h_s h_c m_rc m_rs m_rt m_rf) {j : Nat} (hj : j < 8) {t : Nat} (ht : t < tabs n) :
    ∃ (z : Int32) (s_f' : List Int64) (h_k' : Int32) (h_s' : List Int32) (h_c' : List Int64) (m_rc' : Int32) (m_t' : List Int64) (m_f' m_rs' : List Int32) (m_rt' : List Int64) (m_rf' : List Int32) (sl' : List (Option Nat)) (hi' : List (Nat × Option Nat)), f_X7_store (nI j) (lN t) s_f h_k h_s h_c = some (z, s_f', h_k', h_s', h_c') ∧ f_X8_store (nI j) (lN t) (nI (pts n)) m_rc m_t m_f m_rs m_rt m_rf = some (z, m_rc', m_t', m_f', m_rs', m_rt', m_rf') ∧ rS n sl' s_f' m_t' m_f' ∧ rH n hi' h_k' h_s' h_c' m_rc' m_rs' m_rt' m_rf' ∧ ¬ z < 0 := by
  obtain ⟨o, o1, o2, o3⟩ := hS.ld hj
  obtain ⟨rX, rM, e1, e2, e3⟩ := h.push hS hj o1
  obtain ⟨s_f', m_t', m_f', a1, a2, a3, a4⟩ := hS.set hj ht
  refine ⟨nI (pop t), s_f', rX.1, rX.2.1, rX.2.2, rM.1, m_t', m_f', rM.2.1, rM.2.2.1, rM.2.2.2, _, _, ?_, ?_, a4, e3, nI_pos (by have := fb_ct_le (fun j => t.testBit j) 32; unfold pop; omega)⟩
  · unfold f_X7_store
    rw [o2, Option.bind_some, e1, Option.bind_some, a1, Option.bind_some, X_pop hn ht]
  · unfold f_X8_store
    rw [e2, Option.bind_some, a2, Option.bind_some, a3, Option.bind_some, M_pop hn ht, Option.bind_some]
