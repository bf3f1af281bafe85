/-! written by wip/whole/main.py out of the bytecode: a pure function for each method, and its contract -/
def f_X3_primeAt (a0 : Int32) (g_k : Int32) (g_p : List Int32) : Option (Int32) := (if (f_X7_isIndex a0 g_k) = 0 then some (-1) else (tld g_p a0).bind fun r2 => some r2)
set_option maxRecDepth 20000 in
set_option maxHeartbeats 4000000 in
theorem ev_X3_primeAt {l : Launch} {E : tEn} {cr : Value} {tl : tHp} {x_hs : Int32} {s_n : Int32} {s_sp : Int64} {s_sb : Int64} {s_sc : Int32} {s_f : List Int64} {s_st : List Int32} {v_n : Int32} {v_sp : Int64} {v_sb : Int64} {v_sc : Int32} {v_f : List Int64} {v_st : List Int32} {h_k : Int32} {h_s : List Int32} {h_c : List Int64} {g_k : Int32} {g_v : Int32} {g_p : List Int32} {g_a : List Int32} {g_t : List Int32} {c_k : Int32} {c_t : List Int32} {c_p : List Int32} {i_l : Int32} {i_n : Int32} {i_f : Int64} {i_p : Int32} {i_o : Int32} {i_b : List Int32} {w_l : Int32} {w_s : List Int32} {x_e : List Int32} {x_l : List Int32} {a0 : Int32} {res : Int32} (hf : f_X3_primeAt a0 g_k g_p = some res) : tEv l E yX3_primeAt cX3_primeAt 2 (some .int) 2 0 0 [.ref 10, .int a0] (encX x_hs s_n s_sp s_sb s_sc s_f s_st v_n v_sp v_sb v_sc v_f v_st h_k h_s h_c g_k g_v g_p g_a g_t c_k c_t c_p i_l i_n i_f i_p i_o i_b w_l w_s x_e x_l cr tl) (fun r h' => r = some (.int res) ∧ h' = encX x_hs s_n s_sp s_sb s_sc s_f s_st v_n v_sp v_sb v_sc v_f v_st h_k h_s h_c g_k g_v g_p g_a g_t c_k c_t c_p i_l i_n i_f i_p i_o i_b w_l w_s x_e x_l cr tl) := by
  refine tEv.of (own := RX3) (ini := false) (L := [(0, .ref 10), (1, .int a0)]) (by decide +kernel) rfl (fun h9 => nomatch h9) rfl (Nat.le_of_ble_eq_true rfl) ?_
  rw [f_X3_primeAt] at hf
  refine g_iload_n 1 (q := 1) dX3_primeAt_0 rfl rfl ?_
  refine g_aload_n 0 (q := 2) dX3_primeAt_1 rfl rfl ?_
  refine g_get (q := 5) fl_X3_15 dX3_primeAt_2 rfl rfl rfl ?_
  refine g_callS (k2 := 0) (n2 := 0) (q := 8) (as := [.int a0, .int g_k]) (st := []) (st1 := [.int (f_X7_isIndex a0 g_k)]) tm_X7_isIndex ml_X3_54 ts_X7_isIndex dX3_primeAt_5 rfl ev_X7_isIndex rfl rfl (Nat.le_of_ble_eq_true rfl) (by decide) rfl rfl (Or.inl rfl) rfl ?_
  refine g_if_eq (t := 20) (q := 11) dX3_primeAt_8 (by decide) rfl (fun c1 => ?_) (fun c1 => ?_)
  · rw [if_pos c1] at hf
    refine g_iconst (q := 21) (v := (-1)) dX3_primeAt_20 rfl rfl ?_
    have hf := Option.some.inj hf
    subst hf
    exact g_ireturn dX3_primeAt_21 rfl ⟨rfl, rfl⟩
  · rw [if_neg c1] at hf
    refine g_aload_n 0 (q := 12) dX3_primeAt_11 rfl rfl ?_
    refine g_get (q := 15) fl_X3_9 dX3_primeAt_12 rfl rfl rfl ?_
    refine g_iload_n 1 (q := 16) dX3_primeAt_15 rfl rfl ?_
    obtain ⟨r2, e3, hf⟩ := Option.bind_eq_some_iff.mp hf
    refine g_iaload (q := 17) dX3_primeAt_16 rfl rfl e3 ?_
    refine g_goto (t := 21) dX3_primeAt_17 (by decide) ?_
    have hf := Option.some.inj hf
    subst hf
    exact g_ireturn dX3_primeAt_21 rfl ⟨rfl, rfl⟩
def f_X7_primeImplicant (a0 : Int32) (a1 : Int32) (s_n : Int32) (s_f : List Int64) (g_k : Int32) (g_v : Int32) (g_p : List Int32) (g_a : List Int32) : Option (Int32 × Int32 × Int32 × List Int32 × List Int32) := (f_X7_drawGraph a0 s_n s_f g_k g_v g_p g_a).bind fun r1 => (if r1.1 = 0 then (f_X3_primeAt a1 (r1.2.1) (r1.2.2.2.1)).bind fun r4 => some (r4, r1.2.1, r1.2.2.1, r1.2.2.2.1, r1.2.2.2.2) else some (r1.1, r1.2.1, r1.2.2.1, r1.2.2.2.1, r1.2.2.2.2))
set_option maxRecDepth 20000 in
set_option maxHeartbeats 4000000 in
theorem ev_X7_primeImplicant {l : Launch} {E : tEn} {cr : Value} {tl : tHp} {x_hs : Int32} {s_n : Int32} {s_sp : Int64} {s_sb : Int64} {s_sc : Int32} {s_f : List Int64} {s_st : List Int32} {v_n : Int32} {v_sp : Int64} {v_sb : Int64} {v_sc : Int32} {v_f : List Int64} {v_st : List Int32} {h_k : Int32} {h_s : List Int32} {h_c : List Int64} {g_k : Int32} {g_v : Int32} {g_p : List Int32} {g_a : List Int32} {g_t : List Int32} {c_k : Int32} {c_t : List Int32} {c_p : List Int32} {i_l : Int32} {i_n : Int32} {i_f : Int64} {i_p : Int32} {i_o : Int32} {i_b : List Int32} {w_l : Int32} {w_s : List Int32} {x_e : List Int32} {x_l : List Int32} {a0 : Int32} {a1 : Int32} {res : Int32 × Int32 × Int32 × List Int32 × List Int32} (hf : f_X7_primeImplicant a0 a1 s_n s_f g_k g_v g_p g_a = some res) : tEv l E yX7_primeImplicant cX7_primeImplicant 4 (some .int) 6 0 0 [.ref 0, .int a0, .int a1] (encX x_hs s_n s_sp s_sb s_sc s_f s_st v_n v_sp v_sb v_sc v_f v_st h_k h_s h_c g_k g_v g_p g_a g_t c_k c_t c_p i_l i_n i_f i_p i_o i_b w_l w_s x_e x_l cr tl) (fun r h' => r = some (.int res.1) ∧ h' = encX x_hs s_n s_sp s_sb s_sc s_f s_st v_n v_sp v_sb v_sc v_f v_st h_k h_s h_c (res.2.1) (res.2.2.1) (res.2.2.2.1) (res.2.2.2.2) g_t c_k c_t c_p i_l i_n i_f i_p i_o i_b w_l w_s x_e x_l cr tl) := by
  refine tEv.of (own := RX7) (ini := false) (L := [(0, .ref 0), (1, .int a0), (2, .int a1)]) (by decide +kernel) rfl (fun h9 => nomatch h9) rfl (Nat.le_of_ble_eq_true rfl) ?_
  rw [f_X7_primeImplicant] at hf
  refine g_aload_n 0 (q := 1) dX7_primeImplicant_0 rfl rfl ?_
  refine g_iload_n 1 (q := 2) dX7_primeImplicant_1 rfl rfl ?_
  obtain ⟨r1, e2, hf⟩ := Option.bind_eq_some_iff.mp hf
  refine g_callV (a := 0) (k2 := 0) (n2 := 0) (q := 5) (as := [.int a0]) (st := []) (st1 := [.int r1.1]) tm_X7_drawGraph ml_X7_125 ti_X7_drawGraph rfl rfl dX7_primeImplicant_2 rfl (ev_X7_drawGraph e2) rfl rfl (Nat.le_of_ble_eq_true rfl) (by decide) rfl rfl (Or.inl (encX_len.trans encX_len.symm)) rfl ?_
  refine g_istore_n (q := 6) (L' := [(0, .ref 0), (1, .int a0), (2, .int a1), (3, .int r1.1)]) dX7_primeImplicant_5 rfl (by decide) rfl ?_
  refine g_iload_n 3 (q := 7) dX7_primeImplicant_6 rfl rfl ?_
  refine g_if_eq (t := 14) (q := 10) dX7_primeImplicant_7 (by decide) rfl (fun c3 => ?_) (fun c3 => ?_)
  · rw [if_pos c3] at hf
    refine g_aload_n 0 (q := 15) dX7_primeImplicant_14 rfl rfl ?_
    refine g_get (q := 18) fl_X7_33 dX7_primeImplicant_15 rfl rfl rfl ?_
    refine g_iload_n 2 (q := 19) dX7_primeImplicant_18 rfl rfl ?_
    obtain ⟨r4, e5, hf⟩ := Option.bind_eq_some_iff.mp hf
    refine g_callV (a := 10) (k2 := 0) (n2 := 0) (q := 22) (as := [.int a1]) (st := []) (st1 := [.int r4]) tm_X3_primeAt ml_X7_131 ti_X3_primeAt rfl rfl dX7_primeImplicant_19 rfl (ev_X3_primeAt e5) rfl rfl (Nat.le_of_ble_eq_true rfl) (by decide) rfl rfl (Or.inl rfl) rfl ?_
    have hf := Option.some.inj hf
    subst hf
    exact g_ireturn dX7_primeImplicant_22 rfl ⟨rfl, rfl⟩
  · rw [if_neg c3] at hf
    refine g_iload_n 3 (q := 11) dX7_primeImplicant_10 rfl rfl ?_
    refine g_goto (t := 22) dX7_primeImplicant_11 (by decide) ?_
    have hf := Option.some.inj hf
    subst hf
    exact g_ireturn dX7_primeImplicant_22 rfl ⟨rfl, rfl⟩
def f_X7_isVariable (a0 : Int32) (s_n : Int32) : Int32 := (f_X7_isIndex a0 s_n)
theorem bl_X7_isVariable (a0 : Int32) (s_n : Int32) : f_X7_isVariable a0 s_n = 0 ∨ f_X7_isVariable a0 s_n = 1 := by
  unfold f_X7_isVariable
  repeat' split
  all_goals first | exact Or.inl rfl | exact Or.inr rfl | exact bl_X7_isIndex _ _
set_option maxRecDepth 20000 in
set_option maxHeartbeats 4000000 in
theorem ev_X7_isVariable {l : Launch} {E : tEn} {cr : Value} {tl : tHp} {x_hs : Int32} {s_n : Int32} {s_sp : Int64} {s_sb : Int64} {s_sc : Int32} {s_f : List Int64} {s_st : List Int32} {v_n : Int32} {v_sp : Int64} {v_sb : Int64} {v_sc : Int32} {v_f : List Int64} {v_st : List Int32} {h_k : Int32} {h_s : List Int32} {h_c : List Int64} {g_k : Int32} {g_v : Int32} {g_p : List Int32} {g_a : List Int32} {g_t : List Int32} {c_k : Int32} {c_t : List Int32} {c_p : List Int32} {i_l : Int32} {i_n : Int32} {i_f : Int64} {i_p : Int32} {i_o : Int32} {i_b : List Int32} {w_l : Int32} {w_s : List Int32} {x_e : List Int32} {x_l : List Int32} {a0 : Int32} : tEv l E yX7_isVariable cX7_isVariable 2 (some .boolean) 2 0 0 [.ref 0, .int a0] (encX x_hs s_n s_sp s_sb s_sc s_f s_st v_n v_sp v_sb v_sc v_f v_st h_k h_s h_c g_k g_v g_p g_a g_t c_k c_t c_p i_l i_n i_f i_p i_o i_b w_l w_s x_e x_l cr tl) (fun r h' => r = some (.int (f_X7_isVariable a0 s_n)) ∧ h' = encX x_hs s_n s_sp s_sb s_sc s_f s_st v_n v_sp v_sb v_sc v_f v_st h_k h_s h_c g_k g_v g_p g_a g_t c_k c_t c_p i_l i_n i_f i_p i_o i_b w_l w_s x_e x_l cr tl) := by
  refine tEv.of (own := RX7) (ini := false) (L := [(0, .ref 0), (1, .int a0)]) (by decide +kernel) rfl (fun h9 => nomatch h9) rfl (Nat.le_of_ble_eq_true rfl) ?_
  obtain ⟨res, hf⟩ : ∃ z, f_X7_isVariable a0 s_n = z := ⟨_, rfl⟩
  rw [hf]
  rw [f_X7_isVariable] at hf
  refine g_iload_n 1 (q := 1) dX7_isVariable_0 rfl rfl ?_
  refine g_aload_n 0 (q := 2) dX7_isVariable_1 rfl rfl ?_
  refine g_get (q := 5) fl_X7_10 dX7_isVariable_2 rfl rfl rfl ?_
  refine g_get (q := 8) fl_X7_75 dX7_isVariable_5 rfl rfl rfl ?_
  refine g_callS (k2 := 0) (n2 := 0) (q := 11) (as := [.int a0, .int s_n]) (st := []) (st1 := [.int (f_X7_isIndex a0 s_n)]) tm_X7_isIndex ml_X7_140 ts_X7_isIndex dX7_isVariable_8 rfl ev_X7_isIndex rfl rfl (Nat.le_of_ble_eq_true rfl) (by decide) rfl rfl (Or.inl rfl) rfl ?_
  subst hf
  exact g_zreturn (bl_X7_isIndex a0 s_n) dX7_isVariable_11 rfl ⟨rfl, rfl⟩
def f_X7_neighbors (a0 : Int32) (a1 : Int32) (s_n : Int32) (s_f : List Int64) (g_k : Int32) (g_v : Int32) (g_p : List Int32) (g_a : List Int32) : Option (Int32 × Int32 × Int32 × List Int32 × List Int32) := (if (f_X7_isVariable a1 s_n) = 0 then some ((-2), g_k, g_v, g_p, g_a) else (f_X7_drawGraph a0 s_n s_f g_k g_v g_p g_a).bind fun r2 => (if r2.1 = 0 then (tld (r2.2.2.2.2) a1).bind fun r5 => some (r5, r2.2.1, r2.2.2.1, r2.2.2.2.1, r2.2.2.2.2) else some (r2.1, r2.2.1, r2.2.2.1, r2.2.2.2.1, r2.2.2.2.2)))
set_option maxRecDepth 20000 in
set_option maxHeartbeats 4000000 in
theorem ev_X7_neighbors {l : Launch} {E : tEn} {cr : Value} {tl : tHp} {x_hs : Int32} {s_n : Int32} {s_sp : Int64} {s_sb : Int64} {s_sc : Int32} {s_f : List Int64} {s_st : List Int32} {v_n : Int32} {v_sp : Int64} {v_sb : Int64} {v_sc : Int32} {v_f : List Int64} {v_st : List Int32} {h_k : Int32} {h_s : List Int32} {h_c : List Int64} {g_k : Int32} {g_v : Int32} {g_p : List Int32} {g_a : List Int32} {g_t : List Int32} {c_k : Int32} {c_t : List Int32} {c_p : List Int32} {i_l : Int32} {i_n : Int32} {i_f : Int64} {i_p : Int32} {i_o : Int32} {i_b : List Int32} {w_l : Int32} {w_s : List Int32} {x_e : List Int32} {x_l : List Int32} {a0 : Int32} {a1 : Int32} {res : Int32 × Int32 × Int32 × List Int32 × List Int32} (hf : f_X7_neighbors a0 a1 s_n s_f g_k g_v g_p g_a = some res) : tEv l E yX7_neighbors cX7_neighbors 4 (some .int) 6 0 0 [.ref 0, .int a0, .int a1] (encX x_hs s_n s_sp s_sb s_sc s_f s_st v_n v_sp v_sb v_sc v_f v_st h_k h_s h_c g_k g_v g_p g_a g_t c_k c_t c_p i_l i_n i_f i_p i_o i_b w_l w_s x_e x_l cr tl) (fun r h' => r = some (.int res.1) ∧ h' = encX x_hs s_n s_sp s_sb s_sc s_f s_st v_n v_sp v_sb v_sc v_f v_st h_k h_s h_c (res.2.1) (res.2.2.1) (res.2.2.2.1) (res.2.2.2.2) g_t c_k c_t c_p i_l i_n i_f i_p i_o i_b w_l w_s x_e x_l cr tl) := by
  refine tEv.of (own := RX7) (ini := false) (L := [(0, .ref 0), (1, .int a0), (2, .int a1)]) (by decide +kernel) rfl (fun h9 => nomatch h9) rfl (Nat.le_of_ble_eq_true rfl) ?_
  rw [f_X7_neighbors] at hf
  refine g_aload_n 0 (q := 1) dX7_neighbors_0 rfl rfl ?_
  refine g_iload_n 2 (q := 2) dX7_neighbors_1 rfl rfl ?_
  refine g_callV (a := 0) (k2 := 0) (n2 := 0) (q := 5) (as := [.int a1]) (st := []) (st1 := [.int (f_X7_isVariable a1 s_n)]) tm_X7_isVariable ml_X7_134 ti_X7_isVariable rfl rfl dX7_neighbors_2 rfl ev_X7_isVariable rfl rfl (Nat.le_of_ble_eq_true rfl) (by decide) rfl rfl (Or.inl rfl) rfl ?_
  refine g_if_ne (t := 11) (q := 8) dX7_neighbors_5 (by decide) rfl (fun c1 => ?_) (fun c1 => ?_)
  · rw [if_neg c1] at hf
    refine g_aload_n 0 (q := 12) dX7_neighbors_11 rfl rfl ?_
    refine g_iload_n 1 (q := 13) dX7_neighbors_12 rfl rfl ?_
    obtain ⟨r2, e3, hf⟩ := Option.bind_eq_some_iff.mp hf
    refine g_callV (a := 0) (k2 := 0) (n2 := 0) (q := 16) (as := [.int a0]) (st := []) (st1 := [.int r2.1]) tm_X7_drawGraph ml_X7_125 ti_X7_drawGraph rfl rfl dX7_neighbors_13 rfl (ev_X7_drawGraph e3) rfl rfl (Nat.le_of_ble_eq_true rfl) (by decide) rfl rfl (Or.inl (encX_len.trans encX_len.symm)) rfl ?_
    refine g_istore_n (q := 17) (L' := [(0, .ref 0), (1, .int a0), (2, .int a1), (3, .int r2.1)]) dX7_neighbors_16 rfl (by decide) rfl ?_
    refine g_iload_n 3 (q := 18) dX7_neighbors_17 rfl rfl ?_
    refine g_if_eq (t := 25) (q := 21) dX7_neighbors_18 (by decide) rfl (fun c4 => ?_) (fun c4 => ?_)
    · rw [if_pos c4] at hf
      refine g_aload_n 0 (q := 26) dX7_neighbors_25 rfl rfl ?_
      refine g_get (q := 29) fl_X7_33 dX7_neighbors_26 rfl rfl rfl ?_
      refine g_get (q := 32) fl_X7_137 dX7_neighbors_29 rfl rfl rfl ?_
      refine g_iload_n 2 (q := 33) dX7_neighbors_32 rfl rfl ?_
      obtain ⟨r5, e6, hf⟩ := Option.bind_eq_some_iff.mp hf
      refine g_iaload (q := 34) dX7_neighbors_33 rfl rfl e6 ?_
      have hf := Option.some.inj hf
      subst hf
      exact g_ireturn dX7_neighbors_34 rfl ⟨rfl, rfl⟩
    · rw [if_neg c4] at hf
      refine g_iload_n 3 (q := 22) dX7_neighbors_21 rfl rfl ?_
      refine g_goto (t := 34) dX7_neighbors_22 (by decide) ?_
      have hf := Option.some.inj hf
      subst hf
      exact g_ireturn dX7_neighbors_34 rfl ⟨rfl, rfl⟩
  · rw [if_pos c1] at hf
    refine g_bipush (q := 10) (v := (-2)) dX7_neighbors_8 rfl rfl ?_
    have hf := Option.some.inj hf
    subst hf
    exact g_ireturn dX7_neighbors_10 rfl ⟨rfl, rfl⟩
def f_X3_areAdjacent (a0 : Int32) (a1 : Int32) (g_a : List Int32) : Option (Int32) := (tld g_a a0).bind fun r1 => some (f_X7_hasVariable r1 a1)
set_option maxRecDepth 20000 in
set_option maxHeartbeats 4000000 in
theorem ev_X3_areAdjacent {l : Launch} {E : tEn} {cr : Value} {tl : tHp} {x_hs : Int32} {s_n : Int32} {s_sp : Int64} {s_sb : Int64} {s_sc : Int32} {s_f : List Int64} {s_st : List Int32} {v_n : Int32} {v_sp : Int64} {v_sb : Int64} {v_sc : Int32} {v_f : List Int64} {v_st : List Int32} {h_k : Int32} {h_s : List Int32} {h_c : List Int64} {g_k : Int32} {g_v : Int32} {g_p : List Int32} {g_a : List Int32} {g_t : List Int32} {c_k : Int32} {c_t : List Int32} {c_p : List Int32} {i_l : Int32} {i_n : Int32} {i_f : Int64} {i_p : Int32} {i_o : Int32} {i_b : List Int32} {w_l : Int32} {w_s : List Int32} {x_e : List Int32} {x_l : List Int32} {a0 : Int32} {a1 : Int32} {res : Int32} (hf : f_X3_areAdjacent a0 a1 g_a = some res) : tEv l E yX3_areAdjacent cX3_areAdjacent 3 (some .boolean) 2 0 0 [.ref 10, .int a0, .int a1] (encX x_hs s_n s_sp s_sb s_sc s_f s_st v_n v_sp v_sb v_sc v_f v_st h_k h_s h_c g_k g_v g_p g_a g_t c_k c_t c_p i_l i_n i_f i_p i_o i_b w_l w_s x_e x_l cr tl) (fun r h' => r = some (.int res) ∧ h' = encX x_hs s_n s_sp s_sb s_sc s_f s_st v_n v_sp v_sb v_sc v_f v_st h_k h_s h_c g_k g_v g_p g_a g_t c_k c_t c_p i_l i_n i_f i_p i_o i_b w_l w_s x_e x_l cr tl) := by
  refine tEv.of (own := RX3) (ini := false) (L := [(0, .ref 10), (1, .int a0), (2, .int a1)]) (by decide +kernel) rfl (fun h9 => nomatch h9) rfl (Nat.le_of_ble_eq_true rfl) ?_
  rw [f_X3_areAdjacent] at hf
  refine g_aload_n 0 (q := 1) dX3_areAdjacent_0 rfl rfl ?_
  refine g_get (q := 4) fl_X3_22 dX3_areAdjacent_1 rfl rfl rfl ?_
  refine g_iload_n 1 (q := 5) dX3_areAdjacent_4 rfl rfl ?_
  obtain ⟨r1, e2, hf⟩ := Option.bind_eq_some_iff.mp hf
  refine g_iaload (q := 6) dX3_areAdjacent_5 rfl rfl e2 ?_
  refine g_iload_n 2 (q := 7) dX3_areAdjacent_6 rfl rfl ?_
  refine g_callS (k2 := 0) (n2 := 0) (q := 10) (as := [.int r1, .int a1]) (st := []) (st1 := [.int (f_X7_hasVariable r1 a1)]) tm_X7_hasVariable ml_X3_50 ts_X7_hasVariable dX3_areAdjacent_7 rfl ev_X7_hasVariable rfl rfl (Nat.le_of_ble_eq_true rfl) (by decide) rfl rfl (Or.inl rfl) rfl ?_
  have hf := Option.some.inj hf
  subst hf
  exact g_zreturn (bl_X7_hasVariable r1 a1) dX3_areAdjacent_10 rfl ⟨rfl, rfl⟩
def f_X7_lowestVariable_L2 (w0 : Int32) (K : Option (Int32)) : Nat → Int32 → Option (Int32)
  | 0, _ => none
  | fu + 1, v1 => (if 5 ≤ v1 then K else (if (f_X7_hasVariable w0 v1) = 0 then f_X7_lowestVariable_L2 w0 K fu (v1 + 1) else some v1))
def f_X7_lowestVariable (a0 : Int32)  : Option (Int32) := f_X7_lowestVariable_L2 a0 (some (-1)) tFU 0
set_option maxRecDepth 20000 in
set_option maxHeartbeats 4000000 in
theorem ev_X7_lowestVariable_L2 {l : Launch} {E : tEn}   {h : tHp} {w0 : Int32} {K : Option (Int32)} (hK : ∀   (res : Int32), K  = some res → tG l E RX7 cX7_lowestVariable 2 (some .int) false 2 (fun r h' => r = some (.int res) ∧ h' = h) 0 0 23 [] [] (h)) :
    ∀ (fu : Nat) (v1 : Int32) (res : Int32), f_X7_lowestVariable_L2 w0 K fu v1 = some res → tG l E RX7 cX7_lowestVariable 2 (some .int) false 2 (fun r h' => r = some (.int res) ∧ h' = h) 0 0 2 [(0, .int w0), (1, .int v1)] [] (h) := by
  intro fu
  induction fu with
  | zero => intro v1 res hf; exact nomatch (show none = some res from hf)
  | succ fu ih =>
    intro v1 res hf
    rw [f_X7_lowestVariable_L2] at hf
    refine g_iload_n 1 (q := 3) dX7_lowestVariable_2 rfl rfl ?_
    refine g_iconst (q := 4) (v := 5) dX7_lowestVariable_3 rfl rfl ?_
    refine g_icmp_ge (t := 23) (q := 7) dX7_lowestVariable_4 (by decide) rfl (fun c1 => ?_) (fun c1 => ?_)
    · rw [if_pos c1] at hf
      refine g_ls [] rfl ?_
      exact hK _ hf
    · rw [if_neg c1] at hf
      refine g_iload_n 0 (q := 8) dX7_lowestVariable_7 rfl rfl ?_
      refine g_iload_n 1 (q := 9) dX7_lowestVariable_8 rfl rfl ?_
      refine g_callS (k2 := 0) (n2 := 0) (q := 12) (as := [.int w0, .int v1]) (st := []) (st1 := [.int (f_X7_hasVariable w0 v1)]) tm_X7_hasVariable ml_X7_315 ts_X7_hasVariable dX7_lowestVariable_9 rfl ev_X7_hasVariable rfl rfl (Nat.le_of_ble_eq_true rfl) (by decide) rfl rfl (Or.inl rfl) rfl ?_
      refine g_if_eq (t := 17) (q := 15) dX7_lowestVariable_12 (by decide) rfl (fun c2 => ?_) (fun c2 => ?_)
      · rw [if_pos c2] at hf
        refine g_iinc 1 (q := 20) (v := (v1 + 1)) (L' := [(0, .int w0), (1, .int (v1 + 1))]) dX7_lowestVariable_17 rfl rfl rfl (by decide) rfl ?_
        refine g_goto (t := 2) dX7_lowestVariable_20 (by decide) ?_
        refine g_ls [0, 1] rfl ?_
        exact ih _ _ hf
      · rw [if_neg c2] at hf
        refine g_iload_n 1 (q := 16) dX7_lowestVariable_15 rfl rfl ?_
        have hf := Option.some.inj hf
        subst hf
        exact g_ireturn dX7_lowestVariable_16 rfl ⟨rfl, rfl⟩
set_option maxRecDepth 20000 in
set_option maxHeartbeats 4000000 in
theorem ev_X7_lowestVariable {l : Launch} {E : tEn}  {h : tHp} {a0 : Int32} {res : Int32} (hf : f_X7_lowestVariable a0 = some res) : tEv l E yX7_lowestVariable cX7_lowestVariable 2 (some .int) 2 0 0 [.int a0] (h) (fun r h' => r = some (.int res) ∧ h' = h) := by
  refine tEv.of (own := RX7) (ini := false) (L := [(0, .int a0)]) (by decide +kernel) rfl (fun h9 => nomatch h9) rfl (Nat.le_of_ble_eq_true rfl) ?_
  rw [f_X7_lowestVariable] at hf
  refine g_iconst (q := 1) (v := 0) dX7_lowestVariable_0 rfl rfl ?_
  refine g_istore_n (q := 2) (L' := [(0, .int a0), (1, .int 0)]) dX7_lowestVariable_1 rfl (by decide) rfl ?_
  refine g_ls [0, 1] rfl ?_
  refine ev_X7_lowestVariable_L2 (fun  res hf => ?_) tFU _ res hf
  refine g_iconst (q := 24) (v := (-1)) dX7_lowestVariable_23 rfl rfl ?_
  have hf := Option.some.inj hf
  subst hf
  exact g_ireturn dX7_lowestVariable_24 rfl ⟨rfl, rfl⟩
def f_X3_findPathFrom_L2 (w1 : Int32) (w2 : Int32) (g_a : List Int32) (g_t : List Int32) (K : Option (Int32 × List Int32)) : Nat → Int32 → Option (Int32 × List Int32)
  | 0, _ => none
  | fu + 1, v3 => (if 5 ≤ v3 then K else (if v3 = w1 then f_X3_findPathFrom_L2 w1 w2 g_a g_t K fu (v3 + 1) else (f_X3_areAdjacent w2 v3 g_a).bind fun r3 => (if r3 = 0 then f_X3_findPathFrom_L2 w1 w2 g_a g_t K fu (v3 + 1) else (f_X3_areAdjacent w1 v3 g_a).bind fun r6 => (if r6 = 0 then (tld g_a v3).bind fun r9 => (tld g_a w1).bind fun r11 => (tld g_a w2).bind fun r13 => (f_X7_lowestVariable ((r9 &&& (r11 ^^^ (-1))) &&& (r13 ^^^ (-1)))).bind fun r15 => (if r15 = (-1) then f_X3_findPathFrom_L2 w1 w2 g_a g_t K fu (v3 + 1) else (tst g_t 0 w1).bind fun z18 => (tst z18 1 w2).bind fun z20 => (tst z20 2 v3).bind fun z22 => (tst z22 3 r15).bind fun z24 => some (1, z24)) else f_X3_findPathFrom_L2 w1 w2 g_a g_t K fu (v3 + 1)))))
def f_X3_findPathFrom (a0 : Int32) (a1 : Int32) (g_a : List Int32) (g_t : List Int32) : Option (Int32 × List Int32) := f_X3_findPathFrom_L2 a0 a1 g_a g_t (some (0, g_t)) tFU 0
set_option maxRecDepth 20000 in
set_option maxHeartbeats 4000000 in
theorem ev_X3_findPathFrom_L2 {l : Launch} {E : tEn} {cr : Value} {tl : tHp}  {x_hs : Int32} {s_n : Int32} {s_sp : Int64} {s_sb : Int64} {s_sc : Int32} {s_f : List Int64} {s_st : List Int32} {v_n : Int32} {v_sp : Int64} {v_sb : Int64} {v_sc : Int32} {v_f : List Int64} {v_st : List Int32} {h_k : Int32} {h_s : List Int32} {h_c : List Int64} {g_k : Int32} {g_v : Int32} {g_p : List Int32} {g_a : List Int32} {g_t : List Int32} {c_k : Int32} {c_t : List Int32} {c_p : List Int32} {i_l : Int32} {i_n : Int32} {i_f : Int64} {i_p : Int32} {i_o : Int32} {i_b : List Int32} {w_l : Int32} {w_s : List Int32} {x_e : List Int32} {x_l : List Int32} {w1 : Int32} {w2 : Int32} {K : Option (Int32 × List Int32)} (hK : ∀   (res : Int32 × List Int32), K  = some res → tG l E RX3 cX3_findPathFrom 5 (some .boolean) false 3 (fun r h' => r = some (.int res.1) ∧ h' = encX x_hs s_n s_sp s_sb s_sc s_f s_st v_n v_sp v_sb v_sc v_f v_st h_k h_s h_c g_k g_v g_p g_a (res.2) c_k c_t c_p i_l i_n i_f i_p i_o i_b w_l w_s x_e x_l cr tl) 0 0 105 [] [] (encX x_hs s_n s_sp s_sb s_sc s_f s_st v_n v_sp v_sb v_sc v_f v_st h_k h_s h_c g_k g_v g_p g_a g_t c_k c_t c_p i_l i_n i_f i_p i_o i_b w_l w_s x_e x_l cr tl)) :
    ∀ (fu : Nat) (v3 : Int32) (res : Int32 × List Int32), f_X3_findPathFrom_L2 w1 w2 g_a g_t K fu v3 = some res → tG l E RX3 cX3_findPathFrom 5 (some .boolean) false 3 (fun r h' => r = some (.int res.1) ∧ h' = encX x_hs s_n s_sp s_sb s_sc s_f s_st v_n v_sp v_sb v_sc v_f v_st h_k h_s h_c g_k g_v g_p g_a (res.2) c_k c_t c_p i_l i_n i_f i_p i_o i_b w_l w_s x_e x_l cr tl) 0 0 2 [(0, .ref 10), (1, .int w1), (2, .int w2), (3, .int v3)] [] (encX x_hs s_n s_sp s_sb s_sc s_f s_st v_n v_sp v_sb v_sc v_f v_st h_k h_s h_c g_k g_v g_p g_a g_t c_k c_t c_p i_l i_n i_f i_p i_o i_b w_l w_s x_e x_l cr tl) := by
  intro fu
  induction fu with
  | zero => intro v3 res hf; exact nomatch (show none = some res from hf)
  | succ fu ih =>
    intro v3 res hf
    rw [f_X3_findPathFrom_L2] at hf
    refine g_iload_n 3 (q := 3) dX3_findPathFrom_2 rfl rfl ?_
    refine g_iconst (q := 4) (v := 5) dX3_findPathFrom_3 rfl rfl ?_
    refine g_icmp_ge (t := 105) (q := 7) dX3_findPathFrom_4 (by decide) rfl (fun c1 => ?_) (fun c1 => ?_)
    · rw [if_pos c1] at hf
      refine g_ls [] rfl ?_
      exact hK _ hf
    · rw [if_neg c1] at hf
      refine g_iload_n 3 (q := 8) dX3_findPathFrom_7 rfl rfl ?_
      refine g_iload_n 1 (q := 9) dX3_findPathFrom_8 rfl rfl ?_
      refine g_icmp_eq (t := 99) (q := 12) dX3_findPathFrom_9 (by decide) rfl (fun c2 => ?_) (fun c2 => ?_)
      · rw [if_pos c2] at hf
        refine g_iinc 3 (q := 102) (v := (v3 + 1)) (L' := [(0, .ref 10), (1, .int w1), (2, .int w2), (3, .int (v3 + 1))]) dX3_findPathFrom_99 rfl rfl rfl (by decide) rfl ?_
        refine g_goto (t := 2) dX3_findPathFrom_102 (by decide) ?_
        refine g_ls [0, 1, 2, 3] rfl ?_
        exact ih _ _ hf
      · rw [if_neg c2] at hf
        refine g_aload_n 0 (q := 13) dX3_findPathFrom_12 rfl rfl ?_
        refine g_iload_n 2 (q := 14) dX3_findPathFrom_13 rfl rfl ?_
        refine g_iload_n 3 (q := 15) dX3_findPathFrom_14 rfl rfl ?_
        obtain ⟨r3, e4, hf⟩ := Option.bind_eq_some_iff.mp hf
        refine g_callV (a := 10) (k2 := 0) (n2 := 0) (q := 18) (as := [.int w2, .int v3]) (st := []) (st1 := [.int r3]) tm_X3_areAdjacent ml_X3_57 ti_X3_areAdjacent rfl rfl dX3_findPathFrom_15 rfl (ev_X3_areAdjacent e4) rfl rfl (Nat.le_of_ble_eq_true rfl) (by decide) rfl rfl (Or.inl rfl) rfl ?_
        refine g_if_eq (t := 99) (q := 21) dX3_findPathFrom_18 (by decide) rfl (fun c5 => ?_) (fun c5 => ?_)
        · rw [if_pos c5] at hf
          refine g_iinc 3 (q := 102) (v := (v3 + 1)) (L' := [(0, .ref 10), (1, .int w1), (2, .int w2), (3, .int (v3 + 1))]) dX3_findPathFrom_99 rfl rfl rfl (by decide) rfl ?_
          refine g_goto (t := 2) dX3_findPathFrom_102 (by decide) ?_
          refine g_ls [0, 1, 2, 3] rfl ?_
          exact ih _ _ hf
        · rw [if_neg c5] at hf
          refine g_aload_n 0 (q := 22) dX3_findPathFrom_21 rfl rfl ?_
          refine g_iload_n 1 (q := 23) dX3_findPathFrom_22 rfl rfl ?_
          refine g_iload_n 3 (q := 24) dX3_findPathFrom_23 rfl rfl ?_
          obtain ⟨r6, e7, hf⟩ := Option.bind_eq_some_iff.mp hf
          refine g_callV (a := 10) (k2 := 0) (n2 := 0) (q := 27) (as := [.int w1, .int v3]) (st := []) (st1 := [.int r6]) tm_X3_areAdjacent ml_X3_57 ti_X3_areAdjacent rfl rfl dX3_findPathFrom_24 rfl (ev_X3_areAdjacent e7) rfl rfl (Nat.le_of_ble_eq_true rfl) (by decide) rfl rfl (Or.inl rfl) rfl ?_
          refine g_if_eq (t := 33) (q := 30) dX3_findPathFrom_27 (by decide) rfl (fun c8 => ?_) (fun c8 => ?_)
          · rw [if_pos c8] at hf
            refine g_aload_n 0 (q := 34) dX3_findPathFrom_33 rfl rfl ?_
            refine g_get (q := 37) fl_X3_22 dX3_findPathFrom_34 rfl rfl rfl ?_
            refine g_iload_n 3 (q := 38) dX3_findPathFrom_37 rfl rfl ?_
            obtain ⟨r9, e10, hf⟩ := Option.bind_eq_some_iff.mp hf
            refine g_iaload (q := 39) dX3_findPathFrom_38 rfl rfl e10 ?_
            refine g_aload_n 0 (q := 40) dX3_findPathFrom_39 rfl rfl ?_
            refine g_get (q := 43) fl_X3_22 dX3_findPathFrom_40 rfl rfl rfl ?_
            refine g_iload_n 1 (q := 44) dX3_findPathFrom_43 rfl rfl ?_
            obtain ⟨r11, e12, hf⟩ := Option.bind_eq_some_iff.mp hf
            refine g_iaload (q := 45) dX3_findPathFrom_44 rfl rfl e12 ?_
            refine g_iconst (q := 46) (v := (-1)) dX3_findPathFrom_45 rfl rfl ?_
            refine g_ixor (q := 47) dX3_findPathFrom_46 rfl ?_
            refine g_iand (q := 48) dX3_findPathFrom_47 rfl ?_
            refine g_aload_n 0 (q := 49) dX3_findPathFrom_48 rfl rfl ?_
            refine g_get (q := 52) fl_X3_22 dX3_findPathFrom_49 rfl rfl rfl ?_
            refine g_iload_n 2 (q := 53) dX3_findPathFrom_52 rfl rfl ?_
            obtain ⟨r13, e14, hf⟩ := Option.bind_eq_some_iff.mp hf
            refine g_iaload (q := 54) dX3_findPathFrom_53 rfl rfl e14 ?_
            refine g_iconst (q := 55) (v := (-1)) dX3_findPathFrom_54 rfl rfl ?_
            refine g_ixor (q := 56) dX3_findPathFrom_55 rfl ?_
            refine g_iand (q := 57) dX3_findPathFrom_56 rfl ?_
            obtain ⟨r15, e16, hf⟩ := Option.bind_eq_some_iff.mp hf
            refine g_callS (k2 := 0) (n2 := 0) (q := 60) (as := [.int ((r9 &&& (r11 ^^^ (-1))) &&& (r13 ^^^ (-1)))]) (st := []) (st1 := [.int r15]) tm_X7_lowestVariable ml_X3_63 ts_X7_lowestVariable dX3_findPathFrom_57 rfl (ev_X7_lowestVariable e16) rfl rfl (Nat.le_of_ble_eq_true rfl) (by decide) rfl rfl (Or.inl rfl) rfl ?_
            refine g_istore (q := 62) (L' := [(0, .ref 10), (1, .int w1), (2, .int w2), (3, .int v3), (4, .int r15)]) dX3_findPathFrom_60 rfl (by decide) rfl ?_
            refine g_iload 4 (q := 64) dX3_findPathFrom_62 rfl rfl ?_
            refine g_iconst (q := 65) (v := (-1)) dX3_findPathFrom_64 rfl rfl ?_
            refine g_icmp_eq (t := 99) (q := 68) dX3_findPathFrom_65 (by decide) rfl (fun c17 => ?_) (fun c17 => ?_)
            · rw [if_pos c17] at hf
              refine g_iinc 3 (q := 102) (v := (v3 + 1)) (L' := [(0, .ref 10), (1, .int w1), (2, .int w2), (3, .int (v3 + 1)), (4, .int r15)]) dX3_findPathFrom_99 rfl rfl rfl (by decide) rfl ?_
              refine g_goto (t := 2) dX3_findPathFrom_102 (by decide) ?_
              refine g_ls [0, 1, 2, 3] rfl ?_
              exact ih _ _ hf
            · rw [if_neg c17] at hf
              refine g_aload_n 0 (q := 69) dX3_findPathFrom_68 rfl rfl ?_
              refine g_get (q := 72) fl_X3_25 dX3_findPathFrom_69 rfl rfl rfl ?_
              refine g_iconst (q := 73) (v := 0) dX3_findPathFrom_72 rfl rfl ?_
              refine g_iload_n 1 (q := 74) dX3_findPathFrom_73 rfl rfl ?_
              obtain ⟨z18, e19, hf⟩ := Option.bind_eq_some_iff.mp hf
              refine g_iastore (q := 75) (h' := encX x_hs s_n s_sp s_sb s_sc s_f s_st v_n v_sp v_sb v_sc v_f v_st h_k h_s h_c g_k g_v g_p g_a z18 c_k c_t c_p i_l i_n i_f i_p i_o i_b w_l w_s x_e x_l cr tl) dX3_findPathFrom_74 rfl rfl e19 rfl ?_
              refine g_aload_n 0 (q := 76) dX3_findPathFrom_75 rfl rfl ?_
              refine g_get (q := 79) fl_X3_25 dX3_findPathFrom_76 rfl rfl rfl ?_
              refine g_iconst (q := 80) (v := 1) dX3_findPathFrom_79 rfl rfl ?_
              refine g_iload_n 2 (q := 81) dX3_findPathFrom_80 rfl rfl ?_
              obtain ⟨z20, e21, hf⟩ := Option.bind_eq_some_iff.mp hf
              refine g_iastore (q := 82) (h' := encX x_hs s_n s_sp s_sb s_sc s_f s_st v_n v_sp v_sb v_sc v_f v_st h_k h_s h_c g_k g_v g_p g_a z20 c_k c_t c_p i_l i_n i_f i_p i_o i_b w_l w_s x_e x_l cr tl) dX3_findPathFrom_81 rfl rfl e21 rfl ?_
              refine g_aload_n 0 (q := 83) dX3_findPathFrom_82 rfl rfl ?_
              refine g_get (q := 86) fl_X3_25 dX3_findPathFrom_83 rfl rfl rfl ?_
              refine g_iconst (q := 87) (v := 2) dX3_findPathFrom_86 rfl rfl ?_
              refine g_iload_n 3 (q := 88) dX3_findPathFrom_87 rfl rfl ?_
              obtain ⟨z22, e23, hf⟩ := Option.bind_eq_some_iff.mp hf
              refine g_iastore (q := 89) (h' := encX x_hs s_n s_sp s_sb s_sc s_f s_st v_n v_sp v_sb v_sc v_f v_st h_k h_s h_c g_k g_v g_p g_a z22 c_k c_t c_p i_l i_n i_f i_p i_o i_b w_l w_s x_e x_l cr tl) dX3_findPathFrom_88 rfl rfl e23 rfl ?_
              refine g_aload_n 0 (q := 90) dX3_findPathFrom_89 rfl rfl ?_
              refine g_get (q := 93) fl_X3_25 dX3_findPathFrom_90 rfl rfl rfl ?_
              refine g_iconst (q := 94) (v := 3) dX3_findPathFrom_93 rfl rfl ?_
              refine g_iload 4 (q := 96) dX3_findPathFrom_94 rfl rfl ?_
              obtain ⟨z24, e25, hf⟩ := Option.bind_eq_some_iff.mp hf
              refine g_iastore (q := 97) (h' := encX x_hs s_n s_sp s_sb s_sc s_f s_st v_n v_sp v_sb v_sc v_f v_st h_k h_s h_c g_k g_v g_p g_a z24 c_k c_t c_p i_l i_n i_f i_p i_o i_b w_l w_s x_e x_l cr tl) dX3_findPathFrom_96 rfl rfl e25 rfl ?_
              refine g_iconst (q := 98) (v := 1) dX3_findPathFrom_97 rfl rfl ?_
              have hf := Option.some.inj hf
              subst hf
              exact g_zreturn (Or.inr rfl) dX3_findPathFrom_98 rfl ⟨rfl, rfl⟩
          · rw [if_neg c8] at hf
            refine g_goto (t := 99) dX3_findPathFrom_30 (by decide) ?_
            refine g_iinc 3 (q := 102) (v := (v3 + 1)) (L' := [(0, .ref 10), (1, .int w1), (2, .int w2), (3, .int (v3 + 1))]) dX3_findPathFrom_99 rfl rfl rfl (by decide) rfl ?_
            refine g_goto (t := 2) dX3_findPathFrom_102 (by decide) ?_
            refine g_ls [0, 1, 2, 3] rfl ?_
            exact ih _ _ hf
set_option maxRecDepth 20000 in
set_option maxHeartbeats 4000000 in
theorem ev_X3_findPathFrom {l : Launch} {E : tEn} {cr : Value} {tl : tHp} {x_hs : Int32} {s_n : Int32} {s_sp : Int64} {s_sb : Int64} {s_sc : Int32} {s_f : List Int64} {s_st : List Int32} {v_n : Int32} {v_sp : Int64} {v_sb : Int64} {v_sc : Int32} {v_f : List Int64} {v_st : List Int32} {h_k : Int32} {h_s : List Int32} {h_c : List Int64} {g_k : Int32} {g_v : Int32} {g_p : List Int32} {g_a : List Int32} {g_t : List Int32} {c_k : Int32} {c_t : List Int32} {c_p : List Int32} {i_l : Int32} {i_n : Int32} {i_f : Int64} {i_p : Int32} {i_o : Int32} {i_b : List Int32} {w_l : Int32} {w_s : List Int32} {x_e : List Int32} {x_l : List Int32} {a0 : Int32} {a1 : Int32} {res : Int32 × List Int32} (hf : f_X3_findPathFrom a0 a1 g_a g_t = some res) : tEv l E yX3_findPathFrom cX3_findPathFrom 5 (some .boolean) 3 0 0 [.ref 10, .int a0, .int a1] (encX x_hs s_n s_sp s_sb s_sc s_f s_st v_n v_sp v_sb v_sc v_f v_st h_k h_s h_c g_k g_v g_p g_a g_t c_k c_t c_p i_l i_n i_f i_p i_o i_b w_l w_s x_e x_l cr tl) (fun r h' => r = some (.int res.1) ∧ h' = encX x_hs s_n s_sp s_sb s_sc s_f s_st v_n v_sp v_sb v_sc v_f v_st h_k h_s h_c g_k g_v g_p g_a (res.2) c_k c_t c_p i_l i_n i_f i_p i_o i_b w_l w_s x_e x_l cr tl) := by
  refine tEv.of (own := RX3) (ini := false) (L := [(0, .ref 10), (1, .int a0), (2, .int a1)]) (by decide +kernel) rfl (fun h9 => nomatch h9) rfl (Nat.le_of_ble_eq_true rfl) ?_
  rw [f_X3_findPathFrom] at hf
  refine g_iconst (q := 1) (v := 0) dX3_findPathFrom_0 rfl rfl ?_
  refine g_istore_n (q := 2) (L' := [(0, .ref 10), (1, .int a0), (2, .int a1), (3, .int 0)]) dX3_findPathFrom_1 rfl (by decide) rfl ?_
  refine g_ls [0, 1, 2, 3] rfl ?_
  refine ev_X3_findPathFrom_L2 (fun  res hf => ?_) tFU _ res hf
  refine g_iconst (q := 106) (v := 0) dX3_findPathFrom_105 rfl rfl ?_
  have hf := Option.some.inj hf
  subst hf
  exact g_zreturn (Or.inl rfl) dX3_findPathFrom_106 rfl ⟨rfl, rfl⟩
def f_X3_findPath_L9 (w1 : Int32) (g_a : List Int32) (K : List Int32 → Option (Int32 × List Int32)) : Nat → Int32 → List Int32 → Option (Int32 × List Int32)
  | 0, _, _ => none
  | fu + 1, v2, g_t => (if 5 ≤ v2 then K  g_t else (f_X3_areAdjacent w1 v2 g_a).bind fun r3 => (if r3 = 0 then f_X3_findPath_L9 w1 g_a K fu (v2 + 1) g_t else (f_X3_findPathFrom w1 v2 g_a g_t).bind fun r6 => (if r6.1 = 0 then f_X3_findPath_L9 w1 g_a K fu (v2 + 1) (r6.2) else some (1, r6.2))))
def f_X3_findPath_L2 (g_a : List Int32) (K : List Int32 → Option (Int32 × List Int32)) : Nat → Int32 → List Int32 → Option (Int32 × List Int32)
  | 0, _, _ => none
  | fu + 1, v1, g_t => (if 5 ≤ v1 then K  g_t else f_X3_findPath_L9 v1 g_a (fun k9 => f_X3_findPath_L2 g_a K fu (v1 + 1) k9) tFU 0 g_t)
def f_X3_findPath  (g_a : List Int32) (g_t : List Int32) : Option (Int32 × List Int32) := f_X3_findPath_L2 g_a (fun k10 => some (0, k10)) tFU 0 g_t
set_option maxRecDepth 20000 in
set_option maxHeartbeats 4000000 in
theorem ev_X3_findPath_L9 {l : Launch} {E : tEn} {cr : Value} {tl : tHp}  {x_hs : Int32} {s_n : Int32} {s_sp : Int64} {s_sb : Int64} {s_sc : Int32} {s_f : List Int64} {s_st : List Int32} {v_n : Int32} {v_sp : Int64} {v_sb : Int64} {v_sc : Int32} {v_f : List Int64} {v_st : List Int32} {h_k : Int32} {h_s : List Int32} {h_c : List Int64} {g_k : Int32} {g_v : Int32} {g_p : List Int32} {g_a : List Int32} {c_k : Int32} {c_t : List Int32} {c_p : List Int32} {i_l : Int32} {i_n : Int32} {i_f : Int64} {i_p : Int32} {i_o : Int32} {i_b : List Int32} {w_l : Int32} {w_s : List Int32} {x_e : List Int32} {x_l : List Int32} {w1 : Int32} {K : List Int32 → Option (Int32 × List Int32)} (hK : ∀  (g_t : List Int32) (res : Int32 × List Int32), K g_t = some res → tG l E RX3 cX3_findPath 3 (some .boolean) false 4 (fun r h' => r = some (.int res.1) ∧ h' = encX x_hs s_n s_sp s_sb s_sc s_f s_st v_n v_sp v_sb v_sc v_f v_st h_k h_s h_c g_k g_v g_p g_a (res.2) c_k c_t c_p i_l i_n i_f i_p i_o i_b w_l w_s x_e x_l cr tl) 0 0 40 [(0, .ref 10), (1, .int w1)] [] (encX x_hs s_n s_sp s_sb s_sc s_f s_st v_n v_sp v_sb v_sc v_f v_st h_k h_s h_c g_k g_v g_p g_a g_t c_k c_t c_p i_l i_n i_f i_p i_o i_b w_l w_s x_e x_l cr tl)) :
    ∀ (fu : Nat) (v2 : Int32) (g_t : List Int32) (res : Int32 × List Int32), f_X3_findPath_L9 w1 g_a K fu v2 g_t = some res → tG l E RX3 cX3_findPath 3 (some .boolean) false 4 (fun r h' => r = some (.int res.1) ∧ h' = encX x_hs s_n s_sp s_sb s_sc s_f s_st v_n v_sp v_sb v_sc v_f v_st h_k h_s h_c g_k g_v g_p g_a (res.2) c_k c_t c_p i_l i_n i_f i_p i_o i_b w_l w_s x_e x_l cr tl) 0 0 9 [(0, .ref 10), (1, .int w1), (2, .int v2)] [] (encX x_hs s_n s_sp s_sb s_sc s_f s_st v_n v_sp v_sb v_sc v_f v_st h_k h_s h_c g_k g_v g_p g_a g_t c_k c_t c_p i_l i_n i_f i_p i_o i_b w_l w_s x_e x_l cr tl) := by
  intro fu
  induction fu with
  | zero => intro v2 g_t res hf; exact nomatch (show none = some res from hf)
  | succ fu ih =>
    intro v2 g_t res hf
    rw [f_X3_findPath_L9] at hf
    refine g_iload_n 2 (q := 10) dX3_findPath_9 rfl rfl ?_
    refine g_iconst (q := 11) (v := 5) dX3_findPath_10 rfl rfl ?_
    refine g_icmp_ge (t := 40) (q := 14) dX3_findPath_11 (by decide) rfl (fun c2 => ?_) (fun c2 => ?_)
    · rw [if_pos c2] at hf
      refine g_ls [0, 1] rfl ?_
      exact hK _ _ hf
    · rw [if_neg c2] at hf
      refine g_aload_n 0 (q := 15) dX3_findPath_14 rfl rfl ?_
      refine g_iload_n 1 (q := 16) dX3_findPath_15 rfl rfl ?_
      refine g_iload_n 2 (q := 17) dX3_findPath_16 rfl rfl ?_
      obtain ⟨r3, e4, hf⟩ := Option.bind_eq_some_iff.mp hf
      refine g_callV (a := 10) (k2 := 0) (n2 := 0) (q := 20) (as := [.int w1, .int v2]) (st := []) (st1 := [.int r3]) tm_X3_areAdjacent ml_X3_57 ti_X3_areAdjacent rfl rfl dX3_findPath_17 rfl (ev_X3_areAdjacent e4) rfl rfl (Nat.le_of_ble_eq_true rfl) (by decide) rfl rfl (Or.inl rfl) rfl ?_
      refine g_if_eq (t := 34) (q := 23) dX3_findPath_20 (by decide) rfl (fun c5 => ?_) (fun c5 => ?_)
      · rw [if_pos c5] at hf
        refine g_iinc 2 (q := 37) (v := (v2 + 1)) (L' := [(0, .ref 10), (1, .int w1), (2, .int (v2 + 1))]) dX3_findPath_34 rfl rfl rfl (by decide) rfl ?_
        refine g_goto (t := 9) dX3_findPath_37 (by decide) ?_
        refine g_ls [0, 1, 2] rfl ?_
        exact ih _ _ _ hf
      · rw [if_neg c5] at hf
        refine g_aload_n 0 (q := 24) dX3_findPath_23 rfl rfl ?_
        refine g_iload_n 1 (q := 25) dX3_findPath_24 rfl rfl ?_
        refine g_iload_n 2 (q := 26) dX3_findPath_25 rfl rfl ?_
        obtain ⟨r6, e7, hf⟩ := Option.bind_eq_some_iff.mp hf
        refine g_callV (a := 10) (k2 := 0) (n2 := 0) (q := 29) (as := [.int w1, .int v2]) (st := []) (st1 := [.int r6.1]) tm_X3_findPathFrom ml_X3_60 ti_X3_findPathFrom rfl rfl dX3_findPath_26 rfl (ev_X3_findPathFrom e7) rfl rfl (Nat.le_of_ble_eq_true rfl) (by decide) rfl rfl (Or.inl (encX_len.trans encX_len.symm)) rfl ?_
        refine g_if_eq (t := 34) (q := 32) dX3_findPath_29 (by decide) rfl (fun c8 => ?_) (fun c8 => ?_)
        · rw [if_pos c8] at hf
          refine g_iinc 2 (q := 37) (v := (v2 + 1)) (L' := [(0, .ref 10), (1, .int w1), (2, .int (v2 + 1))]) dX3_findPath_34 rfl rfl rfl (by decide) rfl ?_
          refine g_goto (t := 9) dX3_findPath_37 (by decide) ?_
          refine g_ls [0, 1, 2] rfl ?_
          exact ih _ _ _ hf
        · rw [if_neg c8] at hf
          refine g_iconst (q := 33) (v := 1) dX3_findPath_32 rfl rfl ?_
          have hf := Option.some.inj hf
          subst hf
          exact g_zreturn (Or.inr rfl) dX3_findPath_33 rfl ⟨rfl, rfl⟩
set_option maxRecDepth 20000 in
set_option maxHeartbeats 4000000 in
theorem ev_X3_findPath_L2 {l : Launch} {E : tEn} {cr : Value} {tl : tHp}  {x_hs : Int32} {s_n : Int32} {s_sp : Int64} {s_sb : Int64} {s_sc : Int32} {s_f : List Int64} {s_st : List Int32} {v_n : Int32} {v_sp : Int64} {v_sb : Int64} {v_sc : Int32} {v_f : List Int64} {v_st : List Int32} {h_k : Int32} {h_s : List Int32} {h_c : List Int64} {g_k : Int32} {g_v : Int32} {g_p : List Int32} {g_a : List Int32} {c_k : Int32} {c_t : List Int32} {c_p : List Int32} {i_l : Int32} {i_n : Int32} {i_f : Int64} {i_p : Int32} {i_o : Int32} {i_b : List Int32} {w_l : Int32} {w_s : List Int32} {x_e : List Int32} {x_l : List Int32}  {K : List Int32 → Option (Int32 × List Int32)} (hK : ∀  (g_t : List Int32) (res : Int32 × List Int32), K g_t = some res → tG l E RX3 cX3_findPath 3 (some .boolean) false 4 (fun r h' => r = some (.int res.1) ∧ h' = encX x_hs s_n s_sp s_sb s_sc s_f s_st v_n v_sp v_sb v_sc v_f v_st h_k h_s h_c g_k g_v g_p g_a (res.2) c_k c_t c_p i_l i_n i_f i_p i_o i_b w_l w_s x_e x_l cr tl) 0 0 46 [] [] (encX x_hs s_n s_sp s_sb s_sc s_f s_st v_n v_sp v_sb v_sc v_f v_st h_k h_s h_c g_k g_v g_p g_a g_t c_k c_t c_p i_l i_n i_f i_p i_o i_b w_l w_s x_e x_l cr tl)) :
    ∀ (fu : Nat) (v1 : Int32) (g_t : List Int32) (res : Int32 × List Int32), f_X3_findPath_L2 g_a K fu v1 g_t = some res → tG l E RX3 cX3_findPath 3 (some .boolean) false 4 (fun r h' => r = some (.int res.1) ∧ h' = encX x_hs s_n s_sp s_sb s_sc s_f s_st v_n v_sp v_sb v_sc v_f v_st h_k h_s h_c g_k g_v g_p g_a (res.2) c_k c_t c_p i_l i_n i_f i_p i_o i_b w_l w_s x_e x_l cr tl) 0 0 2 [(0, .ref 10), (1, .int v1)] [] (encX x_hs s_n s_sp s_sb s_sc s_f s_st v_n v_sp v_sb v_sc v_f v_st h_k h_s h_c g_k g_v g_p g_a g_t c_k c_t c_p i_l i_n i_f i_p i_o i_b w_l w_s x_e x_l cr tl) := by
  intro fu
  induction fu with
  | zero => intro v1 g_t res hf; exact nomatch (show none = some res from hf)
  | succ fu ih =>
    intro v1 g_t res hf
    rw [f_X3_findPath_L2] at hf
    refine g_iload_n 1 (q := 3) dX3_findPath_2 rfl rfl ?_
    refine g_iconst (q := 4) (v := 5) dX3_findPath_3 rfl rfl ?_
    refine g_icmp_ge (t := 46) (q := 7) dX3_findPath_4 (by decide) rfl (fun c1 => ?_) (fun c1 => ?_)
    · rw [if_pos c1] at hf
      refine g_ls [] rfl ?_
      exact hK _ _ hf
    · rw [if_neg c1] at hf
      refine g_iconst (q := 8) (v := 0) dX3_findPath_7 rfl rfl ?_
      refine g_istore_n (q := 9) (L' := [(0, .ref 10), (1, .int v1), (2, .int 0)]) dX3_findPath_8 rfl (by decide) rfl ?_
      refine g_ls [0, 1, 2] rfl ?_
      refine ev_X3_findPath_L9 (fun k9 res hf => ?_) tFU _ _ res hf
      refine g_iinc 1 (q := 43) (v := (v1 + 1)) (L' := [(0, .ref 10), (1, .int (v1 + 1))]) dX3_findPath_40 rfl rfl rfl (by decide) rfl ?_
      refine g_goto (t := 2) dX3_findPath_43 (by decide) ?_
      refine g_ls [0, 1] rfl ?_
      exact ih _ _ _ hf
set_option maxRecDepth 20000 in
set_option maxHeartbeats 4000000 in
theorem ev_X3_findPath {l : Launch} {E : tEn} {cr : Value} {tl : tHp} {x_hs : Int32} {s_n : Int32} {s_sp : Int64} {s_sb : Int64} {s_sc : Int32} {s_f : List Int64} {s_st : List Int32} {v_n : Int32} {v_sp : Int64} {v_sb : Int64} {v_sc : Int32} {v_f : List Int64} {v_st : List Int32} {h_k : Int32} {h_s : List Int32} {h_c : List Int64} {g_k : Int32} {g_v : Int32} {g_p : List Int32} {g_a : List Int32} {g_t : List Int32} {c_k : Int32} {c_t : List Int32} {c_p : List Int32} {i_l : Int32} {i_n : Int32} {i_f : Int64} {i_p : Int32} {i_o : Int32} {i_b : List Int32} {w_l : Int32} {w_s : List Int32} {x_e : List Int32} {x_l : List Int32}  {res : Int32 × List Int32} (hf : f_X3_findPath g_a g_t = some res) : tEv l E yX3_findPath cX3_findPath 3 (some .boolean) 4 0 0 [.ref 10] (encX x_hs s_n s_sp s_sb s_sc s_f s_st v_n v_sp v_sb v_sc v_f v_st h_k h_s h_c g_k g_v g_p g_a g_t c_k c_t c_p i_l i_n i_f i_p i_o i_b w_l w_s x_e x_l cr tl) (fun r h' => r = some (.int res.1) ∧ h' = encX x_hs s_n s_sp s_sb s_sc s_f s_st v_n v_sp v_sb v_sc v_f v_st h_k h_s h_c g_k g_v g_p g_a (res.2) c_k c_t c_p i_l i_n i_f i_p i_o i_b w_l w_s x_e x_l cr tl) := by
  refine tEv.of (own := RX3) (ini := false) (L := [(0, .ref 10)]) (by decide +kernel) rfl (fun h9 => nomatch h9) rfl (Nat.le_of_ble_eq_true rfl) ?_
  rw [f_X3_findPath] at hf
  refine g_iconst (q := 1) (v := 0) dX3_findPath_0 rfl rfl ?_
  refine g_istore_n (q := 2) (L' := [(0, .ref 10), (1, .int 0)]) dX3_findPath_1 rfl (by decide) rfl ?_
  refine g_ls [0, 1] rfl ?_
  refine ev_X3_findPath_L2 (fun k10 res hf => ?_) tFU _ _ res hf
  refine g_iconst (q := 47) (v := 0) dX3_findPath_46 rfl rfl ?_
  have hf := Option.some.inj hf
  subst hf
  exact g_zreturn (Or.inl rfl) dX3_findPath_47 rfl ⟨rfl, rfl⟩
def f_X7_inducedPath (a0 : Int32) (a1 : Int32) (s_n : Int32) (s_f : List Int64) (g_k : Int32) (g_v : Int32) (g_p : List Int32) (g_a : List Int32) (g_t : List Int32) : Option (Int32 × Int32 × Int32 × List Int32 × List Int32 × List Int32) := (if (f_X7_isIndex a1 4) = 0 then some ((-2), g_k, g_v, g_p, g_a, g_t) else (f_X7_drawGraph a0 s_n s_f g_k g_v g_p g_a).bind fun r2 => (if r2.1 = 0 then (f_X3_findPath (r2.2.2.2.2) g_t).bind fun r5 => (if r5.1 = 0 then some ((-1), r2.2.1, r2.2.2.1, r2.2.2.2.1, r2.2.2.2.2, r5.2) else (tld (r5.2) a1).bind fun r8 => some (r8, r2.2.1, r2.2.2.1, r2.2.2.2.1, r2.2.2.2.2, r5.2)) else some (r2.1, r2.2.1, r2.2.2.1, r2.2.2.2.1, r2.2.2.2.2, g_t)))
set_option maxRecDepth 20000 in
set_option maxHeartbeats 4000000 in
theorem ev_X7_inducedPath {l : Launch} {E : tEn} {cr : Value} {tl : tHp} {x_hs : Int32} {s_n : Int32} {s_sp : Int64} {s_sb : Int64} {s_sc : Int32} {s_f : List Int64} {s_st : List Int32} {v_n : Int32} {v_sp : Int64} {v_sb : Int64} {v_sc : Int32} {v_f : List Int64} {v_st : List Int32} {h_k : Int32} {h_s : List Int32} {h_c : List Int64} {g_k : Int32} {g_v : Int32} {g_p : List Int32} {g_a : List Int32} {g_t : List Int32} {c_k : Int32} {c_t : List Int32} {c_p : List Int32} {i_l : Int32} {i_n : Int32} {i_f : Int64} {i_p : Int32} {i_o : Int32} {i_b : List Int32} {w_l : Int32} {w_s : List Int32} {x_e : List Int32} {x_l : List Int32} {a0 : Int32} {a1 : Int32} {res : Int32 × Int32 × Int32 × List Int32 × List Int32 × List Int32} (hf : f_X7_inducedPath a0 a1 s_n s_f g_k g_v g_p g_a g_t = some res) : tEv l E yX7_inducedPath cX7_inducedPath 4 (some .int) 6 0 0 [.ref 0, .int a0, .int a1] (encX x_hs s_n s_sp s_sb s_sc s_f s_st v_n v_sp v_sb v_sc v_f v_st h_k h_s h_c g_k g_v g_p g_a g_t c_k c_t c_p i_l i_n i_f i_p i_o i_b w_l w_s x_e x_l cr tl) (fun r h' => r = some (.int res.1) ∧ h' = encX x_hs s_n s_sp s_sb s_sc s_f s_st v_n v_sp v_sb v_sc v_f v_st h_k h_s h_c (res.2.1) (res.2.2.1) (res.2.2.2.1) (res.2.2.2.2.1) (res.2.2.2.2.2) c_k c_t c_p i_l i_n i_f i_p i_o i_b w_l w_s x_e x_l cr tl) := by
  refine tEv.of (own := RX7) (ini := false) (L := [(0, .ref 0), (1, .int a0), (2, .int a1)]) (by decide +kernel) rfl (fun h9 => nomatch h9) rfl (Nat.le_of_ble_eq_true rfl) ?_
  rw [f_X7_inducedPath] at hf
  refine g_iload_n 2 (q := 1) dX7_inducedPath_0 rfl rfl ?_
  refine g_iconst (q := 2) (v := 4) dX7_inducedPath_1 rfl rfl ?_
  refine g_callS (k2 := 0) (n2 := 0) (q := 5) (as := [.int a1, .int 4]) (st := []) (st1 := [.int (f_X7_isIndex a1 4)]) tm_X7_isIndex ml_X7_140 ts_X7_isIndex dX7_inducedPath_2 rfl ev_X7_isIndex rfl rfl (Nat.le_of_ble_eq_true rfl) (by decide) rfl rfl (Or.inl rfl) rfl ?_
  refine g_if_ne (t := 11) (q := 8) dX7_inducedPath_5 (by decide) rfl (fun c1 => ?_) (fun c1 => ?_)
  · rw [if_neg c1] at hf
    refine g_aload_n 0 (q := 12) dX7_inducedPath_11 rfl rfl ?_
    refine g_iload_n 1 (q := 13) dX7_inducedPath_12 rfl rfl ?_
    obtain ⟨r2, e3, hf⟩ := Option.bind_eq_some_iff.mp hf
    refine g_callV (a := 0) (k2 := 0) (n2 := 0) (q := 16) (as := [.int a0]) (st := []) (st1 := [.int r2.1]) tm_X7_drawGraph ml_X7_125 ti_X7_drawGraph rfl rfl dX7_inducedPath_13 rfl (ev_X7_drawGraph e3) rfl rfl (Nat.le_of_ble_eq_true rfl) (by decide) rfl rfl (Or.inl (encX_len.trans encX_len.symm)) rfl ?_
    refine g_istore_n (q := 17) (L' := [(0, .ref 0), (1, .int a0), (2, .int a1), (3, .int r2.1)]) dX7_inducedPath_16 rfl (by decide) rfl ?_
    refine g_iload_n 3 (q := 18) dX7_inducedPath_17 rfl rfl ?_
    refine g_if_eq (t := 23) (q := 21) dX7_inducedPath_18 (by decide) rfl (fun c4 => ?_) (fun c4 => ?_)
    · rw [if_pos c4] at hf
      refine g_aload_n 0 (q := 24) dX7_inducedPath_23 rfl rfl ?_
      refine g_get (q := 27) fl_X7_33 dX7_inducedPath_24 rfl rfl rfl ?_
      obtain ⟨r5, e6, hf⟩ := Option.bind_eq_some_iff.mp hf
      refine g_callV (a := 10) (k2 := 0) (n2 := 0) (q := 30) (as := []) (st := []) (st1 := [.int r5.1]) tm_X3_findPath ml_X7_144 ti_X3_findPath rfl rfl dX7_inducedPath_27 rfl (ev_X3_findPath e6) rfl rfl (Nat.le_of_ble_eq_true rfl) (by decide) rfl rfl (Or.inl (encX_len.trans encX_len.symm)) rfl ?_
      refine g_if_eq (t := 45) (q := 33) dX7_inducedPath_30 (by decide) rfl (fun c7 => ?_) (fun c7 => ?_)
      · rw [if_pos c7] at hf
        refine g_iconst (q := 46) (v := (-1)) dX7_inducedPath_45 rfl rfl ?_
        have hf := Option.some.inj hf
        subst hf
        exact g_ireturn dX7_inducedPath_46 rfl ⟨rfl, rfl⟩
      · rw [if_neg c7] at hf
        refine g_aload_n 0 (q := 34) dX7_inducedPath_33 rfl rfl ?_
        refine g_get (q := 37) fl_X7_33 dX7_inducedPath_34 rfl rfl rfl ?_
        refine g_get (q := 40) fl_X7_148 dX7_inducedPath_37 rfl rfl rfl ?_
        refine g_iload_n 2 (q := 41) dX7_inducedPath_40 rfl rfl ?_
        obtain ⟨r8, e9, hf⟩ := Option.bind_eq_some_iff.mp hf
        refine g_iaload (q := 42) dX7_inducedPath_41 rfl rfl e9 ?_
        refine g_goto (t := 46) dX7_inducedPath_42 (by decide) ?_
        have hf := Option.some.inj hf
        subst hf
        exact g_ireturn dX7_inducedPath_46 rfl ⟨rfl, rfl⟩
    · rw [if_neg c4] at hf
      refine g_iload_n 3 (q := 22) dX7_inducedPath_21 rfl rfl ?_
      have hf := Option.some.inj hf
      subst hf
      exact g_ireturn dX7_inducedPath_22 rfl ⟨rfl, rfl⟩
  · rw [if_pos c1] at hf
    refine g_bipush (q := 10) (v := (-2)) dX7_inducedPath_8 rfl rfl ?_
    have hf := Option.some.inj hf
    subst hf
    exact g_ireturn dX7_inducedPath_10 rfl ⟨rfl, rfl⟩
def f_X3_isMaximalClique_L7 (w1 : Int32) (g_a : List Int32) (K : Int32 → Option (Int32)) : Nat → Int32 → Int32 → Option (Int32)
  | 0, _, _ => none
  | fu + 1, v2, v3 => (if 5 ≤ v3 then K v2 else (if (f_X7_hasVariable w1 v3) = 0 then f_X3_isMaximalClique_L7 w1 g_a K fu v2 (v3 + 1) else (tld g_a v3).bind fun r3 => (if ((w1 &&& (((1 : Int32) <<< (v3 &&& 31)) ^^^ (-1))) &&& (r3 ^^^ (-1))) = 0 then (tld g_a v3).bind fun r6 => f_X3_isMaximalClique_L7 w1 g_a K fu (v2 &&& r6) (v3 + 1) else some 0)))
def f_X3_isMaximalClique (a0 : Int32) (g_v : Int32) (g_a : List Int32) : Option (Int32) := f_X3_isMaximalClique_L7 a0 g_a (fun y8 => (if y8 = 0 then some 1 else some 0)) tFU g_v 0
set_option maxRecDepth 20000 in
set_option maxHeartbeats 4000000 in
theorem ev_X3_isMaximalClique_L7 {l : Launch} {E : tEn} {cr : Value} {tl : tHp}  {x_hs : Int32} {s_n : Int32} {s_sp : Int64} {s_sb : Int64} {s_sc : Int32} {s_f : List Int64} {s_st : List Int32} {v_n : Int32} {v_sp : Int64} {v_sb : Int64} {v_sc : Int32} {v_f : List Int64} {v_st : List Int32} {h_k : Int32} {h_s : List Int32} {h_c : List Int64} {g_k : Int32} {g_v : Int32} {g_p : List Int32} {g_a : List Int32} {g_t : List Int32} {c_k : Int32} {c_t : List Int32} {c_p : List Int32} {i_l : Int32} {i_n : Int32} {i_f : Int64} {i_p : Int32} {i_o : Int32} {i_b : List Int32} {w_l : Int32} {w_s : List Int32} {x_e : List Int32} {x_l : List Int32} {w1 : Int32} {K : Int32 → Option (Int32)} (hK : ∀ (v2 : Int32)  (res : Int32), K v2 = some res → tG l E RX3 cX3_isMaximalClique 5 (some .boolean) false 2 (fun r h' => r = some (.int res) ∧ h' = encX x_hs s_n s_sp s_sb s_sc s_f s_st v_n v_sp v_sb v_sc v_f v_st h_k h_s h_c g_k g_v g_p g_a g_t c_k c_t c_p i_l i_n i_f i_p i_o i_b w_l w_s x_e x_l cr tl) 0 0 60 [(2, .int v2)] [] (encX x_hs s_n s_sp s_sb s_sc s_f s_st v_n v_sp v_sb v_sc v_f v_st h_k h_s h_c g_k g_v g_p g_a g_t c_k c_t c_p i_l i_n i_f i_p i_o i_b w_l w_s x_e x_l cr tl)) :
    ∀ (fu : Nat) (v2 : Int32) (v3 : Int32) (res : Int32), f_X3_isMaximalClique_L7 w1 g_a K fu v2 v3 = some res → tG l E RX3 cX3_isMaximalClique 5 (some .boolean) false 2 (fun r h' => r = some (.int res) ∧ h' = encX x_hs s_n s_sp s_sb s_sc s_f s_st v_n v_sp v_sb v_sc v_f v_st h_k h_s h_c g_k g_v g_p g_a g_t c_k c_t c_p i_l i_n i_f i_p i_o i_b w_l w_s x_e x_l cr tl) 0 0 7 [(0, .ref 10), (1, .int w1), (2, .int v2), (3, .int v3)] [] (encX x_hs s_n s_sp s_sb s_sc s_f s_st v_n v_sp v_sb v_sc v_f v_st h_k h_s h_c g_k g_v g_p g_a g_t c_k c_t c_p i_l i_n i_f i_p i_o i_b w_l w_s x_e x_l cr tl) := by
  intro fu
  induction fu with
  | zero => intro v2 v3 res hf; exact nomatch (show none = some res from hf)
  | succ fu ih =>
    intro v2 v3 res hf
    rw [f_X3_isMaximalClique_L7] at hf
    refine g_iload_n 3 (q := 8) dX3_isMaximalClique_7 rfl rfl ?_
    refine g_iconst (q := 9) (v := 5) dX3_isMaximalClique_8 rfl rfl ?_
    refine g_icmp_ge (t := 60) (q := 12) dX3_isMaximalClique_9 (by decide) rfl (fun c1 => ?_) (fun c1 => ?_)
    · rw [if_pos c1] at hf
      refine g_ls [2] rfl ?_
      exact hK _ _ hf
    · rw [if_neg c1] at hf
      refine g_iload_n 1 (q := 13) dX3_isMaximalClique_12 rfl rfl ?_
      refine g_iload_n 3 (q := 14) dX3_isMaximalClique_13 rfl rfl ?_
      refine g_callS (k2 := 0) (n2 := 0) (q := 17) (as := [.int w1, .int v3]) (st := []) (st1 := [.int (f_X7_hasVariable w1 v3)]) tm_X7_hasVariable ml_X3_50 ts_X7_hasVariable dX3_isMaximalClique_14 rfl ev_X7_hasVariable rfl rfl (Nat.le_of_ble_eq_true rfl) (by decide) rfl rfl (Or.inl rfl) rfl ?_
      refine g_if_eq (t := 54) (q := 20) dX3_isMaximalClique_17 (by decide) rfl (fun c2 => ?_) (fun c2 => ?_)
      · rw [if_pos c2] at hf
        refine g_iinc 3 (q := 57) (v := (v3 + 1)) (L' := [(0, .ref 10), (1, .int w1), (2, .int v2), (3, .int (v3 + 1))]) dX3_isMaximalClique_54 rfl rfl rfl (by decide) rfl ?_
        refine g_goto (t := 7) dX3_isMaximalClique_57 (by decide) ?_
        refine g_ls [0, 1, 2, 3] rfl ?_
        exact ih _ _ _ hf
      · rw [if_neg c2] at hf
        refine g_iload_n 1 (q := 21) dX3_isMaximalClique_20 rfl rfl ?_
        refine g_iconst (q := 22) (v := 1) dX3_isMaximalClique_21 rfl rfl ?_
        refine g_iload_n 3 (q := 23) dX3_isMaximalClique_22 rfl rfl ?_
        refine g_ishl (q := 24) dX3_isMaximalClique_23 rfl ?_
        refine g_iconst (q := 25) (v := (-1)) dX3_isMaximalClique_24 rfl rfl ?_
        refine g_ixor (q := 26) dX3_isMaximalClique_25 rfl ?_
        refine g_iand (q := 27) dX3_isMaximalClique_26 rfl ?_
        refine g_istore (q := 29) (L' := [(0, .ref 10), (1, .int w1), (2, .int v2), (3, .int v3), (4, .int (w1 &&& (((1 : Int32) <<< (v3 &&& 31)) ^^^ (-1))))]) dX3_isMaximalClique_27 rfl (by decide) rfl ?_
        refine g_iload 4 (q := 31) dX3_isMaximalClique_29 rfl rfl ?_
        refine g_aload_n 0 (q := 32) dX3_isMaximalClique_31 rfl rfl ?_
        refine g_get (q := 35) fl_X3_22 dX3_isMaximalClique_32 rfl rfl rfl ?_
        refine g_iload_n 3 (q := 36) dX3_isMaximalClique_35 rfl rfl ?_
        obtain ⟨r3, e4, hf⟩ := Option.bind_eq_some_iff.mp hf
        refine g_iaload (q := 37) dX3_isMaximalClique_36 rfl rfl e4 ?_
        refine g_iconst (q := 38) (v := (-1)) dX3_isMaximalClique_37 rfl rfl ?_
        refine g_ixor (q := 39) dX3_isMaximalClique_38 rfl ?_
        refine g_iand (q := 40) dX3_isMaximalClique_39 rfl ?_
        refine g_if_eq (t := 45) (q := 43) dX3_isMaximalClique_40 (by decide) rfl (fun c5 => ?_) (fun c5 => ?_)
        · rw [if_pos c5] at hf
          refine g_iload_n 2 (q := 46) dX3_isMaximalClique_45 rfl rfl ?_
          refine g_aload_n 0 (q := 47) dX3_isMaximalClique_46 rfl rfl ?_
          refine g_get (q := 50) fl_X3_22 dX3_isMaximalClique_47 rfl rfl rfl ?_
          refine g_iload_n 3 (q := 51) dX3_isMaximalClique_50 rfl rfl ?_
          obtain ⟨r6, e7, hf⟩ := Option.bind_eq_some_iff.mp hf
          refine g_iaload (q := 52) dX3_isMaximalClique_51 rfl rfl e7 ?_
          refine g_iand (q := 53) dX3_isMaximalClique_52 rfl ?_
          refine g_istore_n (q := 54) (L' := [(0, .ref 10), (1, .int w1), (2, .int (v2 &&& r6)), (3, .int v3), (4, .int (w1 &&& (((1 : Int32) <<< (v3 &&& 31)) ^^^ (-1))))]) dX3_isMaximalClique_53 rfl (by decide) rfl ?_
          refine g_iinc 3 (q := 57) (v := (v3 + 1)) (L' := [(0, .ref 10), (1, .int w1), (2, .int (v2 &&& r6)), (3, .int (v3 + 1)), (4, .int (w1 &&& (((1 : Int32) <<< (v3 &&& 31)) ^^^ (-1))))]) dX3_isMaximalClique_54 rfl rfl rfl (by decide) rfl ?_
          refine g_goto (t := 7) dX3_isMaximalClique_57 (by decide) ?_
          refine g_ls [0, 1, 2, 3] rfl ?_
          exact ih _ _ _ hf
        · rw [if_neg c5] at hf
          refine g_iconst (q := 44) (v := 0) dX3_isMaximalClique_43 rfl rfl ?_
          have hf := Option.some.inj hf
          subst hf
          exact g_zreturn (Or.inl rfl) dX3_isMaximalClique_44 rfl ⟨rfl, rfl⟩
set_option maxRecDepth 20000 in
set_option maxHeartbeats 4000000 in
theorem ev_X3_isMaximalClique {l : Launch} {E : tEn} {cr : Value} {tl : tHp} {x_hs : Int32} {s_n : Int32} {s_sp : Int64} {s_sb : Int64} {s_sc : Int32} {s_f : List Int64} {s_st : List Int32} {v_n : Int32} {v_sp : Int64} {v_sb : Int64} {v_sc : Int32} {v_f : List Int64} {v_st : List Int32} {h_k : Int32} {h_s : List Int32} {h_c : List Int64} {g_k : Int32} {g_v : Int32} {g_p : List Int32} {g_a : List Int32} {g_t : List Int32} {c_k : Int32} {c_t : List Int32} {c_p : List Int32} {i_l : Int32} {i_n : Int32} {i_f : Int64} {i_p : Int32} {i_o : Int32} {i_b : List Int32} {w_l : Int32} {w_s : List Int32} {x_e : List Int32} {x_l : List Int32} {a0 : Int32} {res : Int32} (hf : f_X3_isMaximalClique a0 g_v g_a = some res) : tEv l E yX3_isMaximalClique cX3_isMaximalClique 5 (some .boolean) 2 0 0 [.ref 10, .int a0] (encX x_hs s_n s_sp s_sb s_sc s_f s_st v_n v_sp v_sb v_sc v_f v_st h_k h_s h_c g_k g_v g_p g_a g_t c_k c_t c_p i_l i_n i_f i_p i_o i_b w_l w_s x_e x_l cr tl) (fun r h' => r = some (.int res) ∧ h' = encX x_hs s_n s_sp s_sb s_sc s_f s_st v_n v_sp v_sb v_sc v_f v_st h_k h_s h_c g_k g_v g_p g_a g_t c_k c_t c_p i_l i_n i_f i_p i_o i_b w_l w_s x_e x_l cr tl) := by
  refine tEv.of (own := RX3) (ini := false) (L := [(0, .ref 10), (1, .int a0)]) (by decide +kernel) rfl (fun h9 => nomatch h9) rfl (Nat.le_of_ble_eq_true rfl) ?_
  rw [f_X3_isMaximalClique] at hf
  refine g_aload_n 0 (q := 1) dX3_isMaximalClique_0 rfl rfl ?_
  refine g_get (q := 4) fl_X3_19 dX3_isMaximalClique_1 rfl rfl rfl ?_
  refine g_istore_n (q := 5) (L' := [(0, .ref 10), (1, .int a0), (2, .int g_v)]) dX3_isMaximalClique_4 rfl (by decide) rfl ?_
  refine g_iconst (q := 6) (v := 0) dX3_isMaximalClique_5 rfl rfl ?_
  refine g_istore_n (q := 7) (L' := [(0, .ref 10), (1, .int a0), (2, .int g_v), (3, .int 0)]) dX3_isMaximalClique_6 rfl (by decide) rfl ?_
  refine g_ls [0, 1, 2, 3] rfl ?_
  refine ev_X3_isMaximalClique_L7 (fun y8 res hf => ?_) tFU _ _ res hf
  refine g_iload_n 0 (q := 61) dX3_isMaximalClique_60 rfl rfl ?_
  refine g_if_ne (t := 68) (q := 64) dX3_isMaximalClique_61 (by decide) rfl (fun c9 => ?_) (fun c9 => ?_)
  · rw [if_neg c9] at hf
    refine g_iconst (q := 69) (v := 0) dX3_isMaximalClique_68 rfl rfl ?_
    have hf := Option.some.inj hf
    subst hf
    exact g_zreturn (Or.inl rfl) dX3_isMaximalClique_69 rfl ⟨rfl, rfl⟩
  · rw [if_pos c9] at hf
    refine g_iconst (q := 65) (v := 1) dX3_isMaximalClique_64 rfl rfl ?_
    refine g_goto (t := 69) dX3_isMaximalClique_65 (by decide) ?_
    have hf := Option.some.inj hf
    subst hf
    exact g_zreturn (Or.inr rfl) dX3_isMaximalClique_69 rfl ⟨rfl, rfl⟩
def f_X3_isPrime_L2 (w1 : Int32) (g_k : Int32) (g_p : List Int32) (K : Option (Int32)) : Nat → Int32 → Option (Int32)
  | 0, _ => none
  | fu + 1, v2 => (if g_k ≤ v2 then K else (tld g_p v2).bind fun r2 => (if r2 = w1 then some 1 else f_X3_isPrime_L2 w1 g_k g_p K fu (v2 + 1)))
def f_X3_isPrime (a0 : Int32) (g_k : Int32) (g_p : List Int32) : Option (Int32) := f_X3_isPrime_L2 a0 g_k g_p (some 0) tFU 0
set_option maxRecDepth 20000 in
set_option maxHeartbeats 4000000 in
theorem ev_X3_isPrime_L2 {l : Launch} {E : tEn} {cr : Value} {tl : tHp}  {x_hs : Int32} {s_n : Int32} {s_sp : Int64} {s_sb : Int64} {s_sc : Int32} {s_f : List Int64} {s_st : List Int32} {v_n : Int32} {v_sp : Int64} {v_sb : Int64} {v_sc : Int32} {v_f : List Int64} {v_st : List Int32} {h_k : Int32} {h_s : List Int32} {h_c : List Int64} {g_k : Int32} {g_v : Int32} {g_p : List Int32} {g_a : List Int32} {g_t : List Int32} {c_k : Int32} {c_t : List Int32} {c_p : List Int32} {i_l : Int32} {i_n : Int32} {i_f : Int64} {i_p : Int32} {i_o : Int32} {i_b : List Int32} {w_l : Int32} {w_s : List Int32} {x_e : List Int32} {x_l : List Int32} {w1 : Int32} {K : Option (Int32)} (hK : ∀   (res : Int32), K  = some res → tG l E RX3 cX3_isPrime 3 (some .boolean) false 1 (fun r h' => r = some (.int res) ∧ h' = encX x_hs s_n s_sp s_sb s_sc s_f s_st v_n v_sp v_sb v_sc v_f v_st h_k h_s h_c g_k g_v g_p g_a g_t c_k c_t c_p i_l i_n i_f i_p i_o i_b w_l w_s x_e x_l cr tl) 0 0 28 [] [] (encX x_hs s_n s_sp s_sb s_sc s_f s_st v_n v_sp v_sb v_sc v_f v_st h_k h_s h_c g_k g_v g_p g_a g_t c_k c_t c_p i_l i_n i_f i_p i_o i_b w_l w_s x_e x_l cr tl)) :
    ∀ (fu : Nat) (v2 : Int32) (res : Int32), f_X3_isPrime_L2 w1 g_k g_p K fu v2 = some res → tG l E RX3 cX3_isPrime 3 (some .boolean) false 1 (fun r h' => r = some (.int res) ∧ h' = encX x_hs s_n s_sp s_sb s_sc s_f s_st v_n v_sp v_sb v_sc v_f v_st h_k h_s h_c g_k g_v g_p g_a g_t c_k c_t c_p i_l i_n i_f i_p i_o i_b w_l w_s x_e x_l cr tl) 0 0 2 [(0, .ref 10), (1, .int w1), (2, .int v2)] [] (encX x_hs s_n s_sp s_sb s_sc s_f s_st v_n v_sp v_sb v_sc v_f v_st h_k h_s h_c g_k g_v g_p g_a g_t c_k c_t c_p i_l i_n i_f i_p i_o i_b w_l w_s x_e x_l cr tl) := by
  intro fu
  induction fu with
  | zero => intro v2 res hf; exact nomatch (show none = some res from hf)
  | succ fu ih =>
    intro v2 res hf
    rw [f_X3_isPrime_L2] at hf
    refine g_iload_n 2 (q := 3) dX3_isPrime_2 rfl rfl ?_
    refine g_aload_n 0 (q := 4) dX3_isPrime_3 rfl rfl ?_
    refine g_get (q := 7) fl_X3_15 dX3_isPrime_4 rfl rfl rfl ?_
    refine g_icmp_ge (t := 28) (q := 10) dX3_isPrime_7 (by decide) rfl (fun c1 => ?_) (fun c1 => ?_)
    · rw [if_pos c1] at hf
      refine g_ls [] rfl ?_
      exact hK _ hf
    · rw [if_neg c1] at hf
      refine g_aload_n 0 (q := 11) dX3_isPrime_10 rfl rfl ?_
      refine g_get (q := 14) fl_X3_9 dX3_isPrime_11 rfl rfl rfl ?_
      refine g_iload_n 2 (q := 15) dX3_isPrime_14 rfl rfl ?_
      obtain ⟨r2, e3, hf⟩ := Option.bind_eq_some_iff.mp hf
      refine g_iaload (q := 16) dX3_isPrime_15 rfl rfl e3 ?_
      refine g_iload_n 1 (q := 17) dX3_isPrime_16 rfl rfl ?_
      refine g_icmp_ne (t := 22) (q := 20) dX3_isPrime_17 (by decide) rfl (fun c4 => ?_) (fun c4 => ?_)
      · rw [if_neg c4] at hf
        refine g_iinc 2 (q := 25) (v := (v2 + 1)) (L' := [(0, .ref 10), (1, .int w1), (2, .int (v2 + 1))]) dX3_isPrime_22 rfl rfl rfl (by decide) rfl ?_
        refine g_goto (t := 2) dX3_isPrime_25 (by decide) ?_
        refine g_ls [0, 1, 2] rfl ?_
        exact ih _ _ hf
      · rw [if_pos c4] at hf
        refine g_iconst (q := 21) (v := 1) dX3_isPrime_20 rfl rfl ?_
        have hf := Option.some.inj hf
        subst hf
        exact g_zreturn (Or.inr rfl) dX3_isPrime_21 rfl ⟨rfl, rfl⟩
set_option maxRecDepth 20000 in
set_option maxHeartbeats 4000000 in
theorem ev_X3_isPrime {l : Launch} {E : tEn} {cr : Value} {tl : tHp} {x_hs : Int32} {s_n : Int32} {s_sp : Int64} {s_sb : Int64} {s_sc : Int32} {s_f : List Int64} {s_st : List Int32} {v_n : Int32} {v_sp : Int64} {v_sb : Int64} {v_sc : Int32} {v_f : List Int64} {v_st : List Int32} {h_k : Int32} {h_s : List Int32} {h_c : List Int64} {g_k : Int32} {g_v : Int32} {g_p : List Int32} {g_a : List Int32} {g_t : List Int32} {c_k : Int32} {c_t : List Int32} {c_p : List Int32} {i_l : Int32} {i_n : Int32} {i_f : Int64} {i_p : Int32} {i_o : Int32} {i_b : List Int32} {w_l : Int32} {w_s : List Int32} {x_e : List Int32} {x_l : List Int32} {a0 : Int32} {res : Int32} (hf : f_X3_isPrime a0 g_k g_p = some res) : tEv l E yX3_isPrime cX3_isPrime 3 (some .boolean) 1 0 0 [.ref 10, .int a0] (encX x_hs s_n s_sp s_sb s_sc s_f s_st v_n v_sp v_sb v_sc v_f v_st h_k h_s h_c g_k g_v g_p g_a g_t c_k c_t c_p i_l i_n i_f i_p i_o i_b w_l w_s x_e x_l cr tl) (fun r h' => r = some (.int res) ∧ h' = encX x_hs s_n s_sp s_sb s_sc s_f s_st v_n v_sp v_sb v_sc v_f v_st h_k h_s h_c g_k g_v g_p g_a g_t c_k c_t c_p i_l i_n i_f i_p i_o i_b w_l w_s x_e x_l cr tl) := by
  refine tEv.of (own := RX3) (ini := false) (L := [(0, .ref 10), (1, .int a0)]) (by decide +kernel) rfl (fun h9 => nomatch h9) rfl (Nat.le_of_ble_eq_true rfl) ?_
  rw [f_X3_isPrime] at hf
  refine g_iconst (q := 1) (v := 0) dX3_isPrime_0 rfl rfl ?_
  refine g_istore_n (q := 2) (L' := [(0, .ref 10), (1, .int a0), (2, .int 0)]) dX3_isPrime_1 rfl (by decide) rfl ?_
  refine g_ls [0, 1, 2] rfl ?_
  refine ev_X3_isPrime_L2 (fun  res hf => ?_) tFU _ res hf
  refine g_iconst (q := 29) (v := 0) dX3_isPrime_28 rfl rfl ?_
  have hf := Option.some.inj hf
  subst hf
  exact g_zreturn (Or.inl rfl) dX3_isPrime_29 rfl ⟨rfl, rfl⟩
def f_X3_lowestBadClique_L2 (g_k : Int32) (g_v : Int32) (g_p : List Int32) (g_a : List Int32) (K : Option (Int32)) : Nat → Int32 → Option (Int32)
  | 0, _ => none
  | fu + 1, v1 => (if g_v < v1 then K else (if (v1 &&& (g_v ^^^ (-1))) = 0 then (f_X3_isMaximalClique v1 g_v g_a).bind fun r3 => (if r3 = 0 then f_X3_lowestBadClique_L2 g_k g_v g_p g_a K fu (v1 + 1) else (f_X3_isPrime v1 g_k g_p).bind fun r6 => (if r6 = 0 then some v1 else f_X3_lowestBadClique_L2 g_k g_v g_p g_a K fu (v1 + 1))) else f_X3_lowestBadClique_L2 g_k g_v g_p g_a K fu (v1 + 1)))
def f_X3_lowestBadClique  (g_k : Int32) (g_v : Int32) (g_p : List Int32) (g_a : List Int32) : Option (Int32) := f_X3_lowestBadClique_L2 g_k g_v g_p g_a (some (-1)) tFU 1
set_option maxRecDepth 20000 in
set_option maxHeartbeats 4000000 in
theorem ev_X3_lowestBadClique_L2 {l : Launch} {E : tEn} {cr : Value} {tl : tHp}  {x_hs : Int32} {s_n : Int32} {s_sp : Int64} {s_sb : Int64} {s_sc : Int32} {s_f : List Int64} {s_st : List Int32} {v_n : Int32} {v_sp : Int64} {v_sb : Int64} {v_sc : Int32} {v_f : List Int64} {v_st : List Int32} {h_k : Int32} {h_s : List Int32} {h_c : List Int64} {g_k : Int32} {g_v : Int32} {g_p : List Int32} {g_a : List Int32} {g_t : List Int32} {c_k : Int32} {c_t : List Int32} {c_p : List Int32} {i_l : Int32} {i_n : Int32} {i_f : Int64} {i_p : Int32} {i_o : Int32} {i_b : List Int32} {w_l : Int32} {w_s : List Int32} {x_e : List Int32} {x_l : List Int32}  {K : Option (Int32)} (hK : ∀   (res : Int32), K  = some res → tG l E RX3 cX3_lowestBadClique 2 (some .int) false 3 (fun r h' => r = some (.int res) ∧ h' = encX x_hs s_n s_sp s_sb s_sc s_f s_st v_n v_sp v_sb v_sc v_f v_st h_k h_s h_c g_k g_v g_p g_a g_t c_k c_t c_p i_l i_n i_f i_p i_o i_b w_l w_s x_e x_l cr tl) 0 0 45 [] [] (encX x_hs s_n s_sp s_sb s_sc s_f s_st v_n v_sp v_sb v_sc v_f v_st h_k h_s h_c g_k g_v g_p g_a g_t c_k c_t c_p i_l i_n i_f i_p i_o i_b w_l w_s x_e x_l cr tl)) :
    ∀ (fu : Nat) (v1 : Int32) (res : Int32), f_X3_lowestBadClique_L2 g_k g_v g_p g_a K fu v1 = some res → tG l E RX3 cX3_lowestBadClique 2 (some .int) false 3 (fun r h' => r = some (.int res) ∧ h' = encX x_hs s_n s_sp s_sb s_sc s_f s_st v_n v_sp v_sb v_sc v_f v_st h_k h_s h_c g_k g_v g_p g_a g_t c_k c_t c_p i_l i_n i_f i_p i_o i_b w_l w_s x_e x_l cr tl) 0 0 2 [(0, .ref 10), (1, .int v1)] [] (encX x_hs s_n s_sp s_sb s_sc s_f s_st v_n v_sp v_sb v_sc v_f v_st h_k h_s h_c g_k g_v g_p g_a g_t c_k c_t c_p i_l i_n i_f i_p i_o i_b w_l w_s x_e x_l cr tl) := by
  intro fu
  induction fu with
  | zero => intro v1 res hf; exact nomatch (show none = some res from hf)
  | succ fu ih =>
    intro v1 res hf
    rw [f_X3_lowestBadClique_L2] at hf
    refine g_iload_n 1 (q := 3) dX3_lowestBadClique_2 rfl rfl ?_
    refine g_aload_n 0 (q := 4) dX3_lowestBadClique_3 rfl rfl ?_
    refine g_get (q := 7) fl_X3_19 dX3_lowestBadClique_4 rfl rfl rfl ?_
    refine g_icmp_gt (t := 45) (q := 10) dX3_lowestBadClique_7 (by decide) rfl (fun c1 => ?_) (fun c1 => ?_)
    · rw [if_pos c1] at hf
      refine g_ls [] rfl ?_
      exact hK _ hf
    · rw [if_neg c1] at hf
      refine g_iload_n 1 (q := 11) dX3_lowestBadClique_10 rfl rfl ?_
      refine g_aload_n 0 (q := 12) dX3_lowestBadClique_11 rfl rfl ?_
      refine g_get (q := 15) fl_X3_19 dX3_lowestBadClique_12 rfl rfl rfl ?_
      refine g_iconst (q := 16) (v := (-1)) dX3_lowestBadClique_15 rfl rfl ?_
      refine g_ixor (q := 17) dX3_lowestBadClique_16 rfl ?_
      refine g_iand (q := 18) dX3_lowestBadClique_17 rfl ?_
      refine g_if_ne (t := 39) (q := 21) dX3_lowestBadClique_18 (by decide) rfl (fun c2 => ?_) (fun c2 => ?_)
      · rw [if_neg c2] at hf
        refine g_iinc 1 (q := 42) (v := (v1 + 1)) (L' := [(0, .ref 10), (1, .int (v1 + 1))]) dX3_lowestBadClique_39 rfl rfl rfl (by decide) rfl ?_
        refine g_goto (t := 2) dX3_lowestBadClique_42 (by decide) ?_
        refine g_ls [0, 1] rfl ?_
        exact ih _ _ hf
      · rw [if_pos c2] at hf
        refine g_aload_n 0 (q := 22) dX3_lowestBadClique_21 rfl rfl ?_
        refine g_iload_n 1 (q := 23) dX3_lowestBadClique_22 rfl rfl ?_
        obtain ⟨r3, e4, hf⟩ := Option.bind_eq_some_iff.mp hf
        refine g_callV (a := 10) (k2 := 0) (n2 := 0) (q := 26) (as := [.int v1]) (st := []) (st1 := [.int r3]) tm_X3_isMaximalClique ml_X3_66 ti_X3_isMaximalClique rfl rfl dX3_lowestBadClique_23 rfl (ev_X3_isMaximalClique e4) rfl rfl (Nat.le_of_ble_eq_true rfl) (by decide) rfl rfl (Or.inl rfl) rfl ?_
        refine g_if_eq (t := 39) (q := 29) dX3_lowestBadClique_26 (by decide) rfl (fun c5 => ?_) (fun c5 => ?_)
        · rw [if_pos c5] at hf
          refine g_iinc 1 (q := 42) (v := (v1 + 1)) (L' := [(0, .ref 10), (1, .int (v1 + 1))]) dX3_lowestBadClique_39 rfl rfl rfl (by decide) rfl ?_
          refine g_goto (t := 2) dX3_lowestBadClique_42 (by decide) ?_
          refine g_ls [0, 1] rfl ?_
          exact ih _ _ hf
        · rw [if_neg c5] at hf
          refine g_aload_n 0 (q := 30) dX3_lowestBadClique_29 rfl rfl ?_
          refine g_iload_n 1 (q := 31) dX3_lowestBadClique_30 rfl rfl ?_
          obtain ⟨r6, e7, hf⟩ := Option.bind_eq_some_iff.mp hf
          refine g_callV (a := 10) (k2 := 0) (n2 := 0) (q := 34) (as := [.int v1]) (st := []) (st1 := [.int r6]) tm_X3_isPrime ml_X3_70 ti_X3_isPrime rfl rfl dX3_lowestBadClique_31 rfl (ev_X3_isPrime e7) rfl rfl (Nat.le_of_ble_eq_true rfl) (by decide) rfl rfl (Or.inl rfl) rfl ?_
          refine g_if_ne (t := 39) (q := 37) dX3_lowestBadClique_34 (by decide) rfl (fun c8 => ?_) (fun c8 => ?_)
          · rw [if_neg c8] at hf
            refine g_iinc 1 (q := 42) (v := (v1 + 1)) (L' := [(0, .ref 10), (1, .int (v1 + 1))]) dX3_lowestBadClique_39 rfl rfl rfl (by decide) rfl ?_
            refine g_goto (t := 2) dX3_lowestBadClique_42 (by decide) ?_
            refine g_ls [0, 1] rfl ?_
            exact ih _ _ hf
          · rw [if_pos c8] at hf
            refine g_iload_n 1 (q := 38) dX3_lowestBadClique_37 rfl rfl ?_
            have hf := Option.some.inj hf
            subst hf
            exact g_ireturn dX3_lowestBadClique_38 rfl ⟨rfl, rfl⟩
set_option maxRecDepth 20000 in
set_option maxHeartbeats 4000000 in
theorem ev_X3_lowestBadClique {l : Launch} {E : tEn} {cr : Value} {tl : tHp} {x_hs : Int32} {s_n : Int32} {s_sp : Int64} {s_sb : Int64} {s_sc : Int32} {s_f : List Int64} {s_st : List Int32} {v_n : Int32} {v_sp : Int64} {v_sb : Int64} {v_sc : Int32} {v_f : List Int64} {v_st : List Int32} {h_k : Int32} {h_s : List Int32} {h_c : List Int64} {g_k : Int32} {g_v : Int32} {g_p : List Int32} {g_a : List Int32} {g_t : List Int32} {c_k : Int32} {c_t : List Int32} {c_p : List Int32} {i_l : Int32} {i_n : Int32} {i_f : Int64} {i_p : Int32} {i_o : Int32} {i_b : List Int32} {w_l : Int32} {w_s : List Int32} {x_e : List Int32} {x_l : List Int32}  {res : Int32} (hf : f_X3_lowestBadClique g_k g_v g_p g_a = some res) : tEv l E yX3_lowestBadClique cX3_lowestBadClique 2 (some .int) 3 0 0 [.ref 10] (encX x_hs s_n s_sp s_sb s_sc s_f s_st v_n v_sp v_sb v_sc v_f v_st h_k h_s h_c g_k g_v g_p g_a g_t c_k c_t c_p i_l i_n i_f i_p i_o i_b w_l w_s x_e x_l cr tl) (fun r h' => r = some (.int res) ∧ h' = encX x_hs s_n s_sp s_sb s_sc s_f s_st v_n v_sp v_sb v_sc v_f v_st h_k h_s h_c g_k g_v g_p g_a g_t c_k c_t c_p i_l i_n i_f i_p i_o i_b w_l w_s x_e x_l cr tl) := by
  refine tEv.of (own := RX3) (ini := false) (L := [(0, .ref 10)]) (by decide +kernel) rfl (fun h9 => nomatch h9) rfl (Nat.le_of_ble_eq_true rfl) ?_
  rw [f_X3_lowestBadClique] at hf
  refine g_iconst (q := 1) (v := 1) dX3_lowestBadClique_0 rfl rfl ?_
  refine g_istore_n (q := 2) (L' := [(0, .ref 10), (1, .int 1)]) dX3_lowestBadClique_1 rfl (by decide) rfl ?_
  refine g_ls [0, 1] rfl ?_
  refine ev_X3_lowestBadClique_L2 (fun  res hf => ?_) tFU _ res hf
  refine g_iconst (q := 46) (v := (-1)) dX3_lowestBadClique_45 rfl rfl ?_
  have hf := Option.some.inj hf
  subst hf
  exact g_ireturn dX3_lowestBadClique_46 rfl ⟨rfl, rfl⟩
def f_X7_badClique (a0 : Int32) (s_n : Int32) (s_f : List Int64) (g_k : Int32) (g_v : Int32) (g_p : List Int32) (g_a : List Int32) : Option (Int32 × Int32 × Int32 × List Int32 × List Int32) := (f_X7_drawGraph a0 s_n s_f g_k g_v g_p g_a).bind fun r1 => (if r1.1 = 0 then (f_X3_lowestBadClique (r1.2.1) (r1.2.2.1) (r1.2.2.2.1) (r1.2.2.2.2)).bind fun r4 => some (r4, r1.2.1, r1.2.2.1, r1.2.2.2.1, r1.2.2.2.2) else some (r1.1, r1.2.1, r1.2.2.1, r1.2.2.2.1, r1.2.2.2.2))
set_option maxRecDepth 20000 in
set_option maxHeartbeats 4000000 in
theorem ev_X7_badClique {l : Launch} {E : tEn} {cr : Value} {tl : tHp} {x_hs : Int32} {s_n : Int32} {s_sp : Int64} {s_sb : Int64} {s_sc : Int32} {s_f : List Int64} {s_st : List Int32} {v_n : Int32} {v_sp : Int64} {v_sb : Int64} {v_sc : Int32} {v_f : List Int64} {v_st : List Int32} {h_k : Int32} {h_s : List Int32} {h_c : List Int64} {g_k : Int32} {g_v : Int32} {g_p : List Int32} {g_a : List Int32} {g_t : List Int32} {c_k : Int32} {c_t : List Int32} {c_p : List Int32} {i_l : Int32} {i_n : Int32} {i_f : Int64} {i_p : Int32} {i_o : Int32} {i_b : List Int32} {w_l : Int32} {w_s : List Int32} {x_e : List Int32} {x_l : List Int32} {a0 : Int32} {res : Int32 × Int32 × Int32 × List Int32 × List Int32} (hf : f_X7_badClique a0 s_n s_f g_k g_v g_p g_a = some res) : tEv l E yX7_badClique cX7_badClique 3 (some .int) 6 0 0 [.ref 0, .int a0] (encX x_hs s_n s_sp s_sb s_sc s_f s_st v_n v_sp v_sb v_sc v_f v_st h_k h_s h_c g_k g_v g_p g_a g_t c_k c_t c_p i_l i_n i_f i_p i_o i_b w_l w_s x_e x_l cr tl) (fun r h' => r = some (.int res.1) ∧ h' = encX x_hs s_n s_sp s_sb s_sc s_f s_st v_n v_sp v_sb v_sc v_f v_st h_k h_s h_c (res.2.1) (res.2.2.1) (res.2.2.2.1) (res.2.2.2.2) g_t c_k c_t c_p i_l i_n i_f i_p i_o i_b w_l w_s x_e x_l cr tl) := by
  refine tEv.of (own := RX7) (ini := false) (L := [(0, .ref 0), (1, .int a0)]) (by decide +kernel) rfl (fun h9 => nomatch h9) rfl (Nat.le_of_ble_eq_true rfl) ?_
  rw [f_X7_badClique] at hf
  refine g_aload_n 0 (q := 1) dX7_badClique_0 rfl rfl ?_
  refine g_iload_n 1 (q := 2) dX7_badClique_1 rfl rfl ?_
  obtain ⟨r1, e2, hf⟩ := Option.bind_eq_some_iff.mp hf
  refine g_callV (a := 0) (k2 := 0) (n2 := 0) (q := 5) (as := [.int a0]) (st := []) (st1 := [.int r1.1]) tm_X7_drawGraph ml_X7_125 ti_X7_drawGraph rfl rfl dX7_badClique_2 rfl (ev_X7_drawGraph e2) rfl rfl (Nat.le_of_ble_eq_true rfl) (by decide) rfl rfl (Or.inl (encX_len.trans encX_len.symm)) rfl ?_
  refine g_istore_n (q := 6) (L' := [(0, .ref 0), (1, .int a0), (2, .int r1.1)]) dX7_badClique_5 rfl (by decide) rfl ?_
  refine g_iload_n 2 (q := 7) dX7_badClique_6 rfl rfl ?_
  refine g_if_eq (t := 14) (q := 10) dX7_badClique_7 (by decide) rfl (fun c3 => ?_) (fun c3 => ?_)
  · rw [if_pos c3] at hf
    refine g_aload_n 0 (q := 15) dX7_badClique_14 rfl rfl ?_
    refine g_get (q := 18) fl_X7_33 dX7_badClique_15 rfl rfl rfl ?_
    obtain ⟨r4, e5, hf⟩ := Option.bind_eq_some_iff.mp hf
    refine g_callV (a := 10) (k2 := 0) (n2 := 0) (q := 21) (as := []) (st := []) (st1 := [.int r4]) tm_X3_lowestBadClique ml_X7_151 ti_X3_lowestBadClique rfl rfl dX7_badClique_18 rfl (ev_X3_lowestBadClique e5) rfl rfl (Nat.le_of_ble_eq_true rfl) (by decide) rfl rfl (Or.inl rfl) rfl ?_
    have hf := Option.some.inj hf
    subst hf
    exact g_ireturn dX7_badClique_21 rfl ⟨rfl, rfl⟩
  · rw [if_neg c3] at hf
    refine g_iload_n 2 (q := 11) dX7_badClique_10 rfl rfl ?_
    refine g_goto (t := 21) dX7_badClique_11 (by decide) ?_
    have hf := Option.some.inj hf
    subst hf
    exact g_ireturn dX7_badClique_21 rfl ⟨rfl, rfl⟩
def f_X7_whyNotReadOnce (a0 : Int64) (s_n : Int32) (g_k : Int32) (g_v : Int32) (g_p : List Int32) (g_a : List Int32) (g_t : List Int32) : Option (Int32 × Int32 × Int32 × List Int32 × List Int32 × List Int32) := (f_X7_lowestViolation s_n a0).bind fun r1 => (if r1 = (-1) then (f_X3_fill s_n a0 g_k g_v g_p g_a).bind fun r4 => (f_X3_findPath (r4.2.2.2) g_t).bind fun r6 => (if r6.1 = 0 then (f_X3_lowestBadClique (r4.1) (r4.2.1) (r4.2.2.1) (r4.2.2.2)).bind fun r9 => (if r9 = (-1) then some (0, r4.1, r4.2.1, r4.2.2.1, r4.2.2.2, r6.2) else some (3, r4.1, r4.2.1, r4.2.2.1, r4.2.2.2, r6.2)) else some (2, r4.1, r4.2.1, r4.2.2.1, r4.2.2.2, r6.2)) else some (1, g_k, g_v, g_p, g_a, g_t))
set_option maxRecDepth 20000 in
set_option maxHeartbeats 4000000 in
theorem ev_X7_whyNotReadOnce {l : Launch} {E : tEn} {cr : Value} {tl : tHp} {x_hs : Int32} {s_n : Int32} {s_sp : Int64} {s_sb : Int64} {s_sc : Int32} {s_f : List Int64} {s_st : List Int32} {v_n : Int32} {v_sp : Int64} {v_sb : Int64} {v_sc : Int32} {v_f : List Int64} {v_st : List Int32} {h_k : Int32} {h_s : List Int32} {h_c : List Int64} {g_k : Int32} {g_v : Int32} {g_p : List Int32} {g_a : List Int32} {g_t : List Int32} {c_k : Int32} {c_t : List Int32} {c_p : List Int32} {i_l : Int32} {i_n : Int32} {i_f : Int64} {i_p : Int32} {i_o : Int32} {i_b : List Int32} {w_l : Int32} {w_s : List Int32} {x_e : List Int32} {x_l : List Int32} {a0 : Int64} {res : Int32 × Int32 × Int32 × List Int32 × List Int32 × List Int32} (hf : f_X7_whyNotReadOnce a0 s_n g_k g_v g_p g_a g_t = some res) : tEv l E yX7_whyNotReadOnce cX7_whyNotReadOnce 3 (some .int) 5 0 0 [.ref 0, .long a0] (encX x_hs s_n s_sp s_sb s_sc s_f s_st v_n v_sp v_sb v_sc v_f v_st h_k h_s h_c g_k g_v g_p g_a g_t c_k c_t c_p i_l i_n i_f i_p i_o i_b w_l w_s x_e x_l cr tl) (fun r h' => r = some (.int res.1) ∧ h' = encX x_hs s_n s_sp s_sb s_sc s_f s_st v_n v_sp v_sb v_sc v_f v_st h_k h_s h_c (res.2.1) (res.2.2.1) (res.2.2.2.1) (res.2.2.2.2.1) (res.2.2.2.2.2) c_k c_t c_p i_l i_n i_f i_p i_o i_b w_l w_s x_e x_l cr tl) := by
  refine tEv.of (own := RX7) (ini := false) (L := [(0, .ref 0), (1, .long a0)]) (by decide +kernel) rfl (fun h9 => nomatch h9) rfl (Nat.le_of_ble_eq_true rfl) ?_
  rw [f_X7_whyNotReadOnce] at hf
  refine g_aload_n 0 (q := 1) dX7_whyNotReadOnce_0 rfl rfl ?_
  refine g_get (q := 4) fl_X7_10 dX7_whyNotReadOnce_1 rfl rfl rfl ?_
  refine g_get (q := 7) fl_X7_75 dX7_whyNotReadOnce_4 rfl rfl rfl ?_
  refine g_lload_n 1 (q := 8) dX7_whyNotReadOnce_7 rfl rfl ?_
  obtain ⟨r1, e2, hf⟩ := Option.bind_eq_some_iff.mp hf
  refine g_callS (k2 := 0) (n2 := 0) (q := 11) (as := [.int s_n, .long a0]) (st := []) (st1 := [.int r1]) tm_X7_lowestViolation ml_X7_122 ts_X7_lowestViolation dX7_whyNotReadOnce_8 rfl (ev_X7_lowestViolation e2) rfl rfl (Nat.le_of_ble_eq_true rfl) (by decide) rfl rfl (Or.inl rfl) rfl ?_
  refine g_iconst (q := 12) (v := (-1)) dX7_whyNotReadOnce_11 rfl rfl ?_
  refine g_icmp_eq (t := 17) (q := 15) dX7_whyNotReadOnce_12 (by decide) rfl (fun c3 => ?_) (fun c3 => ?_)
  · rw [if_pos c3] at hf
    refine g_aload_n 0 (q := 18) dX7_whyNotReadOnce_17 rfl rfl ?_
    refine g_get (q := 21) fl_X7_33 dX7_whyNotReadOnce_18 rfl rfl rfl ?_
    refine g_aload_n 0 (q := 22) dX7_whyNotReadOnce_21 rfl rfl ?_
    refine g_get (q := 25) fl_X7_10 dX7_whyNotReadOnce_22 rfl rfl rfl ?_
    refine g_get (q := 28) fl_X7_75 dX7_whyNotReadOnce_25 rfl rfl rfl ?_
    refine g_lload_n 1 (q := 29) dX7_whyNotReadOnce_28 rfl rfl ?_
    obtain ⟨r4, e5, hf⟩ := Option.bind_eq_some_iff.mp hf
    refine g_callV (a := 10) (k2 := 0) (n2 := 0) (q := 32) (as := [.int s_n, .long a0]) (st := []) (st1 := []) tm_X3_fill ml_X7_287 ti_X3_fill rfl rfl dX7_whyNotReadOnce_29 rfl (ev_X3_fill e5) rfl rfl (Nat.le_of_ble_eq_true rfl) (by decide) rfl rfl (Or.inl (encX_len.trans encX_len.symm)) rfl ?_
    refine g_aload_n 0 (q := 33) dX7_whyNotReadOnce_32 rfl rfl ?_
    refine g_get (q := 36) fl_X7_33 dX7_whyNotReadOnce_33 rfl rfl rfl ?_
    obtain ⟨r6, e7, hf⟩ := Option.bind_eq_some_iff.mp hf
    refine g_callV (a := 10) (k2 := 0) (n2 := 0) (q := 39) (as := []) (st := []) (st1 := [.int r6.1]) tm_X3_findPath ml_X7_144 ti_X3_findPath rfl rfl dX7_whyNotReadOnce_36 rfl (ev_X3_findPath e7) rfl rfl (Nat.le_of_ble_eq_true rfl) (by decide) rfl rfl (Or.inl (encX_len.trans encX_len.symm)) rfl ?_
    refine g_if_eq (t := 44) (q := 42) dX7_whyNotReadOnce_39 (by decide) rfl (fun c8 => ?_) (fun c8 => ?_)
    · rw [if_pos c8] at hf
      refine g_aload_n 0 (q := 45) dX7_whyNotReadOnce_44 rfl rfl ?_
      refine g_get (q := 48) fl_X7_33 dX7_whyNotReadOnce_45 rfl rfl rfl ?_
      obtain ⟨r9, e10, hf⟩ := Option.bind_eq_some_iff.mp hf
      refine g_callV (a := 10) (k2 := 0) (n2 := 0) (q := 51) (as := []) (st := []) (st1 := [.int r9]) tm_X3_lowestBadClique ml_X7_151 ti_X3_lowestBadClique rfl rfl dX7_whyNotReadOnce_48 rfl (ev_X3_lowestBadClique e10) rfl rfl (Nat.le_of_ble_eq_true rfl) (by decide) rfl rfl (Or.inl rfl) rfl ?_
      refine g_iconst (q := 52) (v := (-1)) dX7_whyNotReadOnce_51 rfl rfl ?_
      refine g_icmp_ne (t := 59) (q := 55) dX7_whyNotReadOnce_52 (by decide) rfl (fun c11 => ?_) (fun c11 => ?_)
      · rw [if_neg c11] at hf
        refine g_iconst (q := 60) (v := 3) dX7_whyNotReadOnce_59 rfl rfl ?_
        have hf := Option.some.inj hf
        subst hf
        exact g_ireturn dX7_whyNotReadOnce_60 rfl ⟨rfl, rfl⟩
      · rw [if_pos c11] at hf
        refine g_iconst (q := 56) (v := 0) dX7_whyNotReadOnce_55 rfl rfl ?_
        refine g_goto (t := 60) dX7_whyNotReadOnce_56 (by decide) ?_
        have hf := Option.some.inj hf
        subst hf
        exact g_ireturn dX7_whyNotReadOnce_60 rfl ⟨rfl, rfl⟩
    · rw [if_neg c8] at hf
      refine g_iconst (q := 43) (v := 2) dX7_whyNotReadOnce_42 rfl rfl ?_
      have hf := Option.some.inj hf
      subst hf
      exact g_ireturn dX7_whyNotReadOnce_43 rfl ⟨rfl, rfl⟩
  · rw [if_neg c3] at hf
    refine g_iconst (q := 16) (v := 1) dX7_whyNotReadOnce_15 rfl rfl ?_
    have hf := Option.some.inj hf
    subst hf
    exact g_ireturn dX7_whyNotReadOnce_16 rfl ⟨rfl, rfl⟩
def f_X7_reason (a0 : Int32) (s_n : Int32) (s_f : List Int64) (g_k : Int32) (g_v : Int32) (g_p : List Int32) (g_a : List Int32) (g_t : List Int32) : Option (Int32 × Int32 × Int32 × List Int32 × List Int32 × List Int32) := (f_X7_slotError a0 s_f).bind fun r1 => (if r1 = 0 then (tld s_f a0).bind fun r4 => (f_X7_whyNotReadOnce r4 s_n g_k g_v g_p g_a g_t).bind fun r6 => some (r6.1, r6.2.1, r6.2.2.1, r6.2.2.2.1, r6.2.2.2.2.1, r6.2.2.2.2.2) else some (r1, g_k, g_v, g_p, g_a, g_t))
set_option maxRecDepth 20000 in
set_option maxHeartbeats 4000000 in
theorem ev_X7_reason {l : Launch} {E : tEn} {cr : Value} {tl : tHp} {x_hs : Int32} {s_n : Int32} {s_sp : Int64} {s_sb : Int64} {s_sc : Int32} {s_f : List Int64} {s_st : List Int32} {v_n : Int32} {v_sp : Int64} {v_sb : Int64} {v_sc : Int32} {v_f : List Int64} {v_st : List Int32} {h_k : Int32} {h_s : List Int32} {h_c : List Int64} {g_k : Int32} {g_v : Int32} {g_p : List Int32} {g_a : List Int32} {g_t : List Int32} {c_k : Int32} {c_t : List Int32} {c_p : List Int32} {i_l : Int32} {i_n : Int32} {i_f : Int64} {i_p : Int32} {i_o : Int32} {i_b : List Int32} {w_l : Int32} {w_s : List Int32} {x_e : List Int32} {x_l : List Int32} {a0 : Int32} {res : Int32 × Int32 × Int32 × List Int32 × List Int32 × List Int32} (hf : f_X7_reason a0 s_n s_f g_k g_v g_p g_a g_t = some res) : tEv l E yX7_reason cX7_reason 3 (some .int) 6 0 0 [.ref 0, .int a0] (encX x_hs s_n s_sp s_sb s_sc s_f s_st v_n v_sp v_sb v_sc v_f v_st h_k h_s h_c g_k g_v g_p g_a g_t c_k c_t c_p i_l i_n i_f i_p i_o i_b w_l w_s x_e x_l cr tl) (fun r h' => r = some (.int res.1) ∧ h' = encX x_hs s_n s_sp s_sb s_sc s_f s_st v_n v_sp v_sb v_sc v_f v_st h_k h_s h_c (res.2.1) (res.2.2.1) (res.2.2.2.1) (res.2.2.2.2.1) (res.2.2.2.2.2) c_k c_t c_p i_l i_n i_f i_p i_o i_b w_l w_s x_e x_l cr tl) := by
  refine tEv.of (own := RX7) (ini := false) (L := [(0, .ref 0), (1, .int a0)]) (by decide +kernel) rfl (fun h9 => nomatch h9) rfl (Nat.le_of_ble_eq_true rfl) ?_
  rw [f_X7_reason] at hf
  refine g_aload_n 0 (q := 1) dX7_reason_0 rfl rfl ?_
  refine g_iload_n 1 (q := 2) dX7_reason_1 rfl rfl ?_
  obtain ⟨r1, e2, hf⟩ := Option.bind_eq_some_iff.mp hf
  refine g_callV (a := 0) (k2 := 0) (n2 := 0) (q := 5) (as := [.int a0]) (st := []) (st1 := [.int r1]) tm_X7_slotError ml_X7_98 ti_X7_slotError rfl rfl dX7_reason_2 rfl (ev_X7_slotError e2) rfl rfl (Nat.le_of_ble_eq_true rfl) (by decide) rfl rfl (Or.inl rfl) rfl ?_
  refine g_istore_n (q := 6) (L' := [(0, .ref 0), (1, .int a0), (2, .int r1)]) dX7_reason_5 rfl (by decide) rfl ?_
  refine g_iload_n 2 (q := 7) dX7_reason_6 rfl rfl ?_
  refine g_if_eq (t := 14) (q := 10) dX7_reason_7 (by decide) rfl (fun c3 => ?_) (fun c3 => ?_)
  · rw [if_pos c3] at hf
    refine g_aload_n 0 (q := 15) dX7_reason_14 rfl rfl ?_
    refine g_aload_n 0 (q := 16) dX7_reason_15 rfl rfl ?_
    refine g_get (q := 19) fl_X7_10 dX7_reason_16 rfl rfl rfl ?_
    refine g_get (q := 22) fl_X7_102 dX7_reason_19 rfl rfl rfl ?_
    refine g_iload_n 1 (q := 23) dX7_reason_22 rfl rfl ?_
    obtain ⟨r4, e5, hf⟩ := Option.bind_eq_some_iff.mp hf
    refine g_laload (q := 24) dX7_reason_23 rfl rfl e5 ?_
    obtain ⟨r6, e7, hf⟩ := Option.bind_eq_some_iff.mp hf
    refine g_callV (a := 0) (k2 := 0) (n2 := 0) (q := 27) (as := [.long r4]) (st := []) (st1 := [.int r6.1]) tm_X7_whyNotReadOnce ml_X7_154 ti_X7_whyNotReadOnce rfl rfl dX7_reason_24 rfl (ev_X7_whyNotReadOnce e7) rfl rfl (Nat.le_of_ble_eq_true rfl) (by decide) rfl rfl (Or.inl (encX_len.trans encX_len.symm)) rfl ?_
    have hf := Option.some.inj hf
    subst hf
    exact g_ireturn dX7_reason_27 rfl ⟨rfl, rfl⟩
  · rw [if_neg c3] at hf
    refine g_iload_n 2 (q := 11) dX7_reason_10 rfl rfl ?_
    refine g_goto (t := 27) dX7_reason_11 (by decide) ?_
    have hf := Option.some.inj hf
    subst hf
    exact g_ireturn dX7_reason_27 rfl ⟨rfl, rfl⟩
def f_J6_bitCount_0f7a4 (a0 : Int32)  : Int32 := ((((((((a0 - ((tiushr a0 1) &&& 1431655765)) &&& 858993459) + ((tiushr (a0 - ((tiushr a0 1) &&& 1431655765)) 2) &&& 858993459)) + (tiushr (((a0 - ((tiushr a0 1) &&& 1431655765)) &&& 858993459) + ((tiushr (a0 - ((tiushr a0 1) &&& 1431655765)) 2) &&& 858993459)) 4)) &&& 252645135) + (tiushr (((((a0 - ((tiushr a0 1) &&& 1431655765)) &&& 858993459) + ((tiushr (a0 - ((tiushr a0 1) &&& 1431655765)) 2) &&& 858993459)) + (tiushr (((a0 - ((tiushr a0 1) &&& 1431655765)) &&& 858993459) + ((tiushr (a0 - ((tiushr a0 1) &&& 1431655765)) 2) &&& 858993459)) 4)) &&& 252645135) 8)) + (tiushr ((((((a0 - ((tiushr a0 1) &&& 1431655765)) &&& 858993459) + ((tiushr (a0 - ((tiushr a0 1) &&& 1431655765)) 2) &&& 858993459)) + (tiushr (((a0 - ((tiushr a0 1) &&& 1431655765)) &&& 858993459) + ((tiushr (a0 - ((tiushr a0 1) &&& 1431655765)) 2) &&& 858993459)) 4)) &&& 252645135) + (tiushr (((((a0 - ((tiushr a0 1) &&& 1431655765)) &&& 858993459) + ((tiushr (a0 - ((tiushr a0 1) &&& 1431655765)) 2) &&& 858993459)) + (tiushr (((a0 - ((tiushr a0 1) &&& 1431655765)) &&& 858993459) + ((tiushr (a0 - ((tiushr a0 1) &&& 1431655765)) 2) &&& 858993459)) 4)) &&& 252645135) 8)) 16)) &&& 63)
set_option maxRecDepth 20000 in
set_option maxHeartbeats 4000000 in
theorem ev_J6_bitCount_0f7a4 {l : Launch} {E : tEn}  {h : tHp} {a0 : Int32} : tEv l E yJ6_bitCount_0f7a4 cJ6_bitCount_0f7a4 1 (some .int) 1 0 0 [.int a0] (h) (fun r h' => r = some (.int (f_J6_bitCount_0f7a4 a0)) ∧ h' = h) := by
  refine tEv.of (own := RJ6) (ini := false) (L := [(0, .int a0)]) (by decide +kernel) rfl (fun h9 => nomatch h9) rfl (Nat.le_of_ble_eq_true rfl) ?_
  obtain ⟨res, hf⟩ : ∃ z, f_J6_bitCount_0f7a4 a0 = z := ⟨_, rfl⟩
  rw [hf]
  rw [f_J6_bitCount_0f7a4] at hf
  refine g_iload_n 0 (q := 1) dJ6_bitCount_0f7a4_0 rfl rfl ?_
  refine g_iload_n 0 (q := 2) dJ6_bitCount_0f7a4_1 rfl rfl ?_
  refine g_iconst (q := 3) (v := 1) dJ6_bitCount_0f7a4_2 rfl rfl ?_
  refine g_iushr (q := 4) dJ6_bitCount_0f7a4_3 rfl ?_
  refine g_ldc_w (q := 7) kc_J6_265 dJ6_bitCount_0f7a4_4 rfl ?_
  refine g_iand (q := 8) dJ6_bitCount_0f7a4_7 rfl ?_
  refine g_isub (q := 9) dJ6_bitCount_0f7a4_8 rfl ?_
  refine g_istore_n (q := 10) (L' := [(0, .int (a0 - ((tiushr a0 1) &&& 1431655765)))]) dJ6_bitCount_0f7a4_9 rfl (by decide) rfl ?_
  refine g_iload_n 0 (q := 11) dJ6_bitCount_0f7a4_10 rfl rfl ?_
  refine g_ldc_w (q := 14) kc_J6_266 dJ6_bitCount_0f7a4_11 rfl ?_
  refine g_iand (q := 15) dJ6_bitCount_0f7a4_14 rfl ?_
  refine g_iload_n 0 (q := 16) dJ6_bitCount_0f7a4_15 rfl rfl ?_
  refine g_iconst (q := 17) (v := 2) dJ6_bitCount_0f7a4_16 rfl rfl ?_
  refine g_iushr (q := 18) dJ6_bitCount_0f7a4_17 rfl ?_
  refine g_ldc_w (q := 21) kc_J6_266 dJ6_bitCount_0f7a4_18 rfl ?_
  refine g_iand (q := 22) dJ6_bitCount_0f7a4_21 rfl ?_
  refine g_iadd (q := 23) dJ6_bitCount_0f7a4_22 rfl ?_
  refine g_istore_n (q := 24) (L' := [(0, .int (((a0 - ((tiushr a0 1) &&& 1431655765)) &&& 858993459) + ((tiushr (a0 - ((tiushr a0 1) &&& 1431655765)) 2) &&& 858993459)))]) dJ6_bitCount_0f7a4_23 rfl (by decide) rfl ?_
  refine g_iload_n 0 (q := 25) dJ6_bitCount_0f7a4_24 rfl rfl ?_
  refine g_iload_n 0 (q := 26) dJ6_bitCount_0f7a4_25 rfl rfl ?_
  refine g_iconst (q := 27) (v := 4) dJ6_bitCount_0f7a4_26 rfl rfl ?_
  refine g_iushr (q := 28) dJ6_bitCount_0f7a4_27 rfl ?_
  refine g_iadd (q := 29) dJ6_bitCount_0f7a4_28 rfl ?_
  refine g_ldc_w (q := 32) kc_J6_267 dJ6_bitCount_0f7a4_29 rfl ?_
  refine g_iand (q := 33) dJ6_bitCount_0f7a4_32 rfl ?_
  refine g_istore_n (q := 34) (L' := [(0, .int (((((a0 - ((tiushr a0 1) &&& 1431655765)) &&& 858993459) + ((tiushr (a0 - ((tiushr a0 1) &&& 1431655765)) 2) &&& 858993459)) + (tiushr (((a0 - ((tiushr a0 1) &&& 1431655765)) &&& 858993459) + ((tiushr (a0 - ((tiushr a0 1) &&& 1431655765)) 2) &&& 858993459)) 4)) &&& 252645135))]) dJ6_bitCount_0f7a4_33 rfl (by decide) rfl ?_
  refine g_iload_n 0 (q := 35) dJ6_bitCount_0f7a4_34 rfl rfl ?_
  refine g_iload_n 0 (q := 36) dJ6_bitCount_0f7a4_35 rfl rfl ?_
  refine g_bipush (q := 38) (v := 8) dJ6_bitCount_0f7a4_36 rfl rfl ?_
  refine g_iushr (q := 39) dJ6_bitCount_0f7a4_38 rfl ?_
  refine g_iadd (q := 40) dJ6_bitCount_0f7a4_39 rfl ?_
  refine g_istore_n (q := 41) (L' := [(0, .int ((((((a0 - ((tiushr a0 1) &&& 1431655765)) &&& 858993459) + ((tiushr (a0 - ((tiushr a0 1) &&& 1431655765)) 2) &&& 858993459)) + (tiushr (((a0 - ((tiushr a0 1) &&& 1431655765)) &&& 858993459) + ((tiushr (a0 - ((tiushr a0 1) &&& 1431655765)) 2) &&& 858993459)) 4)) &&& 252645135) + (tiushr (((((a0 - ((tiushr a0 1) &&& 1431655765)) &&& 858993459) + ((tiushr (a0 - ((tiushr a0 1) &&& 1431655765)) 2) &&& 858993459)) + (tiushr (((a0 - ((tiushr a0 1) &&& 1431655765)) &&& 858993459) + ((tiushr (a0 - ((tiushr a0 1) &&& 1431655765)) 2) &&& 858993459)) 4)) &&& 252645135) 8)))]) dJ6_bitCount_0f7a4_40 rfl (by decide) rfl ?_
  refine g_iload_n 0 (q := 42) dJ6_bitCount_0f7a4_41 rfl rfl ?_
  refine g_iload_n 0 (q := 43) dJ6_bitCount_0f7a4_42 rfl rfl ?_
  refine g_bipush (q := 45) (v := 16) dJ6_bitCount_0f7a4_43 rfl rfl ?_
  refine g_iushr (q := 46) dJ6_bitCount_0f7a4_45 rfl ?_
  refine g_iadd (q := 47) dJ6_bitCount_0f7a4_46 rfl ?_
  refine g_istore_n (q := 48) (L' := [(0, .int (((((((a0 - ((tiushr a0 1) &&& 1431655765)) &&& 858993459) + ((tiushr (a0 - ((tiushr a0 1) &&& 1431655765)) 2) &&& 858993459)) + (tiushr (((a0 - ((tiushr a0 1) &&& 1431655765)) &&& 858993459) + ((tiushr (a0 - ((tiushr a0 1) &&& 1431655765)) 2) &&& 858993459)) 4)) &&& 252645135) + (tiushr (((((a0 - ((tiushr a0 1) &&& 1431655765)) &&& 858993459) + ((tiushr (a0 - ((tiushr a0 1) &&& 1431655765)) 2) &&& 858993459)) + (tiushr (((a0 - ((tiushr a0 1) &&& 1431655765)) &&& 858993459) + ((tiushr (a0 - ((tiushr a0 1) &&& 1431655765)) 2) &&& 858993459)) 4)) &&& 252645135) 8)) + (tiushr ((((((a0 - ((tiushr a0 1) &&& 1431655765)) &&& 858993459) + ((tiushr (a0 - ((tiushr a0 1) &&& 1431655765)) 2) &&& 858993459)) + (tiushr (((a0 - ((tiushr a0 1) &&& 1431655765)) &&& 858993459) + ((tiushr (a0 - ((tiushr a0 1) &&& 1431655765)) 2) &&& 858993459)) 4)) &&& 252645135) + (tiushr (((((a0 - ((tiushr a0 1) &&& 1431655765)) &&& 858993459) + ((tiushr (a0 - ((tiushr a0 1) &&& 1431655765)) 2) &&& 858993459)) + (tiushr (((a0 - ((tiushr a0 1) &&& 1431655765)) &&& 858993459) + ((tiushr (a0 - ((tiushr a0 1) &&& 1431655765)) 2) &&& 858993459)) 4)) &&& 252645135) 8)) 16)))]) dJ6_bitCount_0f7a4_47 rfl (by decide) rfl ?_
  refine g_iload_n 0 (q := 49) dJ6_bitCount_0f7a4_48 rfl rfl ?_
  refine g_bipush (q := 51) (v := 63) dJ6_bitCount_0f7a4_49 rfl rfl ?_
  refine g_iand (q := 52) dJ6_bitCount_0f7a4_51 rfl ?_
  subst hf
  exact g_ireturn dJ6_bitCount_0f7a4_52 rfl ⟨rfl, rfl⟩
def f_X1_component_L18 (w1 : Int32) (w3 : Int32) (g_a : List Int32) (K : Int32 → Option (Int32)) : Nat → Int32 → Int32 → Option (Int32)
  | 0, _, _ => none
  | fu + 1, v4, v6 => (if 5 ≤ v6 then K v4 else (if (f_X7_hasVariable v4 v6) = 0 then f_X1_component_L18 w1 w3 g_a K fu v4 (v6 + 1) else (tld g_a v6).bind fun r4 => (if w3 = 0 then f_X1_component_L18 w1 w3 g_a K fu (v4 ||| (w1 &&& r4)) (v6 + 1) else f_X1_component_L18 w1 w3 g_a K fu (v4 ||| (w1 &&& (r4 ^^^ (-1)))) (v6 + 1))))
def f_X1_component_L9 (w1 : Int32) (w3 : Int32) (g_a : List Int32) (K : Int32 → Option (Int32)) : Nat → Int32 → Int32 → Option (Int32)
  | 0, _, _ => none
  | fu + 1, v4, v5 => (if 5 ≤ v5 then K v4 else f_X1_component_L18 w1 w3 g_a (fun y7 => f_X1_component_L9 w1 w3 g_a K fu y7 (v5 + 1)) tFU v4 0)
def f_X1_component (a0 : Int32) (a1 : Int32) (a2 : Int32) (g_a : List Int32) : Option (Int32) := f_X1_component_L9 a0 a2 g_a (fun y8 => some y8) tFU (a1 &&& (-a1)) 0
set_option maxRecDepth 20000 in
set_option maxHeartbeats 4000000 in
theorem ev_X1_component_L18 {l : Launch} {E : tEn} {cr : Value} {tl : tHp}  {x_hs : Int32} {s_n : Int32} {s_sp : Int64} {s_sb : Int64} {s_sc : Int32} {s_f : List Int64} {s_st : List Int32} {v_n : Int32} {v_sp : Int64} {v_sb : Int64} {v_sc : Int32} {v_f : List Int64} {v_st : List Int32} {h_k : Int32} {h_s : List Int32} {h_c : List Int64} {g_k : Int32} {g_v : Int32} {g_p : List Int32} {g_a : List Int32} {g_t : List Int32} {c_k : Int32} {c_t : List Int32} {c_p : List Int32} {i_l : Int32} {i_n : Int32} {i_f : Int64} {i_p : Int32} {i_o : Int32} {i_b : List Int32} {w_l : Int32} {w_s : List Int32} {x_e : List Int32} {x_l : List Int32} {w1 : Int32} {w3 : Int32} {w5 : Int32} {K : Int32 → Option (Int32)} (hK : ∀ (v4 : Int32)  (res : Int32), K v4 = some res → tG l E RX1 cX1_component 8 (some .int) false 2 (fun r h' => r = some (.int res) ∧ h' = encX x_hs s_n s_sp s_sb s_sc s_f s_st v_n v_sp v_sb v_sc v_f v_st h_k h_s h_c g_k g_v g_p g_a g_t c_k c_t c_p i_l i_n i_f i_p i_o i_b w_l w_s x_e x_l cr tl) 0 0 69 [(0, .ref 10), (1, .int w1), (3, .int w3), (4, .int v4), (5, .int w5)] [] (encX x_hs s_n s_sp s_sb s_sc s_f s_st v_n v_sp v_sb v_sc v_f v_st h_k h_s h_c g_k g_v g_p g_a g_t c_k c_t c_p i_l i_n i_f i_p i_o i_b w_l w_s x_e x_l cr tl)) :
    ∀ (fu : Nat) (v4 : Int32) (v6 : Int32) (res : Int32), f_X1_component_L18 w1 w3 g_a K fu v4 v6 = some res → tG l E RX1 cX1_component 8 (some .int) false 2 (fun r h' => r = some (.int res) ∧ h' = encX x_hs s_n s_sp s_sb s_sc s_f s_st v_n v_sp v_sb v_sc v_f v_st h_k h_s h_c g_k g_v g_p g_a g_t c_k c_t c_p i_l i_n i_f i_p i_o i_b w_l w_s x_e x_l cr tl) 0 0 18 [(0, .ref 10), (1, .int w1), (3, .int w3), (4, .int v4), (5, .int w5), (6, .int v6)] [] (encX x_hs s_n s_sp s_sb s_sc s_f s_st v_n v_sp v_sb v_sc v_f v_st h_k h_s h_c g_k g_v g_p g_a g_t c_k c_t c_p i_l i_n i_f i_p i_o i_b w_l w_s x_e x_l cr tl) := by
  intro fu
  induction fu with
  | zero => intro v4 v6 res hf; exact nomatch (show none = some res from hf)
  | succ fu ih =>
    intro v4 v6 res hf
    rw [f_X1_component_L18] at hf
    refine g_iload 5 (q := 20) dX1_component_18 rfl rfl ?_
    refine g_iconst (q := 21) (v := 5) dX1_component_20 rfl rfl ?_
    refine g_icmp_ge (t := 69) (q := 24) dX1_component_21 (by decide) rfl (fun c2 => ?_) (fun c2 => ?_)
    · rw [if_pos c2] at hf
      refine g_ls [0, 1, 2, 3, 4] rfl ?_
      exact hK _ _ hf
    · rw [if_neg c2] at hf
      refine g_iload 3 (q := 26) dX1_component_24 rfl rfl ?_
      refine g_iload 5 (q := 28) dX1_component_26 rfl rfl ?_
      refine g_callS (k2 := 0) (n2 := 0) (q := 31) (as := [.int v4, .int v6]) (st := []) (st1 := [.int (f_X7_hasVariable v4 v6)]) tm_X7_hasVariable ml_X1_47 ts_X7_hasVariable dX1_component_28 rfl ev_X7_hasVariable rfl rfl (Nat.le_of_ble_eq_true rfl) (by decide) rfl rfl (Or.inl rfl) rfl ?_
      refine g_if_eq (t := 63) (q := 34) dX1_component_31 (by decide) rfl (fun c3 => ?_) (fun c3 => ?_)
      · rw [if_pos c3] at hf
        refine g_iinc 5 (q := 66) (v := (v6 + 1)) (L' := [(0, .ref 10), (1, .int w1), (3, .int w3), (4, .int v4), (5, .int w5), (6, .int (v6 + 1))]) dX1_component_63 rfl rfl rfl (by decide) rfl ?_
        refine g_goto (t := 18) dX1_component_66 (by decide) ?_
        refine g_ls [0, 1, 2, 3, 4, 5] rfl ?_
        exact ih _ _ _ hf
      · rw [if_neg c3] at hf
        refine g_aload_n 0 (q := 35) dX1_component_34 rfl rfl ?_
        refine g_get (q := 38) fl_X1_51 dX1_component_35 rfl rfl rfl ?_
        refine g_iload 5 (q := 40) dX1_component_38 rfl rfl ?_
        obtain ⟨r4, e5, hf⟩ := Option.bind_eq_some_iff.mp hf
        refine g_iaload (q := 41) dX1_component_40 rfl rfl e5 ?_
        refine g_istore (q := 43) (L' := [(0, .ref 10), (1, .int w1), (3, .int w3), (4, .int v4), (5, .int w5), (6, .int v6), (7, .int r4)]) dX1_component_41 rfl (by decide) rfl ?_
        refine g_iload 3 (q := 45) dX1_component_43 rfl rfl ?_
        refine g_iload_n 1 (q := 46) dX1_component_45 rfl rfl ?_
        refine g_iload_n 2 (q := 47) dX1_component_46 rfl rfl ?_
        refine g_if_eq (t := 57) (q := 50) dX1_component_47 (by decide) rfl (fun c6 => ?_) (fun c6 => ?_)
        · rw [if_pos c6] at hf
          refine g_iload 6 (q := 59) dX1_component_57 rfl rfl ?_
          refine g_iand (q := 60) dX1_component_59 rfl ?_
          refine g_ior (q := 61) dX1_component_60 rfl ?_
          refine g_istore (q := 63) (L' := [(0, .ref 10), (1, .int w1), (3, .int w3), (4, .int (v4 ||| (w1 &&& r4))), (5, .int w5), (6, .int v6), (7, .int r4)]) dX1_component_61 rfl (by decide) rfl ?_
          refine g_iinc 5 (q := 66) (v := (v6 + 1)) (L' := [(0, .ref 10), (1, .int w1), (3, .int w3), (4, .int (v4 ||| (w1 &&& r4))), (5, .int w5), (6, .int (v6 + 1)), (7, .int r4)]) dX1_component_63 rfl rfl rfl (by decide) rfl ?_
          refine g_goto (t := 18) dX1_component_66 (by decide) ?_
          refine g_ls [0, 1, 2, 3, 4, 5] rfl ?_
          exact ih _ _ _ hf
        · rw [if_neg c6] at hf
          refine g_iload 6 (q := 52) dX1_component_50 rfl rfl ?_
          refine g_iconst (q := 53) (v := (-1)) dX1_component_52 rfl rfl ?_
          refine g_ixor (q := 54) dX1_component_53 rfl ?_
          refine g_goto (t := 59) dX1_component_54 (by decide) ?_
          refine g_iand (q := 60) dX1_component_59 rfl ?_
          refine g_ior (q := 61) dX1_component_60 rfl ?_
          refine g_istore (q := 63) (L' := [(0, .ref 10), (1, .int w1), (3, .int w3), (4, .int (v4 ||| (w1 &&& (r4 ^^^ (-1))))), (5, .int w5), (6, .int v6), (7, .int r4)]) dX1_component_61 rfl (by decide) rfl ?_
          refine g_iinc 5 (q := 66) (v := (v6 + 1)) (L' := [(0, .ref 10), (1, .int w1), (3, .int w3), (4, .int (v4 ||| (w1 &&& (r4 ^^^ (-1))))), (5, .int w5), (6, .int (v6 + 1)), (7, .int r4)]) dX1_component_63 rfl rfl rfl (by decide) rfl ?_
          refine g_goto (t := 18) dX1_component_66 (by decide) ?_
          refine g_ls [0, 1, 2, 3, 4, 5] rfl ?_
          exact ih _ _ _ hf
set_option maxRecDepth 20000 in
set_option maxHeartbeats 4000000 in
theorem ev_X1_component_L9 {l : Launch} {E : tEn} {cr : Value} {tl : tHp}  {x_hs : Int32} {s_n : Int32} {s_sp : Int64} {s_sb : Int64} {s_sc : Int32} {s_f : List Int64} {s_st : List Int32} {v_n : Int32} {v_sp : Int64} {v_sb : Int64} {v_sc : Int32} {v_f : List Int64} {v_st : List Int32} {h_k : Int32} {h_s : List Int32} {h_c : List Int64} {g_k : Int32} {g_v : Int32} {g_p : List Int32} {g_a : List Int32} {g_t : List Int32} {c_k : Int32} {c_t : List Int32} {c_p : List Int32} {i_l : Int32} {i_n : Int32} {i_f : Int64} {i_p : Int32} {i_o : Int32} {i_b : List Int32} {w_l : Int32} {w_s : List Int32} {x_e : List Int32} {x_l : List Int32} {w1 : Int32} {w3 : Int32} {K : Int32 → Option (Int32)} (hK : ∀ (v4 : Int32)  (res : Int32), K v4 = some res → tG l E RX1 cX1_component 8 (some .int) false 2 (fun r h' => r = some (.int res) ∧ h' = encX x_hs s_n s_sp s_sb s_sc s_f s_st v_n v_sp v_sb v_sc v_f v_st h_k h_s h_c g_k g_v g_p g_a g_t c_k c_t c_p i_l i_n i_f i_p i_o i_b w_l w_s x_e x_l cr tl) 0 0 75 [(4, .int v4)] [] (encX x_hs s_n s_sp s_sb s_sc s_f s_st v_n v_sp v_sb v_sc v_f v_st h_k h_s h_c g_k g_v g_p g_a g_t c_k c_t c_p i_l i_n i_f i_p i_o i_b w_l w_s x_e x_l cr tl)) :
    ∀ (fu : Nat) (v4 : Int32) (v5 : Int32) (res : Int32), f_X1_component_L9 w1 w3 g_a K fu v4 v5 = some res → tG l E RX1 cX1_component 8 (some .int) false 2 (fun r h' => r = some (.int res) ∧ h' = encX x_hs s_n s_sp s_sb s_sc s_f s_st v_n v_sp v_sb v_sc v_f v_st h_k h_s h_c g_k g_v g_p g_a g_t c_k c_t c_p i_l i_n i_f i_p i_o i_b w_l w_s x_e x_l cr tl) 0 0 9 [(0, .ref 10), (1, .int w1), (3, .int w3), (4, .int v4), (5, .int v5)] [] (encX x_hs s_n s_sp s_sb s_sc s_f s_st v_n v_sp v_sb v_sc v_f v_st h_k h_s h_c g_k g_v g_p g_a g_t c_k c_t c_p i_l i_n i_f i_p i_o i_b w_l w_s x_e x_l cr tl) := by
  intro fu
  induction fu with
  | zero => intro v4 v5 res hf; exact nomatch (show none = some res from hf)
  | succ fu ih =>
    intro v4 v5 res hf
    rw [f_X1_component_L9] at hf
    refine g_iload 4 (q := 11) dX1_component_9 rfl rfl ?_
    refine g_iconst (q := 12) (v := 5) dX1_component_11 rfl rfl ?_
    refine g_icmp_ge (t := 75) (q := 15) dX1_component_12 (by decide) rfl (fun c1 => ?_) (fun c1 => ?_)
    · rw [if_pos c1] at hf
      refine g_ls [3] rfl ?_
      exact hK _ _ hf
    · rw [if_neg c1] at hf
      refine g_iconst (q := 16) (v := 0) dX1_component_15 rfl rfl ?_
      refine g_istore (q := 18) (L' := [(0, .ref 10), (1, .int w1), (3, .int w3), (4, .int v4), (5, .int v5), (6, .int 0)]) dX1_component_16 rfl (by decide) rfl ?_
      refine g_ls [0, 1, 2, 3, 4, 5] rfl ?_
      refine ev_X1_component_L18 (fun y7 res hf => ?_) tFU _ _ res hf
      refine g_iinc 4 (q := 72) (v := (v5 + 1)) (L' := [(0, .ref 10), (1, .int w1), (3, .int w3), (4, .int y7), (5, .int (v5 + 1))]) dX1_component_69 rfl rfl rfl (by decide) rfl ?_
      refine g_goto (t := 9) dX1_component_72 (by decide) ?_
      refine g_ls [0, 1, 2, 3, 4] rfl ?_
      exact ih _ _ _ hf
set_option maxRecDepth 20000 in
set_option maxHeartbeats 4000000 in
theorem ev_X1_component {l : Launch} {E : tEn} {cr : Value} {tl : tHp} {x_hs : Int32} {s_n : Int32} {s_sp : Int64} {s_sb : Int64} {s_sc : Int32} {s_f : List Int64} {s_st : List Int32} {v_n : Int32} {v_sp : Int64} {v_sb : Int64} {v_sc : Int32} {v_f : List Int64} {v_st : List Int32} {h_k : Int32} {h_s : List Int32} {h_c : List Int64} {g_k : Int32} {g_v : Int32} {g_p : List Int32} {g_a : List Int32} {g_t : List Int32} {c_k : Int32} {c_t : List Int32} {c_p : List Int32} {i_l : Int32} {i_n : Int32} {i_f : Int64} {i_p : Int32} {i_o : Int32} {i_b : List Int32} {w_l : Int32} {w_s : List Int32} {x_e : List Int32} {x_l : List Int32} {a0 : Int32} {a1 : Int32} {a2 : Int32} {res : Int32} (hf : f_X1_component a0 a1 a2 g_a = some res) : tEv l E yX1_component cX1_component 8 (some .int) 2 0 0 [.ref 10, .int a0, .int a1, .int a2] (encX x_hs s_n s_sp s_sb s_sc s_f s_st v_n v_sp v_sb v_sc v_f v_st h_k h_s h_c g_k g_v g_p g_a g_t c_k c_t c_p i_l i_n i_f i_p i_o i_b w_l w_s x_e x_l cr tl) (fun r h' => r = some (.int res) ∧ h' = encX x_hs s_n s_sp s_sb s_sc s_f s_st v_n v_sp v_sb v_sc v_f v_st h_k h_s h_c g_k g_v g_p g_a g_t c_k c_t c_p i_l i_n i_f i_p i_o i_b w_l w_s x_e x_l cr tl) := by
  refine tEv.of (own := RX1) (ini := false) (L := [(0, .ref 10), (1, .int a0), (2, .int a1), (3, .int a2)]) (by decide +kernel) rfl (fun h9 => nomatch h9) rfl (Nat.le_of_ble_eq_true rfl) ?_
  rw [f_X1_component] at hf
  refine g_iload_n 2 (q := 1) dX1_component_0 rfl rfl ?_
  refine g_iload_n 2 (q := 2) dX1_component_1 rfl rfl ?_
  refine g_ineg (q := 3) dX1_component_2 rfl ?_
  refine g_iand (q := 4) dX1_component_3 rfl ?_
  refine g_istore (q := 6) (L' := [(0, .ref 10), (1, .int a0), (2, .int a1), (3, .int a2), (4, .int (a1 &&& (-a1)))]) dX1_component_4 rfl (by decide) rfl ?_
  refine g_iconst (q := 7) (v := 0) dX1_component_6 rfl rfl ?_
  refine g_istore (q := 9) (L' := [(0, .ref 10), (1, .int a0), (2, .int a1), (3, .int a2), (4, .int (a1 &&& (-a1))), (5, .int 0)]) dX1_component_7 rfl (by decide) rfl ?_
  refine g_ls [0, 1, 3, 4, 5] rfl ?_
  refine ev_X1_component_L9 (fun y8 res hf => ?_) tFU _ _ res hf
  refine g_iload 0 (q := 77) dX1_component_75 rfl rfl ?_
  have hf := Option.some.inj hf
  subst hf
  exact g_ireturn dX1_component_77 rfl ⟨rfl, rfl⟩
def f_X1_growChildren_L6 (rc : Int32 → Int32 → Int32 → List Int32 → Int32 → List Int32 → List Int32 → Option (Int32 × List Int32 × List Int32)) (w2 : Int32) (w3 : Int32) (w4 : Int32) (g_a : List Int32) (K : Int32 → List Int32 → List Int32 → Option (Int32 × List Int32 × List Int32)) : Nat → Int32 → Int32 → Int32 → List Int32 → List Int32 → Option (Int32 × List Int32 × List Int32)
  | 0, _, _, _, _, _ => none
  | fu + 1, v5, v6, c_k, c_t, c_p => (if 5 ≤ v6 then K  c_k c_t c_p else (if v5 = 0 then K  c_k c_t c_p else (tld c_t w3).bind fun r3 => (if r3 = 10 then (f_X1_component w2 v5 1 g_a).bind fun r10 => (rc r10 w3 w4 g_a c_k c_t c_p).bind fun r12 => f_X1_growChildren_L6 rc w2 w3 w4 g_a K fu (v5 &&& (r10 ^^^ (-1))) (v6 + 1) (r12.1) (r12.2.1) (r12.2.2) else (f_X1_component w2 v5 0 g_a).bind fun r6 => (rc r6 w3 w4 g_a c_k c_t c_p).bind fun r8 => f_X1_growChildren_L6 rc w2 w3 w4 g_a K fu (v5 &&& (r6 ^^^ (-1))) (v6 + 1) (r8.1) (r8.2.1) (r8.2.2))))
def f_X1_growChildren (rc : Int32 → Int32 → Int32 → List Int32 → Int32 → List Int32 → List Int32 → Option (Int32 × List Int32 × List Int32)) (a0 : Int32) (a1 : Int32) (a2 : Int32) (g_a : List Int32) (c_k : Int32) (c_t : List Int32) (c_p : List Int32) : Option (Int32 × List Int32 × List Int32) := f_X1_growChildren_L6 rc a0 a1 a2 g_a (fun k14 k15 k16 => some (k14, k15, k16)) tFU a0 0 c_k c_t c_p
set_option maxRecDepth 20000 in
set_option maxHeartbeats 4000000 in
theorem ev_X1_growChildren_L6 {l : Launch} {E : tEn} {cr : Value} {tl : tHp} {rc : Int32 → Int32 → Int32 → List Int32 → Int32 → List Int32 → List Int32 → Option (Int32 × List Int32 × List Int32)} {dd dq : Nat} (hdd : 3 ≤ dd) (hdq : dd + 1 ≤ dq) (hrc : ∀ {x_hs : Int32} {s_n : Int32} {s_sp : Int64} {s_sb : Int64} {s_sc : Int32} {s_f : List Int64} {s_st : List Int32} {v_n : Int32} {v_sp : Int64} {v_sb : Int64} {v_sc : Int32} {v_f : List Int64} {v_st : List Int32} {h_k : Int32} {h_s : List Int32} {h_c : List Int64} {g_k : Int32} {g_v : Int32} {g_p : List Int32} {g_a : List Int32} {g_t : List Int32} {c_k : Int32} {c_t : List Int32} {c_p : List Int32} {i_l : Int32} {i_n : Int32} {i_f : Int64} {i_p : Int32} {i_o : Int32} {i_b : List Int32} {w_l : Int32} {w_s : List Int32} {x_e : List Int32} {x_l : List Int32} {a0 : Int32} {a1 : Int32} {a2 : Int32} {res : Int32 × List Int32 × List Int32}, rc a0 a1 a2 g_a c_k c_t c_p = some res → tEv l E yX1_grow cX1_grow 7 none dd 0 0 [.ref 14, .ref 10, .int a0, .int a1, .int a2] (encX x_hs s_n s_sp s_sb s_sc s_f s_st v_n v_sp v_sb v_sc v_f v_st h_k h_s h_c g_k g_v g_p g_a g_t c_k c_t c_p i_l i_n i_f i_p i_o i_b w_l w_s x_e x_l cr tl) (fun r h' => r = none ∧ h' = encX x_hs s_n s_sp s_sb s_sc s_f s_st v_n v_sp v_sb v_sc v_f v_st h_k h_s h_c g_k g_v g_p g_a g_t (res.1) (res.2.1) (res.2.2) i_l i_n i_f i_p i_o i_b w_l w_s x_e x_l cr tl)) {x_hs : Int32} {s_n : Int32} {s_sp : Int64} {s_sb : Int64} {s_sc : Int32} {s_f : List Int64} {s_st : List Int32} {v_n : Int32} {v_sp : Int64} {v_sb : Int64} {v_sc : Int32} {v_f : List Int64} {v_st : List Int32} {h_k : Int32} {h_s : List Int32} {h_c : List Int64} {g_k : Int32} {g_v : Int32} {g_p : List Int32} {g_a : List Int32} {g_t : List Int32} {i_l : Int32} {i_n : Int32} {i_f : Int64} {i_p : Int32} {i_o : Int32} {i_b : List Int32} {w_l : Int32} {w_s : List Int32} {x_e : List Int32} {x_l : List Int32} {w2 : Int32} {w3 : Int32} {w4 : Int32} {K : Int32 → List Int32 → List Int32 → Option (Int32 × List Int32 × List Int32)} (hK : ∀  (c_k : Int32) (c_t : List Int32) (c_p : List Int32) (res : Int32 × List Int32 × List Int32), K c_k c_t c_p = some res → tG l E RX1 cX1_growChildren 8 none false dq (fun r h' => r = none ∧ h' = encX x_hs s_n s_sp s_sb s_sc s_f s_st v_n v_sp v_sb v_sc v_f v_st h_k h_s h_c g_k g_v g_p g_a g_t (res.1) (res.2.1) (res.2.2) i_l i_n i_f i_p i_o i_b w_l w_s x_e x_l cr tl) 0 0 67 [] [] (encX x_hs s_n s_sp s_sb s_sc s_f s_st v_n v_sp v_sb v_sc v_f v_st h_k h_s h_c g_k g_v g_p g_a g_t c_k c_t c_p i_l i_n i_f i_p i_o i_b w_l w_s x_e x_l cr tl)) :
    ∀ (fu : Nat) (v5 : Int32) (v6 : Int32) (c_k : Int32) (c_t : List Int32) (c_p : List Int32) (res : Int32 × List Int32 × List Int32), f_X1_growChildren_L6 rc w2 w3 w4 g_a K fu v5 v6 c_k c_t c_p = some res → tG l E RX1 cX1_growChildren 8 none false dq (fun r h' => r = none ∧ h' = encX x_hs s_n s_sp s_sb s_sc s_f s_st v_n v_sp v_sb v_sc v_f v_st h_k h_s h_c g_k g_v g_p g_a g_t (res.1) (res.2.1) (res.2.2) i_l i_n i_f i_p i_o i_b w_l w_s x_e x_l cr tl) 0 0 6 [(0, .ref 14), (1, .ref 10), (2, .int w2), (3, .int w3), (4, .int w4), (5, .int v5), (6, .int v6)] [] (encX x_hs s_n s_sp s_sb s_sc s_f s_st v_n v_sp v_sb v_sc v_f v_st h_k h_s h_c g_k g_v g_p g_a g_t c_k c_t c_p i_l i_n i_f i_p i_o i_b w_l w_s x_e x_l cr tl) := by
  intro fu
  induction fu with
  | zero => intro v5 v6 c_k c_t c_p res hf; exact nomatch (show none = some res from hf)
  | succ fu ih =>
    intro v5 v6 c_k c_t c_p res hf
    rw [f_X1_growChildren_L6] at hf
    refine g_iload 6 (q := 8) dX1_growChildren_6 rfl rfl ?_
    refine g_iconst (q := 9) (v := 5) dX1_growChildren_8 rfl rfl ?_
    refine g_icmp_ge (t := 67) (q := 12) dX1_growChildren_9 (by decide) rfl (fun c1 => ?_) (fun c1 => ?_)
    · rw [if_pos c1] at hf
      refine g_ls [] rfl ?_
      exact hK _ _ _ _ hf
    · rw [if_neg c1] at hf
      refine g_iload 5 (q := 14) dX1_growChildren_12 rfl rfl ?_
      refine g_if_eq (t := 67) (q := 17) dX1_growChildren_14 (by decide) rfl (fun c2 => ?_) (fun c2 => ?_)
      · rw [if_pos c2] at hf
        refine g_ls [] rfl ?_
        exact hK _ _ _ _ hf
      · rw [if_neg c2] at hf
        refine g_aload_n 1 (q := 18) dX1_growChildren_17 rfl rfl ?_
        refine g_iload_n 2 (q := 19) dX1_growChildren_18 rfl rfl ?_
        refine g_iload 5 (q := 21) dX1_growChildren_19 rfl rfl ?_
        refine g_aload_n 0 (q := 22) dX1_growChildren_21 rfl rfl ?_
        refine g_get (q := 25) fl_X1_11 dX1_growChildren_22 rfl rfl rfl ?_
        refine g_iload_n 3 (q := 26) dX1_growChildren_25 rfl rfl ?_
        obtain ⟨r3, e4, hf⟩ := Option.bind_eq_some_iff.mp hf
        refine g_iaload (q := 27) dX1_growChildren_26 rfl rfl e4 ?_
        refine g_bipush (q := 29) (v := 10) dX1_growChildren_27 rfl rfl ?_
        refine g_icmp_ne (t := 36) (q := 32) dX1_growChildren_29 (by decide) rfl (fun c5 => ?_) (fun c5 => ?_)
        · rw [if_neg c5] at hf
          refine g_iconst (q := 37) (v := 0) dX1_growChildren_36 rfl rfl ?_
          obtain ⟨r6, e7, hf⟩ := Option.bind_eq_some_iff.mp hf
          refine g_callS (k2 := 0) (n2 := 0) (q := 40) (as := [.ref 10, .int w2, .int v5, .int 0]) (st := []) (st1 := [.int r6]) tm_X1_component ml_X1_40 ts_X1_component dX1_growChildren_37 rfl (ev_X1_component e7) rfl rfl (Nat.le_of_ble_eq_true rfl) (by omega) rfl rfl (Or.inl rfl) rfl ?_
          refine g_istore (q := 42) (L' := [(0, .ref 14), (1, .ref 10), (2, .int w2), (3, .int w3), (4, .int w4), (5, .int v5), (6, .int v6), (7, .int r6)]) dX1_growChildren_40 rfl (by decide) rfl ?_
          refine g_aload_n 0 (q := 43) dX1_growChildren_42 rfl rfl ?_
          refine g_aload_n 1 (q := 44) dX1_growChildren_43 rfl rfl ?_
          refine g_iload 7 (q := 46) dX1_growChildren_44 rfl rfl ?_
          refine g_iload_n 3 (q := 47) dX1_growChildren_46 rfl rfl ?_
          refine g_iload 4 (q := 49) dX1_growChildren_47 rfl rfl ?_
          obtain ⟨r8, e9, hf⟩ := Option.bind_eq_some_iff.mp hf
          refine g_callV (a := 14) (k2 := 0) (n2 := 0) (q := 52) (as := [.ref 10, .int r6, .int w3, .int w4]) (st := []) (st1 := []) tm_X1_grow ml_X1_27 ti_X1_grow rfl rfl dX1_growChildren_49 rfl (hrc e9) rfl rfl (Nat.le_of_ble_eq_true rfl) (by omega) rfl rfl (Or.inl (encX_len.trans encX_len.symm)) rfl ?_
          refine g_iload 5 (q := 54) dX1_growChildren_52 rfl rfl ?_
          refine g_iload 7 (q := 56) dX1_growChildren_54 rfl rfl ?_
          refine g_iconst (q := 57) (v := (-1)) dX1_growChildren_56 rfl rfl ?_
          refine g_ixor (q := 58) dX1_growChildren_57 rfl ?_
          refine g_iand (q := 59) dX1_growChildren_58 rfl ?_
          refine g_istore (q := 61) (L' := [(0, .ref 14), (1, .ref 10), (2, .int w2), (3, .int w3), (4, .int w4), (5, .int (v5 &&& (r6 ^^^ (-1)))), (6, .int v6), (7, .int r6)]) dX1_growChildren_59 rfl (by decide) rfl ?_
          refine g_iinc 6 (q := 64) (v := (v6 + 1)) (L' := [(0, .ref 14), (1, .ref 10), (2, .int w2), (3, .int w3), (4, .int w4), (5, .int (v5 &&& (r6 ^^^ (-1)))), (6, .int (v6 + 1)), (7, .int r6)]) dX1_growChildren_61 rfl rfl rfl (by decide) rfl ?_
          refine g_goto (t := 6) dX1_growChildren_64 (by decide) ?_
          refine g_ls [0, 1, 2, 3, 4, 5, 6] rfl ?_
          exact ih _ _ _ _ _ _ hf
        · rw [if_pos c5] at hf
          refine g_iconst (q := 33) (v := 1) dX1_growChildren_32 rfl rfl ?_
          refine g_goto (t := 37) dX1_growChildren_33 (by decide) ?_
          obtain ⟨r10, e11, hf⟩ := Option.bind_eq_some_iff.mp hf
          refine g_callS (k2 := 0) (n2 := 0) (q := 40) (as := [.ref 10, .int w2, .int v5, .int 1]) (st := []) (st1 := [.int r10]) tm_X1_component ml_X1_40 ts_X1_component dX1_growChildren_37 rfl (ev_X1_component e11) rfl rfl (Nat.le_of_ble_eq_true rfl) (by omega) rfl rfl (Or.inl rfl) rfl ?_
          refine g_istore (q := 42) (L' := [(0, .ref 14), (1, .ref 10), (2, .int w2), (3, .int w3), (4, .int w4), (5, .int v5), (6, .int v6), (7, .int r10)]) dX1_growChildren_40 rfl (by decide) rfl ?_
          refine g_aload_n 0 (q := 43) dX1_growChildren_42 rfl rfl ?_
          refine g_aload_n 1 (q := 44) dX1_growChildren_43 rfl rfl ?_
          refine g_iload 7 (q := 46) dX1_growChildren_44 rfl rfl ?_
          refine g_iload_n 3 (q := 47) dX1_growChildren_46 rfl rfl ?_
          refine g_iload 4 (q := 49) dX1_growChildren_47 rfl rfl ?_
          obtain ⟨r12, e13, hf⟩ := Option.bind_eq_some_iff.mp hf
          refine g_callV (a := 14) (k2 := 0) (n2 := 0) (q := 52) (as := [.ref 10, .int r10, .int w3, .int w4]) (st := []) (st1 := []) tm_X1_grow ml_X1_27 ti_X1_grow rfl rfl dX1_growChildren_49 rfl (hrc e13) rfl rfl (Nat.le_of_ble_eq_true rfl) (by omega) rfl rfl (Or.inl (encX_len.trans encX_len.symm)) rfl ?_
          refine g_iload 5 (q := 54) dX1_growChildren_52 rfl rfl ?_
          refine g_iload 7 (q := 56) dX1_growChildren_54 rfl rfl ?_
          refine g_iconst (q := 57) (v := (-1)) dX1_growChildren_56 rfl rfl ?_
          refine g_ixor (q := 58) dX1_growChildren_57 rfl ?_
          refine g_iand (q := 59) dX1_growChildren_58 rfl ?_
          refine g_istore (q := 61) (L' := [(0, .ref 14), (1, .ref 10), (2, .int w2), (3, .int w3), (4, .int w4), (5, .int (v5 &&& (r10 ^^^ (-1)))), (6, .int v6), (7, .int r10)]) dX1_growChildren_59 rfl (by decide) rfl ?_
          refine g_iinc 6 (q := 64) (v := (v6 + 1)) (L' := [(0, .ref 14), (1, .ref 10), (2, .int w2), (3, .int w3), (4, .int w4), (5, .int (v5 &&& (r10 ^^^ (-1)))), (6, .int (v6 + 1)), (7, .int r10)]) dX1_growChildren_61 rfl rfl rfl (by decide) rfl ?_
          refine g_goto (t := 6) dX1_growChildren_64 (by decide) ?_
          refine g_ls [0, 1, 2, 3, 4, 5, 6] rfl ?_
          exact ih _ _ _ _ _ _ hf
set_option maxRecDepth 20000 in
set_option maxHeartbeats 4000000 in
theorem ev_X1_growChildren {l : Launch} {E : tEn} {cr : Value} {tl : tHp} {rc : Int32 → Int32 → Int32 → List Int32 → Int32 → List Int32 → List Int32 → Option (Int32 × List Int32 × List Int32)} {dd dq : Nat} (hdd : 3 ≤ dd) (hdq : dd + 1 ≤ dq) (hrc : ∀ {x_hs : Int32} {s_n : Int32} {s_sp : Int64} {s_sb : Int64} {s_sc : Int32} {s_f : List Int64} {s_st : List Int32} {v_n : Int32} {v_sp : Int64} {v_sb : Int64} {v_sc : Int32} {v_f : List Int64} {v_st : List Int32} {h_k : Int32} {h_s : List Int32} {h_c : List Int64} {g_k : Int32} {g_v : Int32} {g_p : List Int32} {g_a : List Int32} {g_t : List Int32} {c_k : Int32} {c_t : List Int32} {c_p : List Int32} {i_l : Int32} {i_n : Int32} {i_f : Int64} {i_p : Int32} {i_o : Int32} {i_b : List Int32} {w_l : Int32} {w_s : List Int32} {x_e : List Int32} {x_l : List Int32} {a0 : Int32} {a1 : Int32} {a2 : Int32} {res : Int32 × List Int32 × List Int32}, rc a0 a1 a2 g_a c_k c_t c_p = some res → tEv l E yX1_grow cX1_grow 7 none dd 0 0 [.ref 14, .ref 10, .int a0, .int a1, .int a2] (encX x_hs s_n s_sp s_sb s_sc s_f s_st v_n v_sp v_sb v_sc v_f v_st h_k h_s h_c g_k g_v g_p g_a g_t c_k c_t c_p i_l i_n i_f i_p i_o i_b w_l w_s x_e x_l cr tl) (fun r h' => r = none ∧ h' = encX x_hs s_n s_sp s_sb s_sc s_f s_st v_n v_sp v_sb v_sc v_f v_st h_k h_s h_c g_k g_v g_p g_a g_t (res.1) (res.2.1) (res.2.2) i_l i_n i_f i_p i_o i_b w_l w_s x_e x_l cr tl)) {x_hs : Int32} {s_n : Int32} {s_sp : Int64} {s_sb : Int64} {s_sc : Int32} {s_f : List Int64} {s_st : List Int32} {v_n : Int32} {v_sp : Int64} {v_sb : Int64} {v_sc : Int32} {v_f : List Int64} {v_st : List Int32} {h_k : Int32} {h_s : List Int32} {h_c : List Int64} {g_k : Int32} {g_v : Int32} {g_p : List Int32} {g_a : List Int32} {g_t : List Int32} {c_k : Int32} {c_t : List Int32} {c_p : List Int32} {i_l : Int32} {i_n : Int32} {i_f : Int64} {i_p : Int32} {i_o : Int32} {i_b : List Int32} {w_l : Int32} {w_s : List Int32} {x_e : List Int32} {x_l : List Int32} {a0 : Int32} {a1 : Int32} {a2 : Int32} {res : Int32 × List Int32 × List Int32} (hf : f_X1_growChildren rc a0 a1 a2 g_a c_k c_t c_p = some res) : tEv l E yX1_growChildren cX1_growChildren 8 none dq 0 0 [.ref 14, .ref 10, .int a0, .int a1, .int a2] (encX x_hs s_n s_sp s_sb s_sc s_f s_st v_n v_sp v_sb v_sc v_f v_st h_k h_s h_c g_k g_v g_p g_a g_t c_k c_t c_p i_l i_n i_f i_p i_o i_b w_l w_s x_e x_l cr tl) (fun r h' => r = none ∧ h' = encX x_hs s_n s_sp s_sb s_sc s_f s_st v_n v_sp v_sb v_sc v_f v_st h_k h_s h_c g_k g_v g_p g_a g_t (res.1) (res.2.1) (res.2.2) i_l i_n i_f i_p i_o i_b w_l w_s x_e x_l cr tl) := by
  refine tEv.of (own := RX1) (ini := false) (L := [(0, .ref 14), (1, .ref 10), (2, .int a0), (3, .int a1), (4, .int a2)]) (by decide +kernel) rfl (fun h9 => nomatch h9) rfl (Nat.le_of_ble_eq_true rfl) ?_
  rw [f_X1_growChildren] at hf
  refine g_iload_n 2 (q := 1) dX1_growChildren_0 rfl rfl ?_
  refine g_istore (q := 3) (L' := [(0, .ref 14), (1, .ref 10), (2, .int a0), (3, .int a1), (4, .int a2), (5, .int a0)]) dX1_growChildren_1 rfl (by decide) rfl ?_
  refine g_iconst (q := 4) (v := 0) dX1_growChildren_3 rfl rfl ?_
  refine g_istore (q := 6) (L' := [(0, .ref 14), (1, .ref 10), (2, .int a0), (3, .int a1), (4, .int a2), (5, .int a0), (6, .int 0)]) dX1_growChildren_4 rfl (by decide) rfl ?_
  refine g_ls [0, 1, 2, 3, 4, 5, 6] rfl ?_
  refine ev_X1_growChildren_L6 hdd hdq hrc (fun k14 k15 k16 res hf => ?_) tFU _ _ _ _ _ res hf
  have hf := Option.some.inj hf
  subst hf
  exact g_return dX1_growChildren_67 rfl ⟨rfl, rfl⟩
def f_X1_grow : Nat → (Int32 → Int32 → Int32 → List Int32 → Int32 → List Int32 → List Int32 → Option (Int32 × List Int32 × List Int32))
  | 0 => fun _ _ _ _ _ _ _ => none
  | D + 1 => fun a0 a1 a2 g_a c_k c_t c_p => (if 5 < a2 then some (c_k, c_t, c_p) else (if c_k < 9 then (tst c_p c_k a1).bind fun z3 => (if (f_J6_bitCount_0f7a4 a0) = 1 then (f_X7_lowestVariable a0).bind fun r17 => (tst c_t c_k r17).bind fun z19 => some ((c_k + 1), z19, z3) else (f_X1_component a0 a0 0 g_a).bind fun r6 => (if r6 = a0 then (tst c_t c_k 10).bind fun z13 => (f_X1_growChildren (f_X1_grow D) a0 c_k (a2 + 1) g_a (c_k + 1) z13 z3).bind fun r15 => some (r15.1, r15.2.1, r15.2.2) else (tst c_t c_k 11).bind fun z9 => (f_X1_growChildren (f_X1_grow D) a0 c_k (a2 + 1) g_a (c_k + 1) z9 z3).bind fun r11 => some (r11.1, r11.2.1, r11.2.2))) else some (c_k, c_t, c_p)))
set_option maxRecDepth 20000 in
set_option maxHeartbeats 4000000 in
theorem ev_X1_grow {l : Launch} {E : tEn} {cr : Value} {tl : tHp} : ∀ (D : Nat) {x_hs : Int32} {s_n : Int32} {s_sp : Int64} {s_sb : Int64} {s_sc : Int32} {s_f : List Int64} {s_st : List Int32} {v_n : Int32} {v_sp : Int64} {v_sb : Int64} {v_sc : Int32} {v_f : List Int64} {v_st : List Int32} {h_k : Int32} {h_s : List Int32} {h_c : List Int64} {g_k : Int32} {g_v : Int32} {g_p : List Int32} {g_a : List Int32} {g_t : List Int32} {c_k : Int32} {c_t : List Int32} {c_p : List Int32} {i_l : Int32} {i_n : Int32} {i_f : Int64} {i_p : Int32} {i_o : Int32} {i_b : List Int32} {w_l : Int32} {w_s : List Int32} {x_e : List Int32} {x_l : List Int32} {a0 : Int32} {a1 : Int32} {a2 : Int32} {res : Int32 × List Int32 × List Int32}, f_X1_grow D a0 a1 a2 g_a c_k c_t c_p = some res → tEv l E yX1_grow cX1_grow 7 none (2 * D + 3) 0 0 [.ref 14, .ref 10, .int a0, .int a1, .int a2] (encX x_hs s_n s_sp s_sb s_sc s_f s_st v_n v_sp v_sb v_sc v_f v_st h_k h_s h_c g_k g_v g_p g_a g_t c_k c_t c_p i_l i_n i_f i_p i_o i_b w_l w_s x_e x_l cr tl) (fun r h' => r = none ∧ h' = encX x_hs s_n s_sp s_sb s_sc s_f s_st v_n v_sp v_sb v_sc v_f v_st h_k h_s h_c g_k g_v g_p g_a g_t (res.1) (res.2.1) (res.2.2) i_l i_n i_f i_p i_o i_b w_l w_s x_e x_l cr tl) := by
  intro D
  induction D with
  | zero => intro x_hs s_n s_sp s_sb s_sc s_f s_st v_n v_sp v_sb v_sc v_f v_st h_k h_s h_c g_k g_v g_p g_a g_t c_k c_t c_p i_l i_n i_f i_p i_o i_b w_l w_s x_e x_l a0 a1 a2 res hf; exact nomatch (show none = some res from hf)
  | succ D ih =>
    intro x_hs s_n s_sp s_sb s_sc s_f s_st v_n v_sp v_sb v_sc v_f v_st h_k h_s h_c g_k g_v g_p g_a g_t c_k c_t c_p i_l i_n i_f i_p i_o i_b w_l w_s x_e x_l a0 a1 a2 res hf
    have hrc := @ih
    have hdd : 3 ≤ 2 * D + 3 := by omega
    have hdq : 2 * D + 3 + 2 ≤ 2 * (D + 1) + 3 := by omega
    refine tEv.of (own := RX1) (ini := false) (L := [(0, .ref 14), (1, .ref 10), (2, .int a0), (3, .int a1), (4, .int a2)]) (by decide +kernel) rfl (fun h9 => nomatch h9) rfl (Nat.le_of_ble_eq_true rfl) ?_
    rw [f_X1_grow] at hf
    dsimp only at hf
    refine g_iload 4 (q := 2) dX1_grow_0 rfl rfl ?_
    refine g_iconst (q := 3) (v := 5) dX1_grow_2 rfl rfl ?_
    refine g_icmp_gt (t := 15) (q := 6) dX1_grow_3 (by decide) rfl (fun c1 => ?_) (fun c1 => ?_)
    · rw [if_pos c1] at hf
      have hf := Option.some.inj hf
      subst hf
      exact g_return dX1_grow_15 rfl ⟨rfl, rfl⟩
    · rw [if_neg c1] at hf
      refine g_aload_n 0 (q := 7) dX1_grow_6 rfl rfl ?_
      refine g_get (q := 10) fl_X1_18 dX1_grow_7 rfl rfl rfl ?_
      refine g_bipush (q := 12) (v := 9) dX1_grow_10 rfl rfl ?_
      refine g_icmp_lt (t := 16) (q := 15) dX1_grow_12 (by decide) rfl (fun c2 => ?_) (fun c2 => ?_)
      · rw [if_pos c2] at hf
        refine g_aload_n 0 (q := 17) dX1_grow_16 rfl rfl ?_
        refine g_get (q := 20) fl_X1_18 dX1_grow_17 rfl rfl rfl ?_
        refine g_istore (q := 22) (L' := [(0, .ref 14), (1, .ref 10), (2, .int a0), (3, .int a1), (4, .int a2), (5, .int c_k)]) dX1_grow_20 rfl (by decide) rfl ?_
        refine g_aload_n 0 (q := 23) dX1_grow_22 rfl rfl ?_
        refine g_dup (q := 24) dX1_grow_23 rfl rfl ?_
        refine g_get (q := 27) fl_X1_18 dX1_grow_24 rfl rfl rfl ?_
        refine g_iconst (q := 28) (v := 1) dX1_grow_27 rfl rfl ?_
        refine g_iadd (q := 29) dX1_grow_28 rfl ?_
        refine g_put (q := 32) (h' := encX x_hs s_n s_sp s_sb s_sc s_f s_st v_n v_sp v_sb v_sc v_f v_st h_k h_s h_c g_k g_v g_p g_a g_t (c_k + 1) c_t c_p i_l i_n i_f i_p i_o i_b w_l w_s x_e x_l cr tl) fp_X1_18 dX1_grow_29 rfl rfl (Nat.le_of_ble_eq_true rfl) (fun _ => ⟨rfl, rfl⟩) rfl ?_
        refine g_aload_n 0 (q := 33) dX1_grow_32 rfl rfl ?_
        refine g_get (q := 36) fl_X1_15 dX1_grow_33 rfl rfl rfl ?_
        refine g_iload 5 (q := 38) dX1_grow_36 rfl rfl ?_
        refine g_iload_n 3 (q := 39) dX1_grow_38 rfl rfl ?_
        obtain ⟨z3, e4, hf⟩ := Option.bind_eq_some_iff.mp hf
        refine g_iastore (q := 40) (h' := encX x_hs s_n s_sp s_sb s_sc s_f s_st v_n v_sp v_sb v_sc v_f v_st h_k h_s h_c g_k g_v g_p g_a g_t (c_k + 1) c_t z3 i_l i_n i_f i_p i_o i_b w_l w_s x_e x_l cr tl) dX1_grow_39 rfl rfl e4 rfl ?_
        refine g_iload_n 2 (q := 41) dX1_grow_40 rfl rfl ?_
        refine g_callS (k2 := 0) (n2 := 0) (q := 44) (as := [.int a0]) (st := []) (st1 := [.int (f_J6_bitCount_0f7a4 a0)]) tm_J6_bitCount_0f7a4 ml_X1_31 ts_J6_bitCount_0f7a4 dX1_grow_41 rfl ev_J6_bitCount_0f7a4 rfl rfl (Nat.le_of_ble_eq_true rfl) (by omega) rfl rfl (Or.inl rfl) rfl ?_
        refine g_iconst (q := 45) (v := 1) dX1_grow_44 rfl rfl ?_
        refine g_icmp_ne (t := 60) (q := 48) dX1_grow_45 (by decide) rfl (fun c5 => ?_) (fun c5 => ?_)
        · rw [if_neg c5] at hf
          refine g_aload_n 1 (q := 61) dX1_grow_60 rfl rfl ?_
          refine g_iload_n 2 (q := 62) dX1_grow_61 rfl rfl ?_
          refine g_iload_n 2 (q := 63) dX1_grow_62 rfl rfl ?_
          refine g_iconst (q := 64) (v := 0) dX1_grow_63 rfl rfl ?_
          obtain ⟨r6, e7, hf⟩ := Option.bind_eq_some_iff.mp hf
          refine g_callS (k2 := 0) (n2 := 0) (q := 67) (as := [.ref 10, .int a0, .int a0, .int 0]) (st := []) (st1 := [.int r6]) tm_X1_component ml_X1_40 ts_X1_component dX1_grow_64 rfl (ev_X1_component e7) rfl rfl (Nat.le_of_ble_eq_true rfl) (by omega) rfl rfl (Or.inl rfl) rfl ?_
          refine g_iload_n 2 (q := 68) dX1_grow_67 rfl rfl ?_
          refine g_icmp_ne (t := 75) (q := 71) dX1_grow_68 (by decide) rfl (fun c8 => ?_) (fun c8 => ?_)
          · rw [if_neg c8] at hf
            refine g_iconst (q := 76) (v := 0) dX1_grow_75 rfl rfl ?_
            refine g_istore (q := 78) (L' := [(0, .ref 14), (1, .ref 10), (2, .int a0), (3, .int a1), (4, .int a2), (5, .int c_k), (6, .int 0)]) dX1_grow_76 rfl (by decide) rfl ?_
            refine g_aload_n 0 (q := 79) dX1_grow_78 rfl rfl ?_
            refine g_get (q := 82) fl_X1_11 dX1_grow_79 rfl rfl rfl ?_
            refine g_iload 5 (q := 84) dX1_grow_82 rfl rfl ?_
            refine g_iload 6 (q := 86) dX1_grow_84 rfl rfl ?_
            refine g_if_eq (t := 94) (q := 89) dX1_grow_86 (by decide) rfl (fun _ => ?_) (fun c => absurd c (by decide))
            refine g_bipush (q := 96) (v := 11) dX1_grow_94 rfl rfl ?_
            obtain ⟨z9, e10, hf⟩ := Option.bind_eq_some_iff.mp hf
            refine g_iastore (q := 97) (h' := encX x_hs s_n s_sp s_sb s_sc s_f s_st v_n v_sp v_sb v_sc v_f v_st h_k h_s h_c g_k g_v g_p g_a g_t (c_k + 1) z9 z3 i_l i_n i_f i_p i_o i_b w_l w_s x_e x_l cr tl) dX1_grow_96 rfl rfl e10 rfl ?_
            refine g_aload_n 0 (q := 98) dX1_grow_97 rfl rfl ?_
            refine g_aload_n 1 (q := 99) dX1_grow_98 rfl rfl ?_
            refine g_iload_n 2 (q := 100) dX1_grow_99 rfl rfl ?_
            refine g_iload 5 (q := 102) dX1_grow_100 rfl rfl ?_
            refine g_iload 4 (q := 104) dX1_grow_102 rfl rfl ?_
            refine g_iconst (q := 105) (v := 1) dX1_grow_104 rfl rfl ?_
            refine g_iadd (q := 106) dX1_grow_105 rfl ?_
            obtain ⟨r11, e12, hf⟩ := Option.bind_eq_some_iff.mp hf
            refine g_callV (a := 14) (k2 := 0) (n2 := 0) (q := 109) (as := [.ref 10, .int a0, .int c_k, .int (a2 + 1)]) (st := []) (st1 := []) tm_X1_growChildren ml_X1_44 ti_X1_growChildren rfl rfl dX1_grow_106 rfl (ev_X1_growChildren hdd (Nat.le_refl _) hrc e12) rfl rfl (Nat.le_of_ble_eq_true rfl) (by omega) rfl rfl (Or.inl (encX_len.trans encX_len.symm)) rfl ?_
            have hf := Option.some.inj hf
            subst hf
            exact g_return dX1_grow_109 rfl ⟨rfl, rfl⟩
          · rw [if_pos c8] at hf
            refine g_iconst (q := 72) (v := 1) dX1_grow_71 rfl rfl ?_
            refine g_goto (t := 76) dX1_grow_72 (by decide) ?_
            refine g_istore (q := 78) (L' := [(0, .ref 14), (1, .ref 10), (2, .int a0), (3, .int a1), (4, .int a2), (5, .int c_k), (6, .int 1)]) dX1_grow_76 rfl (by decide) rfl ?_
            refine g_aload_n 0 (q := 79) dX1_grow_78 rfl rfl ?_
            refine g_get (q := 82) fl_X1_11 dX1_grow_79 rfl rfl rfl ?_
            refine g_iload 5 (q := 84) dX1_grow_82 rfl rfl ?_
            refine g_iload 6 (q := 86) dX1_grow_84 rfl rfl ?_
            refine g_if_eq (t := 94) (q := 89) dX1_grow_86 (by decide) rfl (fun c => absurd c (by decide)) (fun _ => ?_)
            refine g_bipush (q := 91) (v := 10) dX1_grow_89 rfl rfl ?_
            refine g_goto (t := 96) dX1_grow_91 (by decide) ?_
            obtain ⟨z13, e14, hf⟩ := Option.bind_eq_some_iff.mp hf
            refine g_iastore (q := 97) (h' := encX x_hs s_n s_sp s_sb s_sc s_f s_st v_n v_sp v_sb v_sc v_f v_st h_k h_s h_c g_k g_v g_p g_a g_t (c_k + 1) z13 z3 i_l i_n i_f i_p i_o i_b w_l w_s x_e x_l cr tl) dX1_grow_96 rfl rfl e14 rfl ?_
            refine g_aload_n 0 (q := 98) dX1_grow_97 rfl rfl ?_
            refine g_aload_n 1 (q := 99) dX1_grow_98 rfl rfl ?_
            refine g_iload_n 2 (q := 100) dX1_grow_99 rfl rfl ?_
            refine g_iload 5 (q := 102) dX1_grow_100 rfl rfl ?_
            refine g_iload 4 (q := 104) dX1_grow_102 rfl rfl ?_
            refine g_iconst (q := 105) (v := 1) dX1_grow_104 rfl rfl ?_
            refine g_iadd (q := 106) dX1_grow_105 rfl ?_
            obtain ⟨r15, e16, hf⟩ := Option.bind_eq_some_iff.mp hf
            refine g_callV (a := 14) (k2 := 0) (n2 := 0) (q := 109) (as := [.ref 10, .int a0, .int c_k, .int (a2 + 1)]) (st := []) (st1 := []) tm_X1_growChildren ml_X1_44 ti_X1_growChildren rfl rfl dX1_grow_106 rfl (ev_X1_growChildren hdd (Nat.le_refl _) hrc e16) rfl rfl (Nat.le_of_ble_eq_true rfl) (by omega) rfl rfl (Or.inl (encX_len.trans encX_len.symm)) rfl ?_
            have hf := Option.some.inj hf
            subst hf
            exact g_return dX1_grow_109 rfl ⟨rfl, rfl⟩
        · rw [if_pos c5] at hf
          refine g_aload_n 0 (q := 49) dX1_grow_48 rfl rfl ?_
          refine g_get (q := 52) fl_X1_11 dX1_grow_49 rfl rfl rfl ?_
          refine g_iload 5 (q := 54) dX1_grow_52 rfl rfl ?_
          refine g_iload_n 2 (q := 55) dX1_grow_54 rfl rfl ?_
          obtain ⟨r17, e18, hf⟩ := Option.bind_eq_some_iff.mp hf
          refine g_callS (k2 := 0) (n2 := 0) (q := 58) (as := [.int a0]) (st := [.int c_k, .ref 15]) (st1 := [.int r17, .int c_k, .ref 15]) tm_X7_lowestVariable ml_X1_37 ts_X7_lowestVariable dX1_grow_55 rfl (ev_X7_lowestVariable e18) rfl rfl (Nat.le_of_ble_eq_true rfl) (by omega) rfl rfl (Or.inl rfl) rfl ?_
          obtain ⟨z19, e20, hf⟩ := Option.bind_eq_some_iff.mp hf
          refine g_iastore (q := 59) (h' := encX x_hs s_n s_sp s_sb s_sc s_f s_st v_n v_sp v_sb v_sc v_f v_st h_k h_s h_c g_k g_v g_p g_a g_t (c_k + 1) z19 z3 i_l i_n i_f i_p i_o i_b w_l w_s x_e x_l cr tl) dX1_grow_58 rfl rfl e20 rfl ?_
          have hf := Option.some.inj hf
          subst hf
          exact g_return dX1_grow_59 rfl ⟨rfl, rfl⟩
      · rw [if_neg c2] at hf
        have hf := Option.some.inj hf
        subst hf
        exact g_return dX1_grow_15 rfl ⟨rfl, rfl⟩
def f_X1_fill  (g_v : Int32) (g_a : List Int32) (c_k : Int32) (c_t : List Int32) (c_p : List Int32) : Option (Int32 × List Int32 × List Int32) := (if g_v = 0 then some (0, c_t, c_p) else (f_X1_grow tDP g_v (-1) 1 g_a 0 c_t c_p).bind fun r2 => some (r2.1, r2.2.1, r2.2.2))
set_option maxRecDepth 20000 in
set_option maxHeartbeats 4000000 in
theorem ev_X1_fill {l : Launch} {E : tEn} {cr : Value} {tl : tHp} {x_hs : Int32} {s_n : Int32} {s_sp : Int64} {s_sb : Int64} {s_sc : Int32} {s_f : List Int64} {s_st : List Int32} {v_n : Int32} {v_sp : Int64} {v_sb : Int64} {v_sc : Int32} {v_f : List Int64} {v_st : List Int32} {h_k : Int32} {h_s : List Int32} {h_c : List Int64} {g_k : Int32} {g_v : Int32} {g_p : List Int32} {g_a : List Int32} {g_t : List Int32} {c_k : Int32} {c_t : List Int32} {c_p : List Int32} {i_l : Int32} {i_n : Int32} {i_f : Int64} {i_p : Int32} {i_o : Int32} {i_b : List Int32} {w_l : Int32} {w_s : List Int32} {x_e : List Int32} {x_l : List Int32}  {res : Int32 × List Int32 × List Int32} (hf : f_X1_fill g_v g_a c_k c_t c_p = some res) : tEv l E yX1_fill cX1_fill 2 none 24 0 0 [.ref 14, .ref 10] (encX x_hs s_n s_sp s_sb s_sc s_f s_st v_n v_sp v_sb v_sc v_f v_st h_k h_s h_c g_k g_v g_p g_a g_t c_k c_t c_p i_l i_n i_f i_p i_o i_b w_l w_s x_e x_l cr tl) (fun r h' => r = none ∧ h' = encX x_hs s_n s_sp s_sb s_sc s_f s_st v_n v_sp v_sb v_sc v_f v_st h_k h_s h_c g_k g_v g_p g_a g_t (res.1) (res.2.1) (res.2.2) i_l i_n i_f i_p i_o i_b w_l w_s x_e x_l cr tl) := by
  refine tEv.of (own := RX1) (ini := false) (L := [(0, .ref 14), (1, .ref 10)]) (by decide +kernel) rfl (fun h9 => nomatch h9) rfl (Nat.le_of_ble_eq_true rfl) ?_
  rw [f_X1_fill] at hf
  refine g_aload_n 0 (q := 1) dX1_fill_0 rfl rfl ?_
  refine g_iconst (q := 2) (v := 0) dX1_fill_1 rfl rfl ?_
  refine g_put (q := 5) (h' := encX x_hs s_n s_sp s_sb s_sc s_f s_st v_n v_sp v_sb v_sc v_f v_st h_k h_s h_c g_k g_v g_p g_a g_t 0 c_t c_p i_l i_n i_f i_p i_o i_b w_l w_s x_e x_l cr tl) fp_X1_18 dX1_fill_2 rfl rfl (Nat.le_of_ble_eq_true rfl) (fun _ => ⟨rfl, rfl⟩) rfl ?_
  refine g_aload_n 1 (q := 6) dX1_fill_5 rfl rfl ?_
  refine g_get (q := 9) fl_X1_22 dX1_fill_6 rfl rfl rfl ?_
  refine g_if_eq (t := 23) (q := 12) dX1_fill_9 (by decide) rfl (fun c1 => ?_) (fun c1 => ?_)
  · rw [if_pos c1] at hf
    have hf := Option.some.inj hf
    subst hf
    exact g_return dX1_fill_23 rfl ⟨rfl, rfl⟩
  · rw [if_neg c1] at hf
    refine g_aload_n 0 (q := 13) dX1_fill_12 rfl rfl ?_
    refine g_aload_n 1 (q := 14) dX1_fill_13 rfl rfl ?_
    refine g_aload_n 1 (q := 15) dX1_fill_14 rfl rfl ?_
    refine g_get (q := 18) fl_X1_22 dX1_fill_15 rfl rfl rfl ?_
    refine g_iconst (q := 19) (v := (-1)) dX1_fill_18 rfl rfl ?_
    refine g_iconst (q := 20) (v := 1) dX1_fill_19 rfl rfl ?_
    obtain ⟨r2, e3, hf⟩ := Option.bind_eq_some_iff.mp hf
    refine g_callV (a := 14) (k2 := 0) (n2 := 0) (q := 23) (as := [.ref 10, .int g_v, .int (-1), .int 1]) (st := []) (st1 := []) tm_X1_grow ml_X1_27 ti_X1_grow rfl rfl dX1_fill_20 rfl (ev_X1_grow tDP e3) rfl rfl (Nat.le_of_ble_eq_true rfl) (by decide) rfl rfl (Or.inl (encX_len.trans encX_len.symm)) rfl ?_
    have hf := Option.some.inj hf
    subst hf
    exact g_return dX1_fill_23 rfl ⟨rfl, rfl⟩
def f_X7_growCotree (a0 : Int32) (s_n : Int32) (s_f : List Int64) (g_k : Int32) (g_v : Int32) (g_p : List Int32) (g_a : List Int32) (g_t : List Int32) (c_k : Int32) (c_t : List Int32) (c_p : List Int32) : Option (Int32 × Int32 × Int32 × List Int32 × List Int32 × List Int32 × Int32 × List Int32 × List Int32) := (f_X7_slotError a0 s_f).bind fun r1 => (if r1 = 0 then (tld s_f a0).bind fun r4 => (f_X7_whyNotReadOnce r4 s_n g_k g_v g_p g_a g_t).bind fun r6 => (if r6.1 = 0 then (f_X1_fill (r6.2.2.1) (r6.2.2.2.2.1) c_k c_t c_p).bind fun r9 => some (0, r6.2.1, r6.2.2.1, r6.2.2.2.1, r6.2.2.2.2.1, r6.2.2.2.2.2, r9.1, r9.2.1, r9.2.2) else some ((-5), r6.2.1, r6.2.2.1, r6.2.2.2.1, r6.2.2.2.2.1, r6.2.2.2.2.2, c_k, c_t, c_p)) else some (r1, g_k, g_v, g_p, g_a, g_t, c_k, c_t, c_p))
set_option maxRecDepth 20000 in
set_option maxHeartbeats 4000000 in
theorem ev_X7_growCotree {l : Launch} {E : tEn} {cr : Value} {tl : tHp} {x_hs : Int32} {s_n : Int32} {s_sp : Int64} {s_sb : Int64} {s_sc : Int32} {s_f : List Int64} {s_st : List Int32} {v_n : Int32} {v_sp : Int64} {v_sb : Int64} {v_sc : Int32} {v_f : List Int64} {v_st : List Int32} {h_k : Int32} {h_s : List Int32} {h_c : List Int64} {g_k : Int32} {g_v : Int32} {g_p : List Int32} {g_a : List Int32} {g_t : List Int32} {c_k : Int32} {c_t : List Int32} {c_p : List Int32} {i_l : Int32} {i_n : Int32} {i_f : Int64} {i_p : Int32} {i_o : Int32} {i_b : List Int32} {w_l : Int32} {w_s : List Int32} {x_e : List Int32} {x_l : List Int32} {a0 : Int32} {res : Int32 × Int32 × Int32 × List Int32 × List Int32 × List Int32 × Int32 × List Int32 × List Int32} (hf : f_X7_growCotree a0 s_n s_f g_k g_v g_p g_a g_t c_k c_t c_p = some res) : tEv l E yX7_growCotree cX7_growCotree 3 (some .int) 25 0 0 [.ref 0, .int a0] (encX x_hs s_n s_sp s_sb s_sc s_f s_st v_n v_sp v_sb v_sc v_f v_st h_k h_s h_c g_k g_v g_p g_a g_t c_k c_t c_p i_l i_n i_f i_p i_o i_b w_l w_s x_e x_l cr tl) (fun r h' => r = some (.int res.1) ∧ h' = encX x_hs s_n s_sp s_sb s_sc s_f s_st v_n v_sp v_sb v_sc v_f v_st h_k h_s h_c (res.2.1) (res.2.2.1) (res.2.2.2.1) (res.2.2.2.2.1) (res.2.2.2.2.2.1) (res.2.2.2.2.2.2.1) (res.2.2.2.2.2.2.2.1) (res.2.2.2.2.2.2.2.2) i_l i_n i_f i_p i_o i_b w_l w_s x_e x_l cr tl) := by
  refine tEv.of (own := RX7) (ini := false) (L := [(0, .ref 0), (1, .int a0)]) (by decide +kernel) rfl (fun h9 => nomatch h9) rfl (Nat.le_of_ble_eq_true rfl) ?_
  rw [f_X7_growCotree] at hf
  refine g_aload_n 0 (q := 1) dX7_growCotree_0 rfl rfl ?_
  refine g_iload_n 1 (q := 2) dX7_growCotree_1 rfl rfl ?_
  obtain ⟨r1, e2, hf⟩ := Option.bind_eq_some_iff.mp hf
  refine g_callV (a := 0) (k2 := 0) (n2 := 0) (q := 5) (as := [.int a0]) (st := []) (st1 := [.int r1]) tm_X7_slotError ml_X7_98 ti_X7_slotError rfl rfl dX7_growCotree_2 rfl (ev_X7_slotError e2) rfl rfl (Nat.le_of_ble_eq_true rfl) (by decide) rfl rfl (Or.inl rfl) rfl ?_
  refine g_istore_n (q := 6) (L' := [(0, .ref 0), (1, .int a0), (2, .int r1)]) dX7_growCotree_5 rfl (by decide) rfl ?_
  refine g_iload_n 2 (q := 7) dX7_growCotree_6 rfl rfl ?_
  refine g_if_eq (t := 12) (q := 10) dX7_growCotree_7 (by decide) rfl (fun c3 => ?_) (fun c3 => ?_)
  · rw [if_pos c3] at hf
    refine g_aload_n 0 (q := 13) dX7_growCotree_12 rfl rfl ?_
    refine g_aload_n 0 (q := 14) dX7_growCotree_13 rfl rfl ?_
    refine g_get (q := 17) fl_X7_10 dX7_growCotree_14 rfl rfl rfl ?_
    refine g_get (q := 20) fl_X7_102 dX7_growCotree_17 rfl rfl rfl ?_
    refine g_iload_n 1 (q := 21) dX7_growCotree_20 rfl rfl ?_
    obtain ⟨r4, e5, hf⟩ := Option.bind_eq_some_iff.mp hf
    refine g_laload (q := 22) dX7_growCotree_21 rfl rfl e5 ?_
    obtain ⟨r6, e7, hf⟩ := Option.bind_eq_some_iff.mp hf
    refine g_callV (a := 0) (k2 := 0) (n2 := 0) (q := 25) (as := [.long r4]) (st := []) (st1 := [.int r6.1]) tm_X7_whyNotReadOnce ml_X7_154 ti_X7_whyNotReadOnce rfl rfl dX7_growCotree_22 rfl (ev_X7_whyNotReadOnce e7) rfl rfl (Nat.le_of_ble_eq_true rfl) (by decide) rfl rfl (Or.inl (encX_len.trans encX_len.symm)) rfl ?_
    refine g_if_eq (t := 31) (q := 28) dX7_growCotree_25 (by decide) rfl (fun c8 => ?_) (fun c8 => ?_)
    · rw [if_pos c8] at hf
      refine g_aload_n 0 (q := 32) dX7_growCotree_31 rfl rfl ?_
      refine g_get (q := 35) fl_X7_40 dX7_growCotree_32 rfl rfl rfl ?_
      refine g_aload_n 0 (q := 36) dX7_growCotree_35 rfl rfl ?_
      refine g_get (q := 39) fl_X7_33 dX7_growCotree_36 rfl rfl rfl ?_
      obtain ⟨r9, e10, hf⟩ := Option.bind_eq_some_iff.mp hf
      refine g_callV (a := 14) (k2 := 0) (n2 := 0) (q := 42) (as := [.ref 10]) (st := []) (st1 := []) tm_X1_fill ml_X7_289 ti_X1_fill rfl rfl dX7_growCotree_39 rfl (ev_X1_fill e10) rfl rfl (Nat.le_of_ble_eq_true rfl) (by decide) rfl rfl (Or.inl (encX_len.trans encX_len.symm)) rfl ?_
      refine g_iconst (q := 43) (v := 0) dX7_growCotree_42 rfl rfl ?_
      have hf := Option.some.inj hf
      subst hf
      exact g_ireturn dX7_growCotree_43 rfl ⟨rfl, rfl⟩
    · rw [if_neg c8] at hf
      refine g_bipush (q := 30) (v := (-5)) dX7_growCotree_28 rfl rfl ?_
      have hf := Option.some.inj hf
      subst hf
      exact g_ireturn dX7_growCotree_30 rfl ⟨rfl, rfl⟩
  · rw [if_neg c3] at hf
    refine g_iload_n 2 (q := 11) dX7_growCotree_10 rfl rfl ?_
    have hf := Option.some.inj hf
    subst hf
    exact g_ireturn dX7_growCotree_11 rfl ⟨rfl, rfl⟩
def f_X7_nodes (a0 : Int32) (s_n : Int32) (s_f : List Int64) (g_k : Int32) (g_v : Int32) (g_p : List Int32) (g_a : List Int32) (g_t : List Int32) (c_k : Int32) (c_t : List Int32) (c_p : List Int32) : Option (Int32 × Int32 × Int32 × List Int32 × List Int32 × List Int32 × Int32 × List Int32 × List Int32) := (f_X7_growCotree a0 s_n s_f g_k g_v g_p g_a g_t c_k c_t c_p).bind fun r1 => (if r1.1 = 0 then some ((r1.2.2.2.2.2.2.1), r1.2.1, r1.2.2.1, r1.2.2.2.1, r1.2.2.2.2.1, r1.2.2.2.2.2.1, r1.2.2.2.2.2.2.1, r1.2.2.2.2.2.2.2.1, r1.2.2.2.2.2.2.2.2) else some (r1.1, r1.2.1, r1.2.2.1, r1.2.2.2.1, r1.2.2.2.2.1, r1.2.2.2.2.2.1, r1.2.2.2.2.2.2.1, r1.2.2.2.2.2.2.2.1, r1.2.2.2.2.2.2.2.2))
set_option maxRecDepth 20000 in
set_option maxHeartbeats 4000000 in
theorem ev_X7_nodes {l : Launch} {E : tEn} {cr : Value} {tl : tHp} {x_hs : Int32} {s_n : Int32} {s_sp : Int64} {s_sb : Int64} {s_sc : Int32} {s_f : List Int64} {s_st : List Int32} {v_n : Int32} {v_sp : Int64} {v_sb : Int64} {v_sc : Int32} {v_f : List Int64} {v_st : List Int32} {h_k : Int32} {h_s : List Int32} {h_c : List Int64} {g_k : Int32} {g_v : Int32} {g_p : List Int32} {g_a : List Int32} {g_t : List Int32} {c_k : Int32} {c_t : List Int32} {c_p : List Int32} {i_l : Int32} {i_n : Int32} {i_f : Int64} {i_p : Int32} {i_o : Int32} {i_b : List Int32} {w_l : Int32} {w_s : List Int32} {x_e : List Int32} {x_l : List Int32} {a0 : Int32} {res : Int32 × Int32 × Int32 × List Int32 × List Int32 × List Int32 × Int32 × List Int32 × List Int32} (hf : f_X7_nodes a0 s_n s_f g_k g_v g_p g_a g_t c_k c_t c_p = some res) : tEv l E yX7_nodes cX7_nodes 3 (some .int) 26 0 0 [.ref 0, .int a0] (encX x_hs s_n s_sp s_sb s_sc s_f s_st v_n v_sp v_sb v_sc v_f v_st h_k h_s h_c g_k g_v g_p g_a g_t c_k c_t c_p i_l i_n i_f i_p i_o i_b w_l w_s x_e x_l cr tl) (fun r h' => r = some (.int res.1) ∧ h' = encX x_hs s_n s_sp s_sb s_sc s_f s_st v_n v_sp v_sb v_sc v_f v_st h_k h_s h_c (res.2.1) (res.2.2.1) (res.2.2.2.1) (res.2.2.2.2.1) (res.2.2.2.2.2.1) (res.2.2.2.2.2.2.1) (res.2.2.2.2.2.2.2.1) (res.2.2.2.2.2.2.2.2) i_l i_n i_f i_p i_o i_b w_l w_s x_e x_l cr tl) := by
  refine tEv.of (own := RX7) (ini := false) (L := [(0, .ref 0), (1, .int a0)]) (by decide +kernel) rfl (fun h9 => nomatch h9) rfl (Nat.le_of_ble_eq_true rfl) ?_
  rw [f_X7_nodes] at hf
  refine g_aload_n 0 (q := 1) dX7_nodes_0 rfl rfl ?_
  refine g_iload_n 1 (q := 2) dX7_nodes_1 rfl rfl ?_
  obtain ⟨r1, e2, hf⟩ := Option.bind_eq_some_iff.mp hf
  refine g_callV (a := 0) (k2 := 0) (n2 := 0) (q := 5) (as := [.int a0]) (st := []) (st1 := [.int r1.1]) tm_X7_growCotree ml_X7_158 ti_X7_growCotree rfl rfl dX7_nodes_2 rfl (ev_X7_growCotree e2) rfl rfl (Nat.le_of_ble_eq_true rfl) (by decide) rfl rfl (Or.inl (encX_len.trans encX_len.symm)) rfl ?_
  refine g_istore_n (q := 6) (L' := [(0, .ref 0), (1, .int a0), (2, .int r1.1)]) dX7_nodes_5 rfl (by decide) rfl ?_
  refine g_iload_n 2 (q := 7) dX7_nodes_6 rfl rfl ?_
  refine g_if_eq (t := 14) (q := 10) dX7_nodes_7 (by decide) rfl (fun c3 => ?_) (fun c3 => ?_)
  · rw [if_pos c3] at hf
    refine g_aload_n 0 (q := 15) dX7_nodes_14 rfl rfl ?_
    refine g_get (q := 18) fl_X7_40 dX7_nodes_15 rfl rfl rfl ?_
    refine g_get (q := 21) fl_X7_161 dX7_nodes_18 rfl rfl rfl ?_
    have hf := Option.some.inj hf
    subst hf
    exact g_ireturn dX7_nodes_21 rfl ⟨rfl, rfl⟩
  · rw [if_neg c3] at hf
    refine g_iload_n 2 (q := 11) dX7_nodes_10 rfl rfl ?_
    refine g_goto (t := 21) dX7_nodes_11 (by decide) ?_
    have hf := Option.some.inj hf
    subst hf
    exact g_ireturn dX7_nodes_21 rfl ⟨rfl, rfl⟩
def f_X1_has (a0 : Int32) (c_k : Int32) : Int32 := (f_X7_isIndex a0 c_k)
theorem bl_X1_has (a0 : Int32) (c_k : Int32) : f_X1_has a0 c_k = 0 ∨ f_X1_has a0 c_k = 1 := by
  unfold f_X1_has
  repeat' split
  all_goals first | exact Or.inl rfl | exact Or.inr rfl | exact bl_X7_isIndex _ _
set_option maxRecDepth 20000 in
set_option maxHeartbeats 4000000 in
theorem ev_X1_has {l : Launch} {E : tEn} {cr : Value} {tl : tHp} {x_hs : Int32} {s_n : Int32} {s_sp : Int64} {s_sb : Int64} {s_sc : Int32} {s_f : List Int64} {s_st : List Int32} {v_n : Int32} {v_sp : Int64} {v_sb : Int64} {v_sc : Int32} {v_f : List Int64} {v_st : List Int32} {h_k : Int32} {h_s : List Int32} {h_c : List Int64} {g_k : Int32} {g_v : Int32} {g_p : List Int32} {g_a : List Int32} {g_t : List Int32} {c_k : Int32} {c_t : List Int32} {c_p : List Int32} {i_l : Int32} {i_n : Int32} {i_f : Int64} {i_p : Int32} {i_o : Int32} {i_b : List Int32} {w_l : Int32} {w_s : List Int32} {x_e : List Int32} {x_l : List Int32} {a0 : Int32} : tEv l E yX1_has cX1_has 2 (some .boolean) 2 0 0 [.ref 14, .int a0] (encX x_hs s_n s_sp s_sb s_sc s_f s_st v_n v_sp v_sb v_sc v_f v_st h_k h_s h_c g_k g_v g_p g_a g_t c_k c_t c_p i_l i_n i_f i_p i_o i_b w_l w_s x_e x_l cr tl) (fun r h' => r = some (.int (f_X1_has a0 c_k)) ∧ h' = encX x_hs s_n s_sp s_sb s_sc s_f s_st v_n v_sp v_sb v_sc v_f v_st h_k h_s h_c g_k g_v g_p g_a g_t c_k c_t c_p i_l i_n i_f i_p i_o i_b w_l w_s x_e x_l cr tl) := by
  refine tEv.of (own := RX1) (ini := false) (L := [(0, .ref 14), (1, .int a0)]) (by decide +kernel) rfl (fun h9 => nomatch h9) rfl (Nat.le_of_ble_eq_true rfl) ?_
  obtain ⟨res, hf⟩ : ∃ z, f_X1_has a0 c_k = z := ⟨_, rfl⟩
  rw [hf]
  rw [f_X1_has] at hf
  refine g_iload_n 1 (q := 1) dX1_has_0 rfl rfl ?_
  refine g_aload_n 0 (q := 2) dX1_has_1 rfl rfl ?_
  refine g_get (q := 5) fl_X1_18 dX1_has_2 rfl rfl rfl ?_
  refine g_callS (k2 := 0) (n2 := 0) (q := 8) (as := [.int a0, .int c_k]) (st := []) (st1 := [.int (f_X7_isIndex a0 c_k)]) tm_X7_isIndex ml_X1_54 ts_X7_isIndex dX1_has_5 rfl ev_X7_isIndex rfl rfl (Nat.le_of_ble_eq_true rfl) (by decide) rfl rfl (Or.inl rfl) rfl ?_
  subst hf
  exact g_zreturn (bl_X7_isIndex a0 c_k) dX1_has_8 rfl ⟨rfl, rfl⟩
def f_X7_nodeType (a0 : Int32) (a1 : Int32) (s_n : Int32) (s_f : List Int64) (g_k : Int32) (g_v : Int32) (g_p : List Int32) (g_a : List Int32) (g_t : List Int32) (c_k : Int32) (c_t : List Int32) (c_p : List Int32) : Option (Int32 × Int32 × Int32 × List Int32 × List Int32 × List Int32 × Int32 × List Int32 × List Int32) := (f_X7_growCotree a0 s_n s_f g_k g_v g_p g_a g_t c_k c_t c_p).bind fun r1 => (if r1.1 = 0 then (if (f_X1_has a1 (r1.2.2.2.2.2.2.1)) = 0 then some ((-1), r1.2.1, r1.2.2.1, r1.2.2.2.1, r1.2.2.2.2.1, r1.2.2.2.2.2.1, r1.2.2.2.2.2.2.1, r1.2.2.2.2.2.2.2.1, r1.2.2.2.2.2.2.2.2) else (tld (r1.2.2.2.2.2.2.2.1) a1).bind fun r5 => some (r5, r1.2.1, r1.2.2.1, r1.2.2.2.1, r1.2.2.2.2.1, r1.2.2.2.2.2.1, r1.2.2.2.2.2.2.1, r1.2.2.2.2.2.2.2.1, r1.2.2.2.2.2.2.2.2)) else some (r1.1, r1.2.1, r1.2.2.1, r1.2.2.2.1, r1.2.2.2.2.1, r1.2.2.2.2.2.1, r1.2.2.2.2.2.2.1, r1.2.2.2.2.2.2.2.1, r1.2.2.2.2.2.2.2.2))
set_option maxRecDepth 20000 in
set_option maxHeartbeats 4000000 in
theorem ev_X7_nodeType {l : Launch} {E : tEn} {cr : Value} {tl : tHp} {x_hs : Int32} {s_n : Int32} {s_sp : Int64} {s_sb : Int64} {s_sc : Int32} {s_f : List Int64} {s_st : List Int32} {v_n : Int32} {v_sp : Int64} {v_sb : Int64} {v_sc : Int32} {v_f : List Int64} {v_st : List Int32} {h_k : Int32} {h_s : List Int32} {h_c : List Int64} {g_k : Int32} {g_v : Int32} {g_p : List Int32} {g_a : List Int32} {g_t : List Int32} {c_k : Int32} {c_t : List Int32} {c_p : List Int32} {i_l : Int32} {i_n : Int32} {i_f : Int64} {i_p : Int32} {i_o : Int32} {i_b : List Int32} {w_l : Int32} {w_s : List Int32} {x_e : List Int32} {x_l : List Int32} {a0 : Int32} {a1 : Int32} {res : Int32 × Int32 × Int32 × List Int32 × List Int32 × List Int32 × Int32 × List Int32 × List Int32} (hf : f_X7_nodeType a0 a1 s_n s_f g_k g_v g_p g_a g_t c_k c_t c_p = some res) : tEv l E yX7_nodeType cX7_nodeType 4 (some .int) 26 0 0 [.ref 0, .int a0, .int a1] (encX x_hs s_n s_sp s_sb s_sc s_f s_st v_n v_sp v_sb v_sc v_f v_st h_k h_s h_c g_k g_v g_p g_a g_t c_k c_t c_p i_l i_n i_f i_p i_o i_b w_l w_s x_e x_l cr tl) (fun r h' => r = some (.int res.1) ∧ h' = encX x_hs s_n s_sp s_sb s_sc s_f s_st v_n v_sp v_sb v_sc v_f v_st h_k h_s h_c (res.2.1) (res.2.2.1) (res.2.2.2.1) (res.2.2.2.2.1) (res.2.2.2.2.2.1) (res.2.2.2.2.2.2.1) (res.2.2.2.2.2.2.2.1) (res.2.2.2.2.2.2.2.2) i_l i_n i_f i_p i_o i_b w_l w_s x_e x_l cr tl) := by
  refine tEv.of (own := RX7) (ini := false) (L := [(0, .ref 0), (1, .int a0), (2, .int a1)]) (by decide +kernel) rfl (fun h9 => nomatch h9) rfl (Nat.le_of_ble_eq_true rfl) ?_
  rw [f_X7_nodeType] at hf
  refine g_aload_n 0 (q := 1) dX7_nodeType_0 rfl rfl ?_
  refine g_iload_n 1 (q := 2) dX7_nodeType_1 rfl rfl ?_
  obtain ⟨r1, e2, hf⟩ := Option.bind_eq_some_iff.mp hf
  refine g_callV (a := 0) (k2 := 0) (n2 := 0) (q := 5) (as := [.int a0]) (st := []) (st1 := [.int r1.1]) tm_X7_growCotree ml_X7_158 ti_X7_growCotree rfl rfl dX7_nodeType_2 rfl (ev_X7_growCotree e2) rfl rfl (Nat.le_of_ble_eq_true rfl) (by decide) rfl rfl (Or.inl (encX_len.trans encX_len.symm)) rfl ?_
  refine g_istore_n (q := 6) (L' := [(0, .ref 0), (1, .int a0), (2, .int a1), (3, .int r1.1)]) dX7_nodeType_5 rfl (by decide) rfl ?_
  refine g_iload_n 3 (q := 7) dX7_nodeType_6 rfl rfl ?_
  refine g_if_eq (t := 12) (q := 10) dX7_nodeType_7 (by decide) rfl (fun c3 => ?_) (fun c3 => ?_)
  · rw [if_pos c3] at hf
    refine g_aload_n 0 (q := 13) dX7_nodeType_12 rfl rfl ?_
    refine g_get (q := 16) fl_X7_40 dX7_nodeType_13 rfl rfl rfl ?_
    refine g_iload_n 2 (q := 17) dX7_nodeType_16 rfl rfl ?_
    refine g_callV (a := 14) (k2 := 0) (n2 := 0) (q := 20) (as := [.int a1]) (st := []) (st1 := [.int (f_X1_has a1 (r1.2.2.2.2.2.2.1))]) tm_X1_has ml_X7_164 ti_X1_has rfl rfl dX7_nodeType_17 rfl ev_X1_has rfl rfl (Nat.le_of_ble_eq_true rfl) (by decide) rfl rfl (Or.inl rfl) rfl ?_
    refine g_if_eq (t := 35) (q := 23) dX7_nodeType_20 (by decide) rfl (fun c4 => ?_) (fun c4 => ?_)
    · rw [if_pos c4] at hf
      refine g_iconst (q := 36) (v := (-1)) dX7_nodeType_35 rfl rfl ?_
      have hf := Option.some.inj hf
      subst hf
      exact g_ireturn dX7_nodeType_36 rfl ⟨rfl, rfl⟩
    · rw [if_neg c4] at hf
      refine g_aload_n 0 (q := 24) dX7_nodeType_23 rfl rfl ?_
      refine g_get (q := 27) fl_X7_40 dX7_nodeType_24 rfl rfl rfl ?_
      refine g_get (q := 30) fl_X7_167 dX7_nodeType_27 rfl rfl rfl ?_
      refine g_iload_n 2 (q := 31) dX7_nodeType_30 rfl rfl ?_
      obtain ⟨r5, e6, hf⟩ := Option.bind_eq_some_iff.mp hf
      refine g_iaload (q := 32) dX7_nodeType_31 rfl rfl e6 ?_
      refine g_goto (t := 36) dX7_nodeType_32 (by decide) ?_
      have hf := Option.some.inj hf
      subst hf
      exact g_ireturn dX7_nodeType_36 rfl ⟨rfl, rfl⟩
  · rw [if_neg c3] at hf
    refine g_iload_n 3 (q := 11) dX7_nodeType_10 rfl rfl ?_
    have hf := Option.some.inj hf
    subst hf
    exact g_ireturn dX7_nodeType_11 rfl ⟨rfl, rfl⟩
