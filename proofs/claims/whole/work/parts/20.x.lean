/-! written by wip/whole/main.py out of the bytecode: a pure function for each method, and its contract -/
def f_X6_startAnew (a0 : Int32) (s_n : Int32) (s_sp : Int64) (s_sb : Int64) (s_sc : Int32) (s_f : List Int64) : Option (Int32 × Int64 × Int64 × Int32 × List Int64) := (tfill s_f (-1)).bind fun z1 => some (a0, 0, 0, 0, z1)
set_option maxRecDepth 20000 in
set_option maxHeartbeats 4000000 in
theorem ev_X6_startAnew {l : Launch} {E : tEn} {cr : Value} {tl : tHp} {x_hs : Int32} {s_n : Int32} {s_sp : Int64} {s_sb : Int64} {s_sc : Int32} {s_f : List Int64} {s_st : List Int32} {v_n : Int32} {v_sp : Int64} {v_sb : Int64} {v_sc : Int32} {v_f : List Int64} {v_st : List Int32} {h_k : Int32} {h_s : List Int32} {h_c : List Int64} {g_k : Int32} {g_v : Int32} {g_p : List Int32} {g_a : List Int32} {g_t : List Int32} {c_k : Int32} {c_t : List Int32} {c_p : List Int32} {i_l : Int32} {i_n : Int32} {i_f : Int64} {i_p : Int32} {i_o : Int32} {i_b : List Int32} {w_l : Int32} {w_s : List Int32} {x_e : List Int32} {x_l : List Int32} {a0 : Int32} {res : Int32 × Int64 × Int64 × Int32 × List Int64} (hf : f_X6_startAnew a0 s_n s_sp s_sb s_sc s_f = some res) : tEv l E yX6_startAnew cX6_startAnew 2 none 2 0 0 [.ref 1, .int a0] (encX x_hs s_n s_sp s_sb s_sc s_f s_st v_n v_sp v_sb v_sc v_f v_st h_k h_s h_c g_k g_v g_p g_a g_t c_k c_t c_p i_l i_n i_f i_p i_o i_b w_l w_s x_e x_l cr tl) (fun r h' => r = none ∧ h' = encX x_hs (res.1) (res.2.1) (res.2.2.1) (res.2.2.2.1) (res.2.2.2.2) s_st v_n v_sp v_sb v_sc v_f v_st h_k h_s h_c g_k g_v g_p g_a g_t c_k c_t c_p i_l i_n i_f i_p i_o i_b w_l w_s x_e x_l cr tl) := by
  refine tEv.of (own := RX6) (ini := false) (L := [(0, .ref 1), (1, .int a0)]) (by decide +kernel) rfl (fun h9 => nomatch h9) rfl (Nat.le_of_ble_eq_true rfl) ?_
  rw [f_X6_startAnew] at hf
  refine g_aload_n 0 (q := 1) dX6_startAnew_0 rfl rfl ?_
  refine g_iload_n 1 (q := 2) dX6_startAnew_1 rfl rfl ?_
  refine g_put (q := 5) (h' := encX x_hs a0 s_sp s_sb s_sc s_f s_st v_n v_sp v_sb v_sc v_f v_st h_k h_s h_c g_k g_v g_p g_a g_t c_k c_t c_p i_l i_n i_f i_p i_o i_b w_l w_s x_e x_l cr tl) fp_X6_9 dX6_startAnew_2 rfl rfl (Nat.le_of_ble_eq_true rfl) (fun _ => ⟨rfl, rfl⟩) rfl ?_
  refine g_aload_n 0 (q := 6) dX6_startAnew_5 rfl rfl ?_
  refine g_get (q := 9) fl_X6_15 dX6_startAnew_6 rfl rfl rfl ?_
  refine g_ldc2_w (q := 12) kc_X6_33 dX6_startAnew_9 rfl ?_
  obtain ⟨z1, e2, hf⟩ := Option.bind_eq_some_iff.mp hf
  refine g_callS (k2 := 0) (n2 := 0) (q := 15) (as := [.ref 2, .long (-1)]) (st := []) tm_J7_fill_d0a16 ml_X6_35 ts_J7_fill_d0a16 dX6_startAnew_12 rfl (ev_fillJ (a := 2) rfl e2 (h' := encX x_hs a0 s_sp s_sb s_sc z1 s_st v_n v_sp v_sb v_sc v_f v_st h_k h_s h_c g_k g_v g_p g_a g_t c_k c_t c_p i_l i_n i_f i_p i_o i_b w_l w_s x_e x_l cr tl) rfl) rfl rfl (Nat.le_of_ble_eq_true rfl) (by decide) rfl rfl (Or.inl (encX_len.trans encX_len.symm)) rfl ?_
  refine g_aload_n 0 (q := 16) dX6_startAnew_15 rfl rfl ?_
  refine g_lconst (q := 17) (v := 0) dX6_startAnew_16 rfl rfl ?_
  refine g_put (q := 20) (h' := encX x_hs a0 0 s_sb s_sc z1 s_st v_n v_sp v_sb v_sc v_f v_st h_k h_s h_c g_k g_v g_p g_a g_t c_k c_t c_p i_l i_n i_f i_p i_o i_b w_l w_s x_e x_l cr tl) fp_X6_19 dX6_startAnew_17 rfl rfl (Nat.le_of_ble_eq_true rfl) (fun _ => ⟨rfl, rfl⟩) rfl ?_
  refine g_aload_n 0 (q := 21) dX6_startAnew_20 rfl rfl ?_
  refine g_lconst (q := 22) (v := 0) dX6_startAnew_21 rfl rfl ?_
  refine g_put (q := 25) (h' := encX x_hs a0 0 0 s_sc z1 s_st v_n v_sp v_sb v_sc v_f v_st h_k h_s h_c g_k g_v g_p g_a g_t c_k c_t c_p i_l i_n i_f i_p i_o i_b w_l w_s x_e x_l cr tl) fp_X6_23 dX6_startAnew_22 rfl rfl (Nat.le_of_ble_eq_true rfl) (fun _ => ⟨rfl, rfl⟩) rfl ?_
  refine g_aload_n 0 (q := 26) dX6_startAnew_25 rfl rfl ?_
  refine g_iconst (q := 27) (v := 0) dX6_startAnew_26 rfl rfl ?_
  refine g_put (q := 30) (h' := encX x_hs a0 0 0 0 z1 s_st v_n v_sp v_sb v_sc v_f v_st h_k h_s h_c g_k g_v g_p g_a g_t c_k c_t c_p i_l i_n i_f i_p i_o i_b w_l w_s x_e x_l cr tl) fp_X6_30 dX6_startAnew_27 rfl rfl (Nat.le_of_ble_eq_true rfl) (fun _ => ⟨rfl, rfl⟩) rfl ?_
  have hf := Option.some.inj hf
  subst hf
  exact g_return dX6_startAnew_30 rfl ⟨rfl, rfl⟩
def f_X4_forget  (h_k : Int32) : Int32 := 0
set_option maxRecDepth 20000 in
set_option maxHeartbeats 4000000 in
theorem ev_X4_forget {l : Launch} {E : tEn} {cr : Value} {tl : tHp} {x_hs : Int32} {s_n : Int32} {s_sp : Int64} {s_sb : Int64} {s_sc : Int32} {s_f : List Int64} {s_st : List Int32} {v_n : Int32} {v_sp : Int64} {v_sb : Int64} {v_sc : Int32} {v_f : List Int64} {v_st : List Int32} {h_k : Int32} {h_s : List Int32} {h_c : List Int64} {g_k : Int32} {g_v : Int32} {g_p : List Int32} {g_a : List Int32} {g_t : List Int32} {c_k : Int32} {c_t : List Int32} {c_p : List Int32} {i_l : Int32} {i_n : Int32} {i_f : Int64} {i_p : Int32} {i_o : Int32} {i_b : List Int32} {w_l : Int32} {w_s : List Int32} {x_e : List Int32} {x_l : List Int32}  : tEv l E yX4_forget cX4_forget 1 none 1 0 0 [.ref 7] (encX x_hs s_n s_sp s_sb s_sc s_f s_st v_n v_sp v_sb v_sc v_f v_st h_k h_s h_c g_k g_v g_p g_a g_t c_k c_t c_p i_l i_n i_f i_p i_o i_b w_l w_s x_e x_l cr tl) (fun r h' => r = none ∧ h' = encX x_hs s_n s_sp s_sb s_sc s_f s_st v_n v_sp v_sb v_sc v_f v_st (f_X4_forget h_k) h_s h_c g_k g_v g_p g_a g_t c_k c_t c_p i_l i_n i_f i_p i_o i_b w_l w_s x_e x_l cr tl) := by
  refine tEv.of (own := RX4) (ini := false) (L := [(0, .ref 7)]) (by decide +kernel) rfl (fun h9 => nomatch h9) rfl (Nat.le_of_ble_eq_true rfl) ?_
  obtain ⟨res, hf⟩ : ∃ z, f_X4_forget h_k = z := ⟨_, rfl⟩
  rw [hf]
  rw [f_X4_forget] at hf
  refine g_aload_n 0 (q := 1) dX4_forget_0 rfl rfl ?_
  refine g_iconst (q := 2) (v := 0) dX4_forget_1 rfl rfl ?_
  refine g_put (q := 5) (h' := encX x_hs s_n s_sp s_sb s_sc s_f s_st v_n v_sp v_sb v_sc v_f v_st 0 h_s h_c g_k g_v g_p g_a g_t c_k c_t c_p i_l i_n i_f i_p i_o i_b w_l w_s x_e x_l cr tl) fp_X4_19 dX4_forget_2 rfl rfl (Nat.le_of_ble_eq_true rfl) (fun _ => ⟨rfl, rfl⟩) rfl ?_
  subst hf
  exact g_return dX4_forget_5 rfl ⟨rfl, rfl⟩
def f_X7_setVariables (a0 : Int32) (s_n : Int32) (s_sp : Int64) (s_sb : Int64) (s_sc : Int32) (s_f : List Int64) (h_k : Int32) : Option (Int32 × Int32 × Int64 × Int64 × Int32 × List Int64 × Int32) := (if a0 < 1 then some ((-2), s_n, s_sp, s_sb, s_sc, s_f, h_k) else (if a0 ≤ 5 then (f_X6_startAnew a0 s_n s_sp s_sb s_sc s_f).bind fun r3 => some (s_n, r3.1, r3.2.1, r3.2.2.1, r3.2.2.2.1, r3.2.2.2.2, (f_X4_forget h_k)) else some ((-2), s_n, s_sp, s_sb, s_sc, s_f, h_k)))
set_option maxRecDepth 20000 in
set_option maxHeartbeats 4000000 in
theorem ev_X7_setVariables {l : Launch} {E : tEn} {cr : Value} {tl : tHp} {x_hs : Int32} {s_n : Int32} {s_sp : Int64} {s_sb : Int64} {s_sc : Int32} {s_f : List Int64} {s_st : List Int32} {v_n : Int32} {v_sp : Int64} {v_sb : Int64} {v_sc : Int32} {v_f : List Int64} {v_st : List Int32} {h_k : Int32} {h_s : List Int32} {h_c : List Int64} {g_k : Int32} {g_v : Int32} {g_p : List Int32} {g_a : List Int32} {g_t : List Int32} {c_k : Int32} {c_t : List Int32} {c_p : List Int32} {i_l : Int32} {i_n : Int32} {i_f : Int64} {i_p : Int32} {i_o : Int32} {i_b : List Int32} {w_l : Int32} {w_s : List Int32} {x_e : List Int32} {x_l : List Int32} {a0 : Int32} {res : Int32 × Int32 × Int64 × Int64 × Int32 × List Int64 × Int32} (hf : f_X7_setVariables a0 s_n s_sp s_sb s_sc s_f h_k = some res) : tEv l E yX7_setVariables cX7_setVariables 3 (some .int) 3 0 0 [.ref 0, .int a0] (encX x_hs s_n s_sp s_sb s_sc s_f s_st v_n v_sp v_sb v_sc v_f v_st h_k h_s h_c g_k g_v g_p g_a g_t c_k c_t c_p i_l i_n i_f i_p i_o i_b w_l w_s x_e x_l cr tl) (fun r h' => r = some (.int res.1) ∧ h' = encX x_hs (res.2.1) (res.2.2.1) (res.2.2.2.1) (res.2.2.2.2.1) (res.2.2.2.2.2.1) s_st v_n v_sp v_sb v_sc v_f v_st (res.2.2.2.2.2.2) h_s h_c g_k g_v g_p g_a g_t c_k c_t c_p i_l i_n i_f i_p i_o i_b w_l w_s x_e x_l cr tl) := by
  refine tEv.of (own := RX7) (ini := false) (L := [(0, .ref 0), (1, .int a0)]) (by decide +kernel) rfl (fun h9 => nomatch h9) rfl (Nat.le_of_ble_eq_true rfl) ?_
  rw [f_X7_setVariables] at hf
  refine g_iload_n 1 (q := 1) dX7_setVariables_0 rfl rfl ?_
  refine g_iconst (q := 2) (v := 1) dX7_setVariables_1 rfl rfl ?_
  refine g_icmp_lt (t := 10) (q := 5) dX7_setVariables_2 (by decide) rfl (fun c1 => ?_) (fun c1 => ?_)
  · rw [if_pos c1] at hf
    refine g_bipush (q := 12) (v := (-2)) dX7_setVariables_10 rfl rfl ?_
    have hf := Option.some.inj hf
    subst hf
    exact g_ireturn dX7_setVariables_12 rfl ⟨rfl, rfl⟩
  · rw [if_neg c1] at hf
    refine g_iload_n 1 (q := 6) dX7_setVariables_5 rfl rfl ?_
    refine g_iconst (q := 7) (v := 5) dX7_setVariables_6 rfl rfl ?_
    refine g_icmp_le (t := 13) (q := 10) dX7_setVariables_7 (by decide) rfl (fun c2 => ?_) (fun c2 => ?_)
    · rw [if_pos c2] at hf
      refine g_aload_n 0 (q := 14) dX7_setVariables_13 rfl rfl ?_
      refine g_get (q := 17) fl_X7_10 dX7_setVariables_14 rfl rfl rfl ?_
      refine g_get (q := 20) fl_X7_75 dX7_setVariables_17 rfl rfl rfl ?_
      refine g_istore_n (q := 21) (L' := [(0, .ref 0), (1, .int a0), (2, .int s_n)]) dX7_setVariables_20 rfl (by decide) rfl ?_
      refine g_aload_n 0 (q := 22) dX7_setVariables_21 rfl rfl ?_
      refine g_get (q := 25) fl_X7_10 dX7_setVariables_22 rfl rfl rfl ?_
      refine g_iload_n 1 (q := 26) dX7_setVariables_25 rfl rfl ?_
      obtain ⟨r3, e4, hf⟩ := Option.bind_eq_some_iff.mp hf
      refine g_callV (a := 1) (k2 := 0) (n2 := 0) (q := 29) (as := [.int a0]) (st := []) (st1 := []) tm_X6_startAnew ml_X7_79 ti_X6_startAnew rfl rfl dX7_setVariables_26 rfl (ev_X6_startAnew e4) rfl rfl (Nat.le_of_ble_eq_true rfl) (by decide) rfl rfl (Or.inl (encX_len.trans encX_len.symm)) rfl ?_
      refine g_aload_n 0 (q := 30) dX7_setVariables_29 rfl rfl ?_
      refine g_get (q := 33) fl_X7_26 dX7_setVariables_30 rfl rfl rfl ?_
      refine g_callV (a := 7) (k2 := 0) (n2 := 0) (q := 36) (as := []) (st := []) (st1 := []) tm_X4_forget ml_X7_83 ti_X4_forget rfl rfl dX7_setVariables_33 rfl ev_X4_forget rfl rfl (Nat.le_of_ble_eq_true rfl) (by decide) rfl rfl (Or.inl (encX_len.trans encX_len.symm)) rfl ?_
      refine g_iload_n 2 (q := 37) dX7_setVariables_36 rfl rfl ?_
      have hf := Option.some.inj hf
      subst hf
      exact g_ireturn dX7_setVariables_37 rfl ⟨rfl, rfl⟩
    · rw [if_neg c2] at hf
      refine g_bipush (q := 12) (v := (-2)) dX7_setVariables_10 rfl rfl ?_
      have hf := Option.some.inj hf
      subst hf
      exact g_ireturn dX7_setVariables_12 rfl ⟨rfl, rfl⟩
def f_X7_variables  (s_n : Int32) : Int32 := s_n
set_option maxRecDepth 20000 in
set_option maxHeartbeats 4000000 in
theorem ev_X7_variables {l : Launch} {E : tEn} {cr : Value} {tl : tHp} {x_hs : Int32} {s_n : Int32} {s_sp : Int64} {s_sb : Int64} {s_sc : Int32} {s_f : List Int64} {s_st : List Int32} {v_n : Int32} {v_sp : Int64} {v_sb : Int64} {v_sc : Int32} {v_f : List Int64} {v_st : List Int32} {h_k : Int32} {h_s : List Int32} {h_c : List Int64} {g_k : Int32} {g_v : Int32} {g_p : List Int32} {g_a : List Int32} {g_t : List Int32} {c_k : Int32} {c_t : List Int32} {c_p : List Int32} {i_l : Int32} {i_n : Int32} {i_f : Int64} {i_p : Int32} {i_o : Int32} {i_b : List Int32} {w_l : Int32} {w_s : List Int32} {x_e : List Int32} {x_l : List Int32}  : tEv l E yX7_variables cX7_variables 1 (some .int) 1 0 0 [.ref 0] (encX x_hs s_n s_sp s_sb s_sc s_f s_st v_n v_sp v_sb v_sc v_f v_st h_k h_s h_c g_k g_v g_p g_a g_t c_k c_t c_p i_l i_n i_f i_p i_o i_b w_l w_s x_e x_l cr tl) (fun r h' => r = some (.int (f_X7_variables s_n)) ∧ h' = encX x_hs s_n s_sp s_sb s_sc s_f s_st v_n v_sp v_sb v_sc v_f v_st h_k h_s h_c g_k g_v g_p g_a g_t c_k c_t c_p i_l i_n i_f i_p i_o i_b w_l w_s x_e x_l cr tl) := by
  refine tEv.of (own := RX7) (ini := false) (L := [(0, .ref 0)]) (by decide +kernel) rfl (fun h9 => nomatch h9) rfl (Nat.le_of_ble_eq_true rfl) ?_
  obtain ⟨res, hf⟩ : ∃ z, f_X7_variables s_n = z := ⟨_, rfl⟩
  rw [hf]
  rw [f_X7_variables] at hf
  refine g_aload_n 0 (q := 1) dX7_variables_0 rfl rfl ?_
  refine g_get (q := 4) fl_X7_10 dX7_variables_1 rfl rfl rfl ?_
  refine g_get (q := 7) fl_X7_75 dX7_variables_4 rfl rfl rfl ?_
  subst hf
  exact g_ireturn dX7_variables_7 rfl ⟨rfl, rfl⟩
def f_X7_isIndex (a0 : Int32) (a1 : Int32)  : Int32 := (if a0 < 0 then 0 else (if a1 ≤ a0 then 0 else 1))
theorem bl_X7_isIndex (a0 : Int32) (a1 : Int32)  : f_X7_isIndex a0 a1 = 0 ∨ f_X7_isIndex a0 a1 = 1 := by
  unfold f_X7_isIndex
  repeat' split
  all_goals first | exact Or.inl rfl | exact Or.inr rfl
set_option maxRecDepth 20000 in
set_option maxHeartbeats 4000000 in
theorem ev_X7_isIndex {l : Launch} {E : tEn}  {h : tHp} {a0 : Int32} {a1 : Int32} : tEv l E yX7_isIndex cX7_isIndex 2 (some .boolean) 1 0 0 [.int a0, .int a1] (h) (fun r h' => r = some (.int (f_X7_isIndex a0 a1)) ∧ h' = h) := by
  refine tEv.of (own := RX7) (ini := false) (L := [(0, .int a0), (1, .int a1)]) (by decide +kernel) rfl (fun h9 => nomatch h9) rfl (Nat.le_of_ble_eq_true rfl) ?_
  obtain ⟨res, hf⟩ : ∃ z, f_X7_isIndex a0 a1 = z := ⟨_, rfl⟩
  rw [hf]
  rw [f_X7_isIndex] at hf
  refine g_iload_n 0 (q := 1) dX7_isIndex_0 rfl rfl ?_
  refine g_if_lt (t := 13) (q := 4) dX7_isIndex_1 (by decide) rfl (fun c1 => ?_) (fun c1 => ?_)
  · rw [if_pos c1] at hf
    refine g_iconst (q := 14) (v := 0) dX7_isIndex_13 rfl rfl ?_
    subst hf
    exact g_zreturn (Or.inl rfl) dX7_isIndex_14 rfl ⟨rfl, rfl⟩
  · rw [if_neg c1] at hf
    refine g_iload_n 0 (q := 5) dX7_isIndex_4 rfl rfl ?_
    refine g_iload_n 1 (q := 6) dX7_isIndex_5 rfl rfl ?_
    refine g_icmp_ge (t := 13) (q := 9) dX7_isIndex_6 (by decide) rfl (fun c2 => ?_) (fun c2 => ?_)
    · rw [if_pos c2] at hf
      refine g_iconst (q := 14) (v := 0) dX7_isIndex_13 rfl rfl ?_
      subst hf
      exact g_zreturn (Or.inl rfl) dX7_isIndex_14 rfl ⟨rfl, rfl⟩
    · rw [if_neg c2] at hf
      refine g_iconst (q := 10) (v := 1) dX7_isIndex_9 rfl rfl ?_
      refine g_goto (t := 14) dX7_isIndex_10 (by decide) ?_
      subst hf
      exact g_zreturn (Or.inr rfl) dX7_isIndex_14 rfl ⟨rfl, rfl⟩
def f_X7_isSlot (a0 : Int32)  : Int32 := (f_X7_isIndex a0 8)
theorem bl_X7_isSlot (a0 : Int32)  : f_X7_isSlot a0 = 0 ∨ f_X7_isSlot a0 = 1 := by
  unfold f_X7_isSlot
  repeat' split
  all_goals first | exact Or.inl rfl | exact Or.inr rfl | exact bl_X7_isIndex _ _
set_option maxRecDepth 20000 in
set_option maxHeartbeats 4000000 in
theorem ev_X7_isSlot {l : Launch} {E : tEn}  {h : tHp} {a0 : Int32} : tEv l E yX7_isSlot cX7_isSlot 1 (some .boolean) 2 0 0 [.int a0] (h) (fun r h' => r = some (.int (f_X7_isSlot a0)) ∧ h' = h) := by
  refine tEv.of (own := RX7) (ini := false) (L := [(0, .int a0)]) (by decide +kernel) rfl (fun h9 => nomatch h9) rfl (Nat.le_of_ble_eq_true rfl) ?_
  obtain ⟨res, hf⟩ : ∃ z, f_X7_isSlot a0 = z := ⟨_, rfl⟩
  rw [hf]
  rw [f_X7_isSlot] at hf
  refine g_iload_n 0 (q := 1) dX7_isSlot_0 rfl rfl ?_
  refine g_bipush (q := 3) (v := 8) dX7_isSlot_1 rfl rfl ?_
  refine g_callS (k2 := 0) (n2 := 0) (q := 6) (as := [.int a0, .int 8]) (st := []) (st1 := [.int (f_X7_isIndex a0 8)]) tm_X7_isIndex ml_X7_140 ts_X7_isIndex dX7_isSlot_3 rfl ev_X7_isIndex rfl rfl (Nat.le_of_ble_eq_true rfl) (by decide) rfl rfl (Or.inl rfl) rfl ?_
  subst hf
  exact g_zreturn (bl_X7_isIndex a0 8) dX7_isSlot_6 rfl ⟨rfl, rfl⟩
def f_X7_pointCount (a0 : Int32)  : Int32 := ((1 : Int32) <<< (a0 &&& 31))
set_option maxRecDepth 20000 in
set_option maxHeartbeats 4000000 in
theorem ev_X7_pointCount {l : Launch} {E : tEn}  {h : tHp} {a0 : Int32} : tEv l E yX7_pointCount cX7_pointCount 1 (some .int) 1 0 0 [.int a0] (h) (fun r h' => r = some (.int (f_X7_pointCount a0)) ∧ h' = h) := by
  refine tEv.of (own := RX7) (ini := false) (L := [(0, .int a0)]) (by decide +kernel) rfl (fun h9 => nomatch h9) rfl (Nat.le_of_ble_eq_true rfl) ?_
  obtain ⟨res, hf⟩ : ∃ z, f_X7_pointCount a0 = z := ⟨_, rfl⟩
  rw [hf]
  rw [f_X7_pointCount] at hf
  refine g_iconst (q := 1) (v := 1) dX7_pointCount_0 rfl rfl ?_
  refine g_iload_n 0 (q := 2) dX7_pointCount_1 rfl rfl ?_
  refine g_ishl (q := 3) dX7_pointCount_2 rfl ?_
  subst hf
  exact g_ireturn dX7_pointCount_3 rfl ⟨rfl, rfl⟩
def f_X7_fullTable (a0 : Int32)  : Int64 := ((tlshl 1 (f_X7_pointCount a0)) - 1)
set_option maxRecDepth 20000 in
set_option maxHeartbeats 4000000 in
theorem ev_X7_fullTable {l : Launch} {E : tEn}  {h : tHp} {a0 : Int32} : tEv l E yX7_fullTable cX7_fullTable 1 (some .long) 2 0 0 [.int a0] (h) (fun r h' => r = some (.long (f_X7_fullTable a0)) ∧ h' = h) := by
  refine tEv.of (own := RX7) (ini := false) (L := [(0, .int a0)]) (by decide +kernel) rfl (fun h9 => nomatch h9) rfl (Nat.le_of_ble_eq_true rfl) ?_
  obtain ⟨res, hf⟩ : ∃ z, f_X7_fullTable a0 = z := ⟨_, rfl⟩
  rw [hf]
  rw [f_X7_fullTable] at hf
  refine g_lconst (q := 1) (v := 1) dX7_fullTable_0 rfl rfl ?_
  refine g_iload_n 0 (q := 2) dX7_fullTable_1 rfl rfl ?_
  refine g_callS (k2 := 0) (n2 := 0) (q := 5) (as := [.int a0]) (st := [.long 1]) (st1 := [.int (f_X7_pointCount a0), .long 1]) tm_X7_pointCount ml_X7_209 ts_X7_pointCount dX7_fullTable_2 rfl ev_X7_pointCount rfl rfl (Nat.le_of_ble_eq_true rfl) (by decide) rfl rfl (Or.inl rfl) rfl ?_
  refine g_lshl (q := 6) dX7_fullTable_5 rfl ?_
  refine g_lconst (q := 7) (v := 1) dX7_fullTable_6 rfl rfl ?_
  refine g_lsub (q := 8) dX7_fullTable_7 rfl ?_
  subst hf
  exact g_lreturn dX7_fullTable_8 rfl ⟨rfl, rfl⟩
def f_X4_remember (a0 : Int32) (a1 : Int64) (h_k : Int32) (h_s : List Int32) (h_c : List Int64) : Option (Int32 × List Int32 × List Int64) := (if h_k < 10 then (tst h_s h_k a0).bind fun z2 => (tst h_c h_k a1).bind fun z4 => some ((h_k + 1), z2, z4) else (tcpy (0 : Int32) h_s h_s 1 0 9).bind fun z6 => (tcpy (0 : Int64) h_c h_c 1 0 9).bind fun z8 => (tst z6 9 a0).bind fun z10 => (tst z8 9 a1).bind fun z12 => some ((9 + 1), z10, z12))
set_option maxRecDepth 20000 in
set_option maxHeartbeats 4000000 in
theorem ev_X4_remember {l : Launch} {E : tEn} {cr : Value} {tl : tHp} {x_hs : Int32} {s_n : Int32} {s_sp : Int64} {s_sb : Int64} {s_sc : Int32} {s_f : List Int64} {s_st : List Int32} {v_n : Int32} {v_sp : Int64} {v_sb : Int64} {v_sc : Int32} {v_f : List Int64} {v_st : List Int32} {h_k : Int32} {h_s : List Int32} {h_c : List Int64} {g_k : Int32} {g_v : Int32} {g_p : List Int32} {g_a : List Int32} {g_t : List Int32} {c_k : Int32} {c_t : List Int32} {c_p : List Int32} {i_l : Int32} {i_n : Int32} {i_f : Int64} {i_p : Int32} {i_o : Int32} {i_b : List Int32} {w_l : Int32} {w_s : List Int32} {x_e : List Int32} {x_l : List Int32} {a0 : Int32} {a1 : Int64} {res : Int32 × List Int32 × List Int64} (hf : f_X4_remember a0 a1 h_k h_s h_c = some res) : tEv l E yX4_remember cX4_remember 4 none 2 0 0 [.ref 7, .int a0, .long a1] (encX x_hs s_n s_sp s_sb s_sc s_f s_st v_n v_sp v_sb v_sc v_f v_st h_k h_s h_c g_k g_v g_p g_a g_t c_k c_t c_p i_l i_n i_f i_p i_o i_b w_l w_s x_e x_l cr tl) (fun r h' => r = none ∧ h' = encX x_hs s_n s_sp s_sb s_sc s_f s_st v_n v_sp v_sb v_sc v_f v_st (res.1) (res.2.1) (res.2.2) g_k g_v g_p g_a g_t c_k c_t c_p i_l i_n i_f i_p i_o i_b w_l w_s x_e x_l cr tl) := by
  refine tEv.of (own := RX4) (ini := false) (L := [(0, .ref 7), (1, .int a0), (2, .long a1)]) (by decide +kernel) rfl (fun h9 => nomatch h9) rfl (Nat.le_of_ble_eq_true rfl) ?_
  rw [f_X4_remember] at hf
  refine g_aload_n 0 (q := 1) dX4_remember_0 rfl rfl ?_
  refine g_get (q := 4) fl_X4_19 dX4_remember_1 rfl rfl rfl ?_
  refine g_bipush (q := 6) (v := 10) dX4_remember_4 rfl rfl ?_
  refine g_icmp_lt (t := 45) (q := 9) dX4_remember_6 (by decide) rfl (fun c1 => ?_) (fun c1 => ?_)
  · rw [if_pos c1] at hf
    refine g_aload_n 0 (q := 46) dX4_remember_45 rfl rfl ?_
    refine g_get (q := 49) fl_X4_9 dX4_remember_46 rfl rfl rfl ?_
    refine g_aload_n 0 (q := 50) dX4_remember_49 rfl rfl ?_
    refine g_get (q := 53) fl_X4_19 dX4_remember_50 rfl rfl rfl ?_
    refine g_iload_n 1 (q := 54) dX4_remember_53 rfl rfl ?_
    obtain ⟨z2, e3, hf⟩ := Option.bind_eq_some_iff.mp hf
    refine g_iastore (q := 55) (h' := encX x_hs s_n s_sp s_sb s_sc s_f s_st v_n v_sp v_sb v_sc v_f v_st h_k z2 h_c g_k g_v g_p g_a g_t c_k c_t c_p i_l i_n i_f i_p i_o i_b w_l w_s x_e x_l cr tl) dX4_remember_54 rfl rfl e3 rfl ?_
    refine g_aload_n 0 (q := 56) dX4_remember_55 rfl rfl ?_
    refine g_get (q := 59) fl_X4_15 dX4_remember_56 rfl rfl rfl ?_
    refine g_aload_n 0 (q := 60) dX4_remember_59 rfl rfl ?_
    refine g_get (q := 63) fl_X4_19 dX4_remember_60 rfl rfl rfl ?_
    refine g_lload_n 2 (q := 64) dX4_remember_63 rfl rfl ?_
    obtain ⟨z4, e5, hf⟩ := Option.bind_eq_some_iff.mp hf
    refine g_lastore (q := 65) (h' := encX x_hs s_n s_sp s_sb s_sc s_f s_st v_n v_sp v_sb v_sc v_f v_st h_k z2 z4 g_k g_v g_p g_a g_t c_k c_t c_p i_l i_n i_f i_p i_o i_b w_l w_s x_e x_l cr tl) dX4_remember_64 rfl rfl e5 rfl ?_
    refine g_aload_n 0 (q := 66) dX4_remember_65 rfl rfl ?_
    refine g_dup (q := 67) dX4_remember_66 rfl rfl ?_
    refine g_get (q := 70) fl_X4_19 dX4_remember_67 rfl rfl rfl ?_
    refine g_iconst (q := 71) (v := 1) dX4_remember_70 rfl rfl ?_
    refine g_iadd (q := 72) dX4_remember_71 rfl ?_
    refine g_put (q := 75) (h' := encX x_hs s_n s_sp s_sb s_sc s_f s_st v_n v_sp v_sb v_sc v_f v_st (h_k + 1) z2 z4 g_k g_v g_p g_a g_t c_k c_t c_p i_l i_n i_f i_p i_o i_b w_l w_s x_e x_l cr tl) fp_X4_19 dX4_remember_72 rfl rfl (Nat.le_of_ble_eq_true rfl) (fun _ => ⟨rfl, rfl⟩) rfl ?_
    have hf := Option.some.inj hf
    subst hf
    exact g_return dX4_remember_75 rfl ⟨rfl, rfl⟩
  · rw [if_neg c1] at hf
    refine g_aload_n 0 (q := 10) dX4_remember_9 rfl rfl ?_
    refine g_get (q := 13) fl_X4_9 dX4_remember_10 rfl rfl rfl ?_
    refine g_iconst (q := 14) (v := 1) dX4_remember_13 rfl rfl ?_
    refine g_aload_n 0 (q := 15) dX4_remember_14 rfl rfl ?_
    refine g_get (q := 18) fl_X4_9 dX4_remember_15 rfl rfl rfl ?_
    refine g_iconst (q := 19) (v := 0) dX4_remember_18 rfl rfl ?_
    refine g_bipush (q := 21) (v := 9) dX4_remember_19 rfl rfl ?_
    obtain ⟨z6, e7, hf⟩ := Option.bind_eq_some_iff.mp hf
    refine g_copyI (q := 24) (h' := encX x_hs s_n s_sp s_sb s_sc s_f s_st v_n v_sp v_sb v_sc v_f v_st h_k z6 h_c g_k g_v g_p g_a g_t c_k c_t c_p i_l i_n i_f i_p i_o i_b w_l w_s x_e x_l cr tl) al_X4_23 dX4_remember_21 rfl rfl rfl e7 rfl (by decide) (Nat.le_of_ble_eq_true rfl) ?_
    refine g_aload_n 0 (q := 25) dX4_remember_24 rfl rfl ?_
    refine g_get (q := 28) fl_X4_15 dX4_remember_25 rfl rfl rfl ?_
    refine g_iconst (q := 29) (v := 1) dX4_remember_28 rfl rfl ?_
    refine g_aload_n 0 (q := 30) dX4_remember_29 rfl rfl ?_
    refine g_get (q := 33) fl_X4_15 dX4_remember_30 rfl rfl rfl ?_
    refine g_iconst (q := 34) (v := 0) dX4_remember_33 rfl rfl ?_
    refine g_bipush (q := 36) (v := 9) dX4_remember_34 rfl rfl ?_
    obtain ⟨z8, e9, hf⟩ := Option.bind_eq_some_iff.mp hf
    refine g_copyJ (q := 39) (h' := encX x_hs s_n s_sp s_sb s_sc s_f s_st v_n v_sp v_sb v_sc v_f v_st h_k z6 z8 g_k g_v g_p g_a g_t c_k c_t c_p i_l i_n i_f i_p i_o i_b w_l w_s x_e x_l cr tl) al_X4_23 dX4_remember_36 rfl rfl rfl e9 rfl (by decide) (Nat.le_of_ble_eq_true rfl) ?_
    refine g_aload_n 0 (q := 40) dX4_remember_39 rfl rfl ?_
    refine g_bipush (q := 42) (v := 9) dX4_remember_40 rfl rfl ?_
    refine g_put (q := 45) (h' := encX x_hs s_n s_sp s_sb s_sc s_f s_st v_n v_sp v_sb v_sc v_f v_st 9 z6 z8 g_k g_v g_p g_a g_t c_k c_t c_p i_l i_n i_f i_p i_o i_b w_l w_s x_e x_l cr tl) fp_X4_19 dX4_remember_42 rfl rfl (Nat.le_of_ble_eq_true rfl) (fun _ => ⟨rfl, rfl⟩) rfl ?_
    refine g_aload_n 0 (q := 46) dX4_remember_45 rfl rfl ?_
    refine g_get (q := 49) fl_X4_9 dX4_remember_46 rfl rfl rfl ?_
    refine g_aload_n 0 (q := 50) dX4_remember_49 rfl rfl ?_
    refine g_get (q := 53) fl_X4_19 dX4_remember_50 rfl rfl rfl ?_
    refine g_iload_n 1 (q := 54) dX4_remember_53 rfl rfl ?_
    obtain ⟨z10, e11, hf⟩ := Option.bind_eq_some_iff.mp hf
    refine g_iastore (q := 55) (h' := encX x_hs s_n s_sp s_sb s_sc s_f s_st v_n v_sp v_sb v_sc v_f v_st 9 z10 z8 g_k g_v g_p g_a g_t c_k c_t c_p i_l i_n i_f i_p i_o i_b w_l w_s x_e x_l cr tl) dX4_remember_54 rfl rfl e11 rfl ?_
    refine g_aload_n 0 (q := 56) dX4_remember_55 rfl rfl ?_
    refine g_get (q := 59) fl_X4_15 dX4_remember_56 rfl rfl rfl ?_
    refine g_aload_n 0 (q := 60) dX4_remember_59 rfl rfl ?_
    refine g_get (q := 63) fl_X4_19 dX4_remember_60 rfl rfl rfl ?_
    refine g_lload_n 2 (q := 64) dX4_remember_63 rfl rfl ?_
    obtain ⟨z12, e13, hf⟩ := Option.bind_eq_some_iff.mp hf
    refine g_lastore (q := 65) (h' := encX x_hs s_n s_sp s_sb s_sc s_f s_st v_n v_sp v_sb v_sc v_f v_st 9 z10 z12 g_k g_v g_p g_a g_t c_k c_t c_p i_l i_n i_f i_p i_o i_b w_l w_s x_e x_l cr tl) dX4_remember_64 rfl rfl e13 rfl ?_
    refine g_aload_n 0 (q := 66) dX4_remember_65 rfl rfl ?_
    refine g_dup (q := 67) dX4_remember_66 rfl rfl ?_
    refine g_get (q := 70) fl_X4_19 dX4_remember_67 rfl rfl rfl ?_
    refine g_iconst (q := 71) (v := 1) dX4_remember_70 rfl rfl ?_
    refine g_iadd (q := 72) dX4_remember_71 rfl ?_
    refine g_put (q := 75) (h' := encX x_hs s_n s_sp s_sb s_sc s_f s_st v_n v_sp v_sb v_sc v_f v_st (9 + 1) z10 z12 g_k g_v g_p g_a g_t c_k c_t c_p i_l i_n i_f i_p i_o i_b w_l w_s x_e x_l cr tl) fp_X4_19 dX4_remember_72 rfl rfl (Nat.le_of_ble_eq_true rfl) (fun _ => ⟨rfl, rfl⟩) rfl ?_
    have hf := Option.some.inj hf
    subst hf
    exact g_return dX4_remember_75 rfl ⟨rfl, rfl⟩
def f_J13_bitCount_95d88 (a0 : Int64)  : Int32 := ((Int64.toInt32 ((((((((a0 - ((tlushr a0 1) &&& 6148914691236517205)) &&& 3689348814741910323) + ((tlushr (a0 - ((tlushr a0 1) &&& 6148914691236517205)) 2) &&& 3689348814741910323)) + (tlushr (((a0 - ((tlushr a0 1) &&& 6148914691236517205)) &&& 3689348814741910323) + ((tlushr (a0 - ((tlushr a0 1) &&& 6148914691236517205)) 2) &&& 3689348814741910323)) 4)) &&& 1085102592571150095) + (tlushr (((((a0 - ((tlushr a0 1) &&& 6148914691236517205)) &&& 3689348814741910323) + ((tlushr (a0 - ((tlushr a0 1) &&& 6148914691236517205)) 2) &&& 3689348814741910323)) + (tlushr (((a0 - ((tlushr a0 1) &&& 6148914691236517205)) &&& 3689348814741910323) + ((tlushr (a0 - ((tlushr a0 1) &&& 6148914691236517205)) 2) &&& 3689348814741910323)) 4)) &&& 1085102592571150095) 8)) + (tlushr ((((((a0 - ((tlushr a0 1) &&& 6148914691236517205)) &&& 3689348814741910323) + ((tlushr (a0 - ((tlushr a0 1) &&& 6148914691236517205)) 2) &&& 3689348814741910323)) + (tlushr (((a0 - ((tlushr a0 1) &&& 6148914691236517205)) &&& 3689348814741910323) + ((tlushr (a0 - ((tlushr a0 1) &&& 6148914691236517205)) 2) &&& 3689348814741910323)) 4)) &&& 1085102592571150095) + (tlushr (((((a0 - ((tlushr a0 1) &&& 6148914691236517205)) &&& 3689348814741910323) + ((tlushr (a0 - ((tlushr a0 1) &&& 6148914691236517205)) 2) &&& 3689348814741910323)) + (tlushr (((a0 - ((tlushr a0 1) &&& 6148914691236517205)) &&& 3689348814741910323) + ((tlushr (a0 - ((tlushr a0 1) &&& 6148914691236517205)) 2) &&& 3689348814741910323)) 4)) &&& 1085102592571150095) 8)) 16)) + (tlushr (((((((a0 - ((tlushr a0 1) &&& 6148914691236517205)) &&& 3689348814741910323) + ((tlushr (a0 - ((tlushr a0 1) &&& 6148914691236517205)) 2) &&& 3689348814741910323)) + (tlushr (((a0 - ((tlushr a0 1) &&& 6148914691236517205)) &&& 3689348814741910323) + ((tlushr (a0 - ((tlushr a0 1) &&& 6148914691236517205)) 2) &&& 3689348814741910323)) 4)) &&& 1085102592571150095) + (tlushr (((((a0 - ((tlushr a0 1) &&& 6148914691236517205)) &&& 3689348814741910323) + ((tlushr (a0 - ((tlushr a0 1) &&& 6148914691236517205)) 2) &&& 3689348814741910323)) + (tlushr (((a0 - ((tlushr a0 1) &&& 6148914691236517205)) &&& 3689348814741910323) + ((tlushr (a0 - ((tlushr a0 1) &&& 6148914691236517205)) 2) &&& 3689348814741910323)) 4)) &&& 1085102592571150095) 8)) + (tlushr ((((((a0 - ((tlushr a0 1) &&& 6148914691236517205)) &&& 3689348814741910323) + ((tlushr (a0 - ((tlushr a0 1) &&& 6148914691236517205)) 2) &&& 3689348814741910323)) + (tlushr (((a0 - ((tlushr a0 1) &&& 6148914691236517205)) &&& 3689348814741910323) + ((tlushr (a0 - ((tlushr a0 1) &&& 6148914691236517205)) 2) &&& 3689348814741910323)) 4)) &&& 1085102592571150095) + (tlushr (((((a0 - ((tlushr a0 1) &&& 6148914691236517205)) &&& 3689348814741910323) + ((tlushr (a0 - ((tlushr a0 1) &&& 6148914691236517205)) 2) &&& 3689348814741910323)) + (tlushr (((a0 - ((tlushr a0 1) &&& 6148914691236517205)) &&& 3689348814741910323) + ((tlushr (a0 - ((tlushr a0 1) &&& 6148914691236517205)) 2) &&& 3689348814741910323)) 4)) &&& 1085102592571150095) 8)) 16)) 32))) &&& 127)
set_option maxRecDepth 20000 in
set_option maxHeartbeats 4000000 in
theorem ev_J13_bitCount_95d88 {l : Launch} {E : tEn}  {h : tHp} {a0 : Int64} : tEv l E yJ13_bitCount_95d88 cJ13_bitCount_95d88 2 (some .int) 1 0 0 [.long a0] (h) (fun r h' => r = some (.int (f_J13_bitCount_95d88 a0)) ∧ h' = h) := by
  refine tEv.of (own := RJ13) (ini := false) (L := [(0, .long a0)]) (by decide +kernel) rfl (fun h9 => nomatch h9) rfl (Nat.le_of_ble_eq_true rfl) ?_
  obtain ⟨res, hf⟩ : ∃ z, f_J13_bitCount_95d88 a0 = z := ⟨_, rfl⟩
  rw [hf]
  rw [f_J13_bitCount_95d88] at hf
  refine g_lload_n 0 (q := 1) dJ13_bitCount_95d88_0 rfl rfl ?_
  refine g_lload_n 0 (q := 2) dJ13_bitCount_95d88_1 rfl rfl ?_
  refine g_iconst (q := 3) (v := 1) dJ13_bitCount_95d88_2 rfl rfl ?_
  refine g_lushr (q := 4) dJ13_bitCount_95d88_3 rfl ?_
  refine g_ldc2_w (q := 7) kc_J13_314 dJ13_bitCount_95d88_4 rfl ?_
  refine g_land (q := 8) dJ13_bitCount_95d88_7 rfl ?_
  refine g_lsub (q := 9) dJ13_bitCount_95d88_8 rfl ?_
  refine g_lstore_n (q := 10) (L' := [(0, .long (a0 - ((tlushr a0 1) &&& 6148914691236517205)))]) dJ13_bitCount_95d88_9 rfl (by decide) rfl ?_
  refine g_lload_n 0 (q := 11) dJ13_bitCount_95d88_10 rfl rfl ?_
  refine g_ldc2_w (q := 14) kc_J13_316 dJ13_bitCount_95d88_11 rfl ?_
  refine g_land (q := 15) dJ13_bitCount_95d88_14 rfl ?_
  refine g_lload_n 0 (q := 16) dJ13_bitCount_95d88_15 rfl rfl ?_
  refine g_iconst (q := 17) (v := 2) dJ13_bitCount_95d88_16 rfl rfl ?_
  refine g_lushr (q := 18) dJ13_bitCount_95d88_17 rfl ?_
  refine g_ldc2_w (q := 21) kc_J13_316 dJ13_bitCount_95d88_18 rfl ?_
  refine g_land (q := 22) dJ13_bitCount_95d88_21 rfl ?_
  refine g_ladd (q := 23) dJ13_bitCount_95d88_22 rfl ?_
  refine g_lstore_n (q := 24) (L' := [(0, .long (((a0 - ((tlushr a0 1) &&& 6148914691236517205)) &&& 3689348814741910323) + ((tlushr (a0 - ((tlushr a0 1) &&& 6148914691236517205)) 2) &&& 3689348814741910323)))]) dJ13_bitCount_95d88_23 rfl (by decide) rfl ?_
  refine g_lload_n 0 (q := 25) dJ13_bitCount_95d88_24 rfl rfl ?_
  refine g_lload_n 0 (q := 26) dJ13_bitCount_95d88_25 rfl rfl ?_
  refine g_iconst (q := 27) (v := 4) dJ13_bitCount_95d88_26 rfl rfl ?_
  refine g_lushr (q := 28) dJ13_bitCount_95d88_27 rfl ?_
  refine g_ladd (q := 29) dJ13_bitCount_95d88_28 rfl ?_
  refine g_ldc2_w (q := 32) kc_J13_318 dJ13_bitCount_95d88_29 rfl ?_
  refine g_land (q := 33) dJ13_bitCount_95d88_32 rfl ?_
  refine g_lstore_n (q := 34) (L' := [(0, .long (((((a0 - ((tlushr a0 1) &&& 6148914691236517205)) &&& 3689348814741910323) + ((tlushr (a0 - ((tlushr a0 1) &&& 6148914691236517205)) 2) &&& 3689348814741910323)) + (tlushr (((a0 - ((tlushr a0 1) &&& 6148914691236517205)) &&& 3689348814741910323) + ((tlushr (a0 - ((tlushr a0 1) &&& 6148914691236517205)) 2) &&& 3689348814741910323)) 4)) &&& 1085102592571150095))]) dJ13_bitCount_95d88_33 rfl (by decide) rfl ?_
  refine g_lload_n 0 (q := 35) dJ13_bitCount_95d88_34 rfl rfl ?_
  refine g_lload_n 0 (q := 36) dJ13_bitCount_95d88_35 rfl rfl ?_
  refine g_bipush (q := 38) (v := 8) dJ13_bitCount_95d88_36 rfl rfl ?_
  refine g_lushr (q := 39) dJ13_bitCount_95d88_38 rfl ?_
  refine g_ladd (q := 40) dJ13_bitCount_95d88_39 rfl ?_
  refine g_lstore_n (q := 41) (L' := [(0, .long ((((((a0 - ((tlushr a0 1) &&& 6148914691236517205)) &&& 3689348814741910323) + ((tlushr (a0 - ((tlushr a0 1) &&& 6148914691236517205)) 2) &&& 3689348814741910323)) + (tlushr (((a0 - ((tlushr a0 1) &&& 6148914691236517205)) &&& 3689348814741910323) + ((tlushr (a0 - ((tlushr a0 1) &&& 6148914691236517205)) 2) &&& 3689348814741910323)) 4)) &&& 1085102592571150095) + (tlushr (((((a0 - ((tlushr a0 1) &&& 6148914691236517205)) &&& 3689348814741910323) + ((tlushr (a0 - ((tlushr a0 1) &&& 6148914691236517205)) 2) &&& 3689348814741910323)) + (tlushr (((a0 - ((tlushr a0 1) &&& 6148914691236517205)) &&& 3689348814741910323) + ((tlushr (a0 - ((tlushr a0 1) &&& 6148914691236517205)) 2) &&& 3689348814741910323)) 4)) &&& 1085102592571150095) 8)))]) dJ13_bitCount_95d88_40 rfl (by decide) rfl ?_
  refine g_lload_n 0 (q := 42) dJ13_bitCount_95d88_41 rfl rfl ?_
  refine g_lload_n 0 (q := 43) dJ13_bitCount_95d88_42 rfl rfl ?_
  refine g_bipush (q := 45) (v := 16) dJ13_bitCount_95d88_43 rfl rfl ?_
  refine g_lushr (q := 46) dJ13_bitCount_95d88_45 rfl ?_
  refine g_ladd (q := 47) dJ13_bitCount_95d88_46 rfl ?_
  refine g_lstore_n (q := 48) (L' := [(0, .long (((((((a0 - ((tlushr a0 1) &&& 6148914691236517205)) &&& 3689348814741910323) + ((tlushr (a0 - ((tlushr a0 1) &&& 6148914691236517205)) 2) &&& 3689348814741910323)) + (tlushr (((a0 - ((tlushr a0 1) &&& 6148914691236517205)) &&& 3689348814741910323) + ((tlushr (a0 - ((tlushr a0 1) &&& 6148914691236517205)) 2) &&& 3689348814741910323)) 4)) &&& 1085102592571150095) + (tlushr (((((a0 - ((tlushr a0 1) &&& 6148914691236517205)) &&& 3689348814741910323) + ((tlushr (a0 - ((tlushr a0 1) &&& 6148914691236517205)) 2) &&& 3689348814741910323)) + (tlushr (((a0 - ((tlushr a0 1) &&& 6148914691236517205)) &&& 3689348814741910323) + ((tlushr (a0 - ((tlushr a0 1) &&& 6148914691236517205)) 2) &&& 3689348814741910323)) 4)) &&& 1085102592571150095) 8)) + (tlushr ((((((a0 - ((tlushr a0 1) &&& 6148914691236517205)) &&& 3689348814741910323) + ((tlushr (a0 - ((tlushr a0 1) &&& 6148914691236517205)) 2) &&& 3689348814741910323)) + (tlushr (((a0 - ((tlushr a0 1) &&& 6148914691236517205)) &&& 3689348814741910323) + ((tlushr (a0 - ((tlushr a0 1) &&& 6148914691236517205)) 2) &&& 3689348814741910323)) 4)) &&& 1085102592571150095) + (tlushr (((((a0 - ((tlushr a0 1) &&& 6148914691236517205)) &&& 3689348814741910323) + ((tlushr (a0 - ((tlushr a0 1) &&& 6148914691236517205)) 2) &&& 3689348814741910323)) + (tlushr (((a0 - ((tlushr a0 1) &&& 6148914691236517205)) &&& 3689348814741910323) + ((tlushr (a0 - ((tlushr a0 1) &&& 6148914691236517205)) 2) &&& 3689348814741910323)) 4)) &&& 1085102592571150095) 8)) 16)))]) dJ13_bitCount_95d88_47 rfl (by decide) rfl ?_
  refine g_lload_n 0 (q := 49) dJ13_bitCount_95d88_48 rfl rfl ?_
  refine g_lload_n 0 (q := 50) dJ13_bitCount_95d88_49 rfl rfl ?_
  refine g_bipush (q := 52) (v := 32) dJ13_bitCount_95d88_50 rfl rfl ?_
  refine g_lushr (q := 53) dJ13_bitCount_95d88_52 rfl ?_
  refine g_ladd (q := 54) dJ13_bitCount_95d88_53 rfl ?_
  refine g_lstore_n (q := 55) (L' := [(0, .long ((((((((a0 - ((tlushr a0 1) &&& 6148914691236517205)) &&& 3689348814741910323) + ((tlushr (a0 - ((tlushr a0 1) &&& 6148914691236517205)) 2) &&& 3689348814741910323)) + (tlushr (((a0 - ((tlushr a0 1) &&& 6148914691236517205)) &&& 3689348814741910323) + ((tlushr (a0 - ((tlushr a0 1) &&& 6148914691236517205)) 2) &&& 3689348814741910323)) 4)) &&& 1085102592571150095) + (tlushr (((((a0 - ((tlushr a0 1) &&& 6148914691236517205)) &&& 3689348814741910323) + ((tlushr (a0 - ((tlushr a0 1) &&& 6148914691236517205)) 2) &&& 3689348814741910323)) + (tlushr (((a0 - ((tlushr a0 1) &&& 6148914691236517205)) &&& 3689348814741910323) + ((tlushr (a0 - ((tlushr a0 1) &&& 6148914691236517205)) 2) &&& 3689348814741910323)) 4)) &&& 1085102592571150095) 8)) + (tlushr ((((((a0 - ((tlushr a0 1) &&& 6148914691236517205)) &&& 3689348814741910323) + ((tlushr (a0 - ((tlushr a0 1) &&& 6148914691236517205)) 2) &&& 3689348814741910323)) + (tlushr (((a0 - ((tlushr a0 1) &&& 6148914691236517205)) &&& 3689348814741910323) + ((tlushr (a0 - ((tlushr a0 1) &&& 6148914691236517205)) 2) &&& 3689348814741910323)) 4)) &&& 1085102592571150095) + (tlushr (((((a0 - ((tlushr a0 1) &&& 6148914691236517205)) &&& 3689348814741910323) + ((tlushr (a0 - ((tlushr a0 1) &&& 6148914691236517205)) 2) &&& 3689348814741910323)) + (tlushr (((a0 - ((tlushr a0 1) &&& 6148914691236517205)) &&& 3689348814741910323) + ((tlushr (a0 - ((tlushr a0 1) &&& 6148914691236517205)) 2) &&& 3689348814741910323)) 4)) &&& 1085102592571150095) 8)) 16)) + (tlushr (((((((a0 - ((tlushr a0 1) &&& 6148914691236517205)) &&& 3689348814741910323) + ((tlushr (a0 - ((tlushr a0 1) &&& 6148914691236517205)) 2) &&& 3689348814741910323)) + (tlushr (((a0 - ((tlushr a0 1) &&& 6148914691236517205)) &&& 3689348814741910323) + ((tlushr (a0 - ((tlushr a0 1) &&& 6148914691236517205)) 2) &&& 3689348814741910323)) 4)) &&& 1085102592571150095) + (tlushr (((((a0 - ((tlushr a0 1) &&& 6148914691236517205)) &&& 3689348814741910323) + ((tlushr (a0 - ((tlushr a0 1) &&& 6148914691236517205)) 2) &&& 3689348814741910323)) + (tlushr (((a0 - ((tlushr a0 1) &&& 6148914691236517205)) &&& 3689348814741910323) + ((tlushr (a0 - ((tlushr a0 1) &&& 6148914691236517205)) 2) &&& 3689348814741910323)) 4)) &&& 1085102592571150095) 8)) + (tlushr ((((((a0 - ((tlushr a0 1) &&& 6148914691236517205)) &&& 3689348814741910323) + ((tlushr (a0 - ((tlushr a0 1) &&& 6148914691236517205)) 2) &&& 3689348814741910323)) + (tlushr (((a0 - ((tlushr a0 1) &&& 6148914691236517205)) &&& 3689348814741910323) + ((tlushr (a0 - ((tlushr a0 1) &&& 6148914691236517205)) 2) &&& 3689348814741910323)) 4)) &&& 1085102592571150095) + (tlushr (((((a0 - ((tlushr a0 1) &&& 6148914691236517205)) &&& 3689348814741910323) + ((tlushr (a0 - ((tlushr a0 1) &&& 6148914691236517205)) 2) &&& 3689348814741910323)) + (tlushr (((a0 - ((tlushr a0 1) &&& 6148914691236517205)) &&& 3689348814741910323) + ((tlushr (a0 - ((tlushr a0 1) &&& 6148914691236517205)) 2) &&& 3689348814741910323)) 4)) &&& 1085102592571150095) 8)) 16)) 32)))]) dJ13_bitCount_95d88_54 rfl (by decide) rfl ?_
  refine g_lload_n 0 (q := 56) dJ13_bitCount_95d88_55 rfl rfl ?_
  refine g_l2i (q := 57) dJ13_bitCount_95d88_56 rfl ?_
  refine g_bipush (q := 59) (v := 127) dJ13_bitCount_95d88_57 rfl rfl ?_
  refine g_iand (q := 60) dJ13_bitCount_95d88_59 rfl ?_
  subst hf
  exact g_ireturn dJ13_bitCount_95d88_60 rfl ⟨rfl, rfl⟩
def f_X7_store (a0 : Int32) (a1 : Int64) (s_f : List Int64) (h_k : Int32) (h_s : List Int32) (h_c : List Int64) : Option (Int32 × List Int64 × Int32 × List Int32 × List Int64) := (tld s_f a0).bind fun r1 => (f_X4_remember a0 r1 h_k h_s h_c).bind fun r3 => (tst s_f a0 a1).bind fun z5 => some ((f_J13_bitCount_95d88 a1), z5, r3.1, r3.2.1, r3.2.2)
set_option maxRecDepth 20000 in
set_option maxHeartbeats 4000000 in
theorem ev_X7_store {l : Launch} {E : tEn} {cr : Value} {tl : tHp} {x_hs : Int32} {s_n : Int32} {s_sp : Int64} {s_sb : Int64} {s_sc : Int32} {s_f : List Int64} {s_st : List Int32} {v_n : Int32} {v_sp : Int64} {v_sb : Int64} {v_sc : Int32} {v_f : List Int64} {v_st : List Int32} {h_k : Int32} {h_s : List Int32} {h_c : List Int64} {g_k : Int32} {g_v : Int32} {g_p : List Int32} {g_a : List Int32} {g_t : List Int32} {c_k : Int32} {c_t : List Int32} {c_p : List Int32} {i_l : Int32} {i_n : Int32} {i_f : Int64} {i_p : Int32} {i_o : Int32} {i_b : List Int32} {w_l : Int32} {w_s : List Int32} {x_e : List Int32} {x_l : List Int32} {a0 : Int32} {a1 : Int64} {res : Int32 × List Int64 × Int32 × List Int32 × List Int64} (hf : f_X7_store a0 a1 s_f h_k h_s h_c = some res) : tEv l E yX7_store cX7_store 4 (some .int) 3 0 0 [.ref 0, .int a0, .long a1] (encX x_hs s_n s_sp s_sb s_sc s_f s_st v_n v_sp v_sb v_sc v_f v_st h_k h_s h_c g_k g_v g_p g_a g_t c_k c_t c_p i_l i_n i_f i_p i_o i_b w_l w_s x_e x_l cr tl) (fun r h' => r = some (.int res.1) ∧ h' = encX x_hs s_n s_sp s_sb s_sc (res.2.1) s_st v_n v_sp v_sb v_sc v_f v_st (res.2.2.1) (res.2.2.2.1) (res.2.2.2.2) g_k g_v g_p g_a g_t c_k c_t c_p i_l i_n i_f i_p i_o i_b w_l w_s x_e x_l cr tl) := by
  refine tEv.of (own := RX7) (ini := false) (L := [(0, .ref 0), (1, .int a0), (2, .long a1)]) (by decide +kernel) rfl (fun h9 => nomatch h9) rfl (Nat.le_of_ble_eq_true rfl) ?_
  rw [f_X7_store] at hf
  refine g_aload_n 0 (q := 1) dX7_store_0 rfl rfl ?_
  refine g_get (q := 4) fl_X7_26 dX7_store_1 rfl rfl rfl ?_
  refine g_iload_n 1 (q := 5) dX7_store_4 rfl rfl ?_
  refine g_aload_n 0 (q := 6) dX7_store_5 rfl rfl ?_
  refine g_get (q := 9) fl_X7_10 dX7_store_6 rfl rfl rfl ?_
  refine g_get (q := 12) fl_X7_102 dX7_store_9 rfl rfl rfl ?_
  refine g_iload_n 1 (q := 13) dX7_store_12 rfl rfl ?_
  obtain ⟨r1, e2, hf⟩ := Option.bind_eq_some_iff.mp hf
  refine g_laload (q := 14) dX7_store_13 rfl rfl e2 ?_
  obtain ⟨r3, e4, hf⟩ := Option.bind_eq_some_iff.mp hf
  refine g_callV (a := 7) (k2 := 0) (n2 := 0) (q := 17) (as := [.int a0, .long r1]) (st := []) (st1 := []) tm_X4_remember ml_X7_283 ti_X4_remember rfl rfl dX7_store_14 rfl (ev_X4_remember e4) rfl rfl (Nat.le_of_ble_eq_true rfl) (by decide) rfl rfl (Or.inl (encX_len.trans encX_len.symm)) rfl ?_
  refine g_aload_n 0 (q := 18) dX7_store_17 rfl rfl ?_
  refine g_get (q := 21) fl_X7_10 dX7_store_18 rfl rfl rfl ?_
  refine g_get (q := 24) fl_X7_102 dX7_store_21 rfl rfl rfl ?_
  refine g_iload_n 1 (q := 25) dX7_store_24 rfl rfl ?_
  refine g_lload_n 2 (q := 26) dX7_store_25 rfl rfl ?_
  obtain ⟨z5, e6, hf⟩ := Option.bind_eq_some_iff.mp hf
  refine g_lastore (q := 27) (h' := encX x_hs s_n s_sp s_sb s_sc z5 s_st v_n v_sp v_sb v_sc v_f v_st (r3.1) (r3.2.1) (r3.2.2) g_k g_v g_p g_a g_t c_k c_t c_p i_l i_n i_f i_p i_o i_b w_l w_s x_e x_l cr tl) dX7_store_26 rfl rfl e6 rfl ?_
  refine g_lload_n 2 (q := 28) dX7_store_27 rfl rfl ?_
  refine g_callS (k2 := 0) (n2 := 0) (q := 31) (as := [.long a1]) (st := []) (st1 := [.int (f_J13_bitCount_95d88 a1)]) tm_J13_bitCount_95d88 ml_X7_234 ts_J13_bitCount_95d88 dX7_store_28 rfl ev_J13_bitCount_95d88 rfl rfl (Nat.le_of_ble_eq_true rfl) (by decide) rfl rfl (Or.inl rfl) rfl ?_
  have hf := Option.some.inj hf
  subst hf
  exact g_ireturn dX7_store_31 rfl ⟨rfl, rfl⟩
def f_X7_setTable (a0 : Int32) (a1 : Int64) (s_n : Int32) (s_f : List Int64) (h_k : Int32) (h_s : List Int32) (h_c : List Int64) : Option (Int32 × List Int64 × Int32 × List Int32 × List Int64) := (if (f_X7_isSlot a0) = 0 then some ((-2), s_f, h_k, h_s, h_c) else (if (lg_cmp a1 0) < 0 then some ((-2), s_f, h_k, h_s, h_c) else (if (lg_cmp a1 (f_X7_fullTable s_n)) ≤ 0 then (f_X7_store a0 a1 s_f h_k h_s h_c).bind fun r4 => some (r4.1, r4.2.1, r4.2.2.1, r4.2.2.2.1, r4.2.2.2.2) else some ((-2), s_f, h_k, h_s, h_c))))
set_option maxRecDepth 20000 in
set_option maxHeartbeats 4000000 in
theorem ev_X7_setTable {l : Launch} {E : tEn} {cr : Value} {tl : tHp} {x_hs : Int32} {s_n : Int32} {s_sp : Int64} {s_sb : Int64} {s_sc : Int32} {s_f : List Int64} {s_st : List Int32} {v_n : Int32} {v_sp : Int64} {v_sb : Int64} {v_sc : Int32} {v_f : List Int64} {v_st : List Int32} {h_k : Int32} {h_s : List Int32} {h_c : List Int64} {g_k : Int32} {g_v : Int32} {g_p : List Int32} {g_a : List Int32} {g_t : List Int32} {c_k : Int32} {c_t : List Int32} {c_p : List Int32} {i_l : Int32} {i_n : Int32} {i_f : Int64} {i_p : Int32} {i_o : Int32} {i_b : List Int32} {w_l : Int32} {w_s : List Int32} {x_e : List Int32} {x_l : List Int32} {a0 : Int32} {a1 : Int64} {res : Int32 × List Int64 × Int32 × List Int32 × List Int64} (hf : f_X7_setTable a0 a1 s_n s_f h_k h_s h_c = some res) : tEv l E yX7_setTable cX7_setTable 4 (some .int) 4 0 0 [.ref 0, .int a0, .long a1] (encX x_hs s_n s_sp s_sb s_sc s_f s_st v_n v_sp v_sb v_sc v_f v_st h_k h_s h_c g_k g_v g_p g_a g_t c_k c_t c_p i_l i_n i_f i_p i_o i_b w_l w_s x_e x_l cr tl) (fun r h' => r = some (.int res.1) ∧ h' = encX x_hs s_n s_sp s_sb s_sc (res.2.1) s_st v_n v_sp v_sb v_sc v_f v_st (res.2.2.1) (res.2.2.2.1) (res.2.2.2.2) g_k g_v g_p g_a g_t c_k c_t c_p i_l i_n i_f i_p i_o i_b w_l w_s x_e x_l cr tl) := by
  refine tEv.of (own := RX7) (ini := false) (L := [(0, .ref 0), (1, .int a0), (2, .long a1)]) (by decide +kernel) rfl (fun h9 => nomatch h9) rfl (Nat.le_of_ble_eq_true rfl) ?_
  rw [f_X7_setTable] at hf
  refine g_iload_n 1 (q := 1) dX7_setTable_0 rfl rfl ?_
  refine g_callS (k2 := 0) (n2 := 0) (q := 4) (as := [.int a0]) (st := []) (st1 := [.int (f_X7_isSlot a0)]) tm_X7_isSlot ml_X7_86 ts_X7_isSlot dX7_setTable_1 rfl ev_X7_isSlot rfl rfl (Nat.le_of_ble_eq_true rfl) (by decide) rfl rfl (Or.inl rfl) rfl ?_
  refine g_if_eq (t := 28) (q := 7) dX7_setTable_4 (by decide) rfl (fun c1 => ?_) (fun c1 => ?_)
  · rw [if_pos c1] at hf
    refine g_bipush (q := 30) (v := (-2)) dX7_setTable_28 rfl rfl ?_
    have hf := Option.some.inj hf
    subst hf
    exact g_ireturn dX7_setTable_30 rfl ⟨rfl, rfl⟩
  · rw [if_neg c1] at hf
    refine g_lload_n 2 (q := 8) dX7_setTable_7 rfl rfl ?_
    refine g_lconst (q := 9) (v := 0) dX7_setTable_8 rfl rfl ?_
    refine g_lcmp (q := 10) dX7_setTable_9 rfl ?_
    refine g_if_lt (t := 28) (q := 13) dX7_setTable_10 (by decide) rfl (fun c2 => ?_) (fun c2 => ?_)
    · rw [if_pos c2] at hf
      refine g_bipush (q := 30) (v := (-2)) dX7_setTable_28 rfl rfl ?_
      have hf := Option.some.inj hf
      subst hf
      exact g_ireturn dX7_setTable_30 rfl ⟨rfl, rfl⟩
    · rw [if_neg c2] at hf
      refine g_lload_n 2 (q := 14) dX7_setTable_13 rfl rfl ?_
      refine g_aload_n 0 (q := 15) dX7_setTable_14 rfl rfl ?_
      refine g_get (q := 18) fl_X7_10 dX7_setTable_15 rfl rfl rfl ?_
      refine g_get (q := 21) fl_X7_75 dX7_setTable_18 rfl rfl rfl ?_
      refine g_callS (k2 := 0) (n2 := 0) (q := 24) (as := [.int s_n]) (st := [.long a1]) (st1 := [.long (f_X7_fullTable s_n), .long a1]) tm_X7_fullTable ml_X7_90 ts_X7_fullTable dX7_setTable_21 rfl ev_X7_fullTable rfl rfl (Nat.le_of_ble_eq_true rfl) (by decide) rfl rfl (Or.inl rfl) rfl ?_
      refine g_lcmp (q := 25) dX7_setTable_24 rfl ?_
      refine g_if_le (t := 31) (q := 28) dX7_setTable_25 (by decide) rfl (fun c3 => ?_) (fun c3 => ?_)
      · rw [if_pos c3] at hf
        refine g_aload_n 0 (q := 32) dX7_setTable_31 rfl rfl ?_
        refine g_iload_n 1 (q := 33) dX7_setTable_32 rfl rfl ?_
        refine g_lload_n 2 (q := 34) dX7_setTable_33 rfl rfl ?_
        obtain ⟨r4, e5, hf⟩ := Option.bind_eq_some_iff.mp hf
        refine g_callV (a := 0) (k2 := 0) (n2 := 0) (q := 37) (as := [.int a0, .long a1]) (st := []) (st1 := [.int r4.1]) tm_X7_store ml_X7_94 ti_X7_store rfl rfl dX7_setTable_34 rfl (ev_X7_store e5) rfl rfl (Nat.le_of_ble_eq_true rfl) (by decide) rfl rfl (Or.inl (encX_len.trans encX_len.symm)) rfl ?_
        have hf := Option.some.inj hf
        subst hf
        exact g_ireturn dX7_setTable_37 rfl ⟨rfl, rfl⟩
      · rw [if_neg c3] at hf
        refine g_bipush (q := 30) (v := (-2)) dX7_setTable_28 rfl rfl ?_
        have hf := Option.some.inj hf
        subst hf
        exact g_ireturn dX7_setTable_30 rfl ⟨rfl, rfl⟩
def f_X6_holds (a0 : Int32) (s_f : List Int64) : Option (Int32) := (if (f_X7_isSlot a0) = 0 then some 0 else (tld s_f a0).bind fun r2 => (if (lg_cmp r2 (-1)) = 0 then some 0 else some 1))
set_option maxRecDepth 20000 in
set_option maxHeartbeats 4000000 in
theorem ev_X6_holds {l : Launch} {E : tEn} {cr : Value} {tl : tHp} {x_hs : Int32} {s_n : Int32} {s_sp : Int64} {s_sb : Int64} {s_sc : Int32} {s_f : List Int64} {s_st : List Int32} {v_n : Int32} {v_sp : Int64} {v_sb : Int64} {v_sc : Int32} {v_f : List Int64} {v_st : List Int32} {h_k : Int32} {h_s : List Int32} {h_c : List Int64} {g_k : Int32} {g_v : Int32} {g_p : List Int32} {g_a : List Int32} {g_t : List Int32} {c_k : Int32} {c_t : List Int32} {c_p : List Int32} {i_l : Int32} {i_n : Int32} {i_f : Int64} {i_p : Int32} {i_o : Int32} {i_b : List Int32} {w_l : Int32} {w_s : List Int32} {x_e : List Int32} {x_l : List Int32} {a0 : Int32} {res : Int32} (hf : f_X6_holds a0 s_f = some res) : tEv l E yX6_holds cX6_holds 2 (some .boolean) 3 0 0 [.ref 1, .int a0] (encX x_hs s_n s_sp s_sb s_sc s_f s_st v_n v_sp v_sb v_sc v_f v_st h_k h_s h_c g_k g_v g_p g_a g_t c_k c_t c_p i_l i_n i_f i_p i_o i_b w_l w_s x_e x_l cr tl) (fun r h' => r = some (.int res) ∧ h' = encX x_hs s_n s_sp s_sb s_sc s_f s_st v_n v_sp v_sb v_sc v_f v_st h_k h_s h_c g_k g_v g_p g_a g_t c_k c_t c_p i_l i_n i_f i_p i_o i_b w_l w_s x_e x_l cr tl) := by
  refine tEv.of (own := RX6) (ini := false) (L := [(0, .ref 1), (1, .int a0)]) (by decide +kernel) rfl (fun h9 => nomatch h9) rfl (Nat.le_of_ble_eq_true rfl) ?_
  rw [f_X6_holds] at hf
  refine g_iload_n 1 (q := 1) dX6_holds_0 rfl rfl ?_
  refine g_callS (k2 := 0) (n2 := 0) (q := 4) (as := [.int a0]) (st := []) (st1 := [.int (f_X7_isSlot a0)]) tm_X7_isSlot ml_X6_47 ts_X7_isSlot dX6_holds_1 rfl ev_X7_isSlot rfl rfl (Nat.le_of_ble_eq_true rfl) (by decide) rfl rfl (Or.inl rfl) rfl ?_
  refine g_if_eq (t := 24) (q := 7) dX6_holds_4 (by decide) rfl (fun c1 => ?_) (fun c1 => ?_)
  · rw [if_pos c1] at hf
    refine g_iconst (q := 25) (v := 0) dX6_holds_24 rfl rfl ?_
    have hf := Option.some.inj hf
    subst hf
    exact g_zreturn (Or.inl rfl) dX6_holds_25 rfl ⟨rfl, rfl⟩
  · rw [if_neg c1] at hf
    refine g_aload_n 0 (q := 8) dX6_holds_7 rfl rfl ?_
    refine g_get (q := 11) fl_X6_15 dX6_holds_8 rfl rfl rfl ?_
    refine g_iload_n 1 (q := 12) dX6_holds_11 rfl rfl ?_
    obtain ⟨r2, e3, hf⟩ := Option.bind_eq_some_iff.mp hf
    refine g_laload (q := 13) dX6_holds_12 rfl rfl e3 ?_
    refine g_ldc2_w (q := 16) kc_X6_33 dX6_holds_13 rfl ?_
    refine g_lcmp (q := 17) dX6_holds_16 rfl ?_
    refine g_if_eq (t := 24) (q := 20) dX6_holds_17 (by decide) rfl (fun c4 => ?_) (fun c4 => ?_)
    · rw [if_pos c4] at hf
      refine g_iconst (q := 25) (v := 0) dX6_holds_24 rfl rfl ?_
      have hf := Option.some.inj hf
      subst hf
      exact g_zreturn (Or.inl rfl) dX6_holds_25 rfl ⟨rfl, rfl⟩
    · rw [if_neg c4] at hf
      refine g_iconst (q := 21) (v := 1) dX6_holds_20 rfl rfl ?_
      refine g_goto (t := 25) dX6_holds_21 (by decide) ?_
      have hf := Option.some.inj hf
      subst hf
      exact g_zreturn (Or.inr rfl) dX6_holds_25 rfl ⟨rfl, rfl⟩
def f_X7_slotError (a0 : Int32) (s_f : List Int64) : Option (Int32) := (if (f_X7_isSlot a0) = 0 then some (-2) else (f_X6_holds a0 s_f).bind fun r2 => (if r2 = 0 then some (-3) else some 0))
set_option maxRecDepth 20000 in
set_option maxHeartbeats 4000000 in
theorem ev_X7_slotError {l : Launch} {E : tEn} {cr : Value} {tl : tHp} {x_hs : Int32} {s_n : Int32} {s_sp : Int64} {s_sb : Int64} {s_sc : Int32} {s_f : List Int64} {s_st : List Int32} {v_n : Int32} {v_sp : Int64} {v_sb : Int64} {v_sc : Int32} {v_f : List Int64} {v_st : List Int32} {h_k : Int32} {h_s : List Int32} {h_c : List Int64} {g_k : Int32} {g_v : Int32} {g_p : List Int32} {g_a : List Int32} {g_t : List Int32} {c_k : Int32} {c_t : List Int32} {c_p : List Int32} {i_l : Int32} {i_n : Int32} {i_f : Int64} {i_p : Int32} {i_o : Int32} {i_b : List Int32} {w_l : Int32} {w_s : List Int32} {x_e : List Int32} {x_l : List Int32} {a0 : Int32} {res : Int32} (hf : f_X7_slotError a0 s_f = some res) : tEv l E yX7_slotError cX7_slotError 2 (some .int) 4 0 0 [.ref 0, .int a0] (encX x_hs s_n s_sp s_sb s_sc s_f s_st v_n v_sp v_sb v_sc v_f v_st h_k h_s h_c g_k g_v g_p g_a g_t c_k c_t c_p i_l i_n i_f i_p i_o i_b w_l w_s x_e x_l cr tl) (fun r h' => r = some (.int res) ∧ h' = encX x_hs s_n s_sp s_sb s_sc s_f s_st v_n v_sp v_sb v_sc v_f v_st h_k h_s h_c g_k g_v g_p g_a g_t c_k c_t c_p i_l i_n i_f i_p i_o i_b w_l w_s x_e x_l cr tl) := by
  refine tEv.of (own := RX7) (ini := false) (L := [(0, .ref 0), (1, .int a0)]) (by decide +kernel) rfl (fun h9 => nomatch h9) rfl (Nat.le_of_ble_eq_true rfl) ?_
  rw [f_X7_slotError] at hf
  refine g_iload_n 1 (q := 1) dX7_slotError_0 rfl rfl ?_
  refine g_callS (k2 := 0) (n2 := 0) (q := 4) (as := [.int a0]) (st := []) (st1 := [.int (f_X7_isSlot a0)]) tm_X7_isSlot ml_X7_86 ts_X7_isSlot dX7_slotError_1 rfl ev_X7_isSlot rfl rfl (Nat.le_of_ble_eq_true rfl) (by decide) rfl rfl (Or.inl rfl) rfl ?_
  refine g_if_ne (t := 10) (q := 7) dX7_slotError_4 (by decide) rfl (fun c1 => ?_) (fun c1 => ?_)
  · rw [if_neg c1] at hf
    refine g_aload_n 0 (q := 11) dX7_slotError_10 rfl rfl ?_
    refine g_get (q := 14) fl_X7_10 dX7_slotError_11 rfl rfl rfl ?_
    refine g_iload_n 1 (q := 15) dX7_slotError_14 rfl rfl ?_
    obtain ⟨r2, e3, hf⟩ := Option.bind_eq_some_iff.mp hf
    refine g_callV (a := 1) (k2 := 0) (n2 := 0) (q := 18) (as := [.int a0]) (st := []) (st1 := [.int r2]) tm_X6_holds ml_X7_202 ti_X6_holds rfl rfl dX7_slotError_15 rfl (ev_X6_holds e3) rfl rfl (Nat.le_of_ble_eq_true rfl) (by decide) rfl rfl (Or.inl rfl) rfl ?_
    refine g_if_eq (t := 25) (q := 21) dX7_slotError_18 (by decide) rfl (fun c4 => ?_) (fun c4 => ?_)
    · rw [if_pos c4] at hf
      refine g_bipush (q := 27) (v := (-3)) dX7_slotError_25 rfl rfl ?_
      have hf := Option.some.inj hf
      subst hf
      exact g_ireturn dX7_slotError_27 rfl ⟨rfl, rfl⟩
    · rw [if_neg c4] at hf
      refine g_iconst (q := 22) (v := 0) dX7_slotError_21 rfl rfl ?_
      refine g_goto (t := 27) dX7_slotError_22 (by decide) ?_
      have hf := Option.some.inj hf
      subst hf
      exact g_ireturn dX7_slotError_27 rfl ⟨rfl, rfl⟩
  · rw [if_pos c1] at hf
    refine g_bipush (q := 9) (v := (-2)) dX7_slotError_7 rfl rfl ?_
    have hf := Option.some.inj hf
    subst hf
    exact g_ireturn dX7_slotError_9 rfl ⟨rfl, rfl⟩
def f_X7_table (a0 : Int32) (s_f : List Int64) : Option (Int64) := (f_X7_slotError a0 s_f).bind fun r1 => (if r1 = 0 then (tld s_f a0).bind fun r4 => some r4 else some (Int32.toInt64 r1))
set_option maxRecDepth 20000 in
set_option maxHeartbeats 4000000 in
theorem ev_X7_table {l : Launch} {E : tEn} {cr : Value} {tl : tHp} {x_hs : Int32} {s_n : Int32} {s_sp : Int64} {s_sb : Int64} {s_sc : Int32} {s_f : List Int64} {s_st : List Int32} {v_n : Int32} {v_sp : Int64} {v_sb : Int64} {v_sc : Int32} {v_f : List Int64} {v_st : List Int32} {h_k : Int32} {h_s : List Int32} {h_c : List Int64} {g_k : Int32} {g_v : Int32} {g_p : List Int32} {g_a : List Int32} {g_t : List Int32} {c_k : Int32} {c_t : List Int32} {c_p : List Int32} {i_l : Int32} {i_n : Int32} {i_f : Int64} {i_p : Int32} {i_o : Int32} {i_b : List Int32} {w_l : Int32} {w_s : List Int32} {x_e : List Int32} {x_l : List Int32} {a0 : Int32} {res : Int64} (hf : f_X7_table a0 s_f = some res) : tEv l E yX7_table cX7_table 3 (some .long) 5 0 0 [.ref 0, .int a0] (encX x_hs s_n s_sp s_sb s_sc s_f s_st v_n v_sp v_sb v_sc v_f v_st h_k h_s h_c g_k g_v g_p g_a g_t c_k c_t c_p i_l i_n i_f i_p i_o i_b w_l w_s x_e x_l cr tl) (fun r h' => r = some (.long res) ∧ h' = encX x_hs s_n s_sp s_sb s_sc s_f s_st v_n v_sp v_sb v_sc v_f v_st h_k h_s h_c g_k g_v g_p g_a g_t c_k c_t c_p i_l i_n i_f i_p i_o i_b w_l w_s x_e x_l cr tl) := by
  refine tEv.of (own := RX7) (ini := false) (L := [(0, .ref 0), (1, .int a0)]) (by decide +kernel) rfl (fun h9 => nomatch h9) rfl (Nat.le_of_ble_eq_true rfl) ?_
  rw [f_X7_table] at hf
  refine g_aload_n 0 (q := 1) dX7_table_0 rfl rfl ?_
  refine g_iload_n 1 (q := 2) dX7_table_1 rfl rfl ?_
  obtain ⟨r1, e2, hf⟩ := Option.bind_eq_some_iff.mp hf
  refine g_callV (a := 0) (k2 := 0) (n2 := 0) (q := 5) (as := [.int a0]) (st := []) (st1 := [.int r1]) tm_X7_slotError ml_X7_98 ti_X7_slotError rfl rfl dX7_table_2 rfl (ev_X7_slotError e2) rfl rfl (Nat.le_of_ble_eq_true rfl) (by decide) rfl rfl (Or.inl rfl) rfl ?_
  refine g_istore_n (q := 6) (L' := [(0, .ref 0), (1, .int a0), (2, .int r1)]) dX7_table_5 rfl (by decide) rfl ?_
  refine g_iload_n 2 (q := 7) dX7_table_6 rfl rfl ?_
  refine g_if_eq (t := 15) (q := 10) dX7_table_7 (by decide) rfl (fun c3 => ?_) (fun c3 => ?_)
  · rw [if_pos c3] at hf
    refine g_aload_n 0 (q := 16) dX7_table_15 rfl rfl ?_
    refine g_get (q := 19) fl_X7_10 dX7_table_16 rfl rfl rfl ?_
    refine g_get (q := 22) fl_X7_102 dX7_table_19 rfl rfl rfl ?_
    refine g_iload_n 1 (q := 23) dX7_table_22 rfl rfl ?_
    obtain ⟨r4, e5, hf⟩ := Option.bind_eq_some_iff.mp hf
    refine g_laload (q := 24) dX7_table_23 rfl rfl e5 ?_
    have hf := Option.some.inj hf
    subst hf
    exact g_lreturn dX7_table_24 rfl ⟨rfl, rfl⟩
  · rw [if_neg c3] at hf
    refine g_iload_n 2 (q := 11) dX7_table_10 rfl rfl ?_
    refine g_i2l (q := 12) dX7_table_11 rfl ?_
    refine g_goto (t := 24) dX7_table_12 (by decide) ?_
    have hf := Option.some.inj hf
    subst hf
    exact g_lreturn dX7_table_24 rfl ⟨rfl, rfl⟩
def f_X6_usedCount_L4 (s_f : List Int64) (K : Int32 → Option (Int32)) : Nat → Int32 → Int32 → Option (Int32)
  | 0, _, _ => none
  | fu + 1, v1, v2 => (if 8 ≤ v2 then K v1 else (f_X6_holds v2 s_f).bind fun r2 => (if r2 = 0 then f_X6_usedCount_L4 s_f K fu v1 (v2 + 1) else f_X6_usedCount_L4 s_f K fu (v1 + 1) (v2 + 1)))
def f_X6_usedCount  (s_f : List Int64) : Option (Int32) := f_X6_usedCount_L4 s_f (fun y5 => some y5) tFU 0 0
set_option maxRecDepth 20000 in
set_option maxHeartbeats 4000000 in
theorem ev_X6_usedCount_L4 {l : Launch} {E : tEn} {cr : Value} {tl : tHp}  {x_hs : Int32} {s_n : Int32} {s_sp : Int64} {s_sb : Int64} {s_sc : Int32} {s_f : List Int64} {s_st : List Int32} {v_n : Int32} {v_sp : Int64} {v_sb : Int64} {v_sc : Int32} {v_f : List Int64} {v_st : List Int32} {h_k : Int32} {h_s : List Int32} {h_c : List Int64} {g_k : Int32} {g_v : Int32} {g_p : List Int32} {g_a : List Int32} {g_t : List Int32} {c_k : Int32} {c_t : List Int32} {c_p : List Int32} {i_l : Int32} {i_n : Int32} {i_f : Int64} {i_p : Int32} {i_o : Int32} {i_b : List Int32} {w_l : Int32} {w_s : List Int32} {x_e : List Int32} {x_l : List Int32}  {K : Int32 → Option (Int32)} (hK : ∀ (v1 : Int32)  (res : Int32), K v1 = some res → tG l E RX6 cX6_usedCount 3 (some .int) false 4 (fun r h' => r = some (.int res) ∧ h' = encX x_hs s_n s_sp s_sb s_sc s_f s_st v_n v_sp v_sb v_sc v_f v_st h_k h_s h_c g_k g_v g_p g_a g_t c_k c_t c_p i_l i_n i_f i_p i_o i_b w_l w_s x_e x_l cr tl) 0 0 27 [(1, .int v1)] [] (encX x_hs s_n s_sp s_sb s_sc s_f s_st v_n v_sp v_sb v_sc v_f v_st h_k h_s h_c g_k g_v g_p g_a g_t c_k c_t c_p i_l i_n i_f i_p i_o i_b w_l w_s x_e x_l cr tl)) :
    ∀ (fu : Nat) (v1 : Int32) (v2 : Int32) (res : Int32), f_X6_usedCount_L4 s_f K fu v1 v2 = some res → tG l E RX6 cX6_usedCount 3 (some .int) false 4 (fun r h' => r = some (.int res) ∧ h' = encX x_hs s_n s_sp s_sb s_sc s_f s_st v_n v_sp v_sb v_sc v_f v_st h_k h_s h_c g_k g_v g_p g_a g_t c_k c_t c_p i_l i_n i_f i_p i_o i_b w_l w_s x_e x_l cr tl) 0 0 4 [(0, .ref 1), (1, .int v1), (2, .int v2)] [] (encX x_hs s_n s_sp s_sb s_sc s_f s_st v_n v_sp v_sb v_sc v_f v_st h_k h_s h_c g_k g_v g_p g_a g_t c_k c_t c_p i_l i_n i_f i_p i_o i_b w_l w_s x_e x_l cr tl) := by
  intro fu
  induction fu with
  | zero => intro v1 v2 res hf; exact nomatch (show none = some res from hf)
  | succ fu ih =>
    intro v1 v2 res hf
    rw [f_X6_usedCount_L4] at hf
    refine g_iload_n 2 (q := 5) dX6_usedCount_4 rfl rfl ?_
    refine g_bipush (q := 7) (v := 8) dX6_usedCount_5 rfl rfl ?_
    refine g_icmp_ge (t := 27) (q := 10) dX6_usedCount_7 (by decide) rfl (fun c1 => ?_) (fun c1 => ?_)
    · rw [if_pos c1] at hf
      refine g_ls [1] rfl ?_
      exact hK _ _ hf
    · rw [if_neg c1] at hf
      refine g_aload_n 0 (q := 11) dX6_usedCount_10 rfl rfl ?_
      refine g_iload_n 2 (q := 12) dX6_usedCount_11 rfl rfl ?_
      obtain ⟨r2, e3, hf⟩ := Option.bind_eq_some_iff.mp hf
      refine g_callV (a := 1) (k2 := 0) (n2 := 0) (q := 15) (as := [.int v2]) (st := []) (st1 := [.int r2]) tm_X6_holds ml_X6_51 ti_X6_holds rfl rfl dX6_usedCount_12 rfl (ev_X6_holds e3) rfl rfl (Nat.le_of_ble_eq_true rfl) (by decide) rfl rfl (Or.inl rfl) rfl ?_
      refine g_if_eq (t := 21) (q := 18) dX6_usedCount_15 (by decide) rfl (fun c4 => ?_) (fun c4 => ?_)
      · rw [if_pos c4] at hf
        refine g_iinc 2 (q := 24) (v := (v2 + 1)) (L' := [(0, .ref 1), (1, .int v1), (2, .int (v2 + 1))]) dX6_usedCount_21 rfl rfl rfl (by decide) rfl ?_
        refine g_goto (t := 4) dX6_usedCount_24 (by decide) ?_
        refine g_ls [0, 1, 2] rfl ?_
        exact ih _ _ _ hf
      · rw [if_neg c4] at hf
        refine g_iinc 1 (q := 21) (v := (v1 + 1)) (L' := [(0, .ref 1), (1, .int (v1 + 1)), (2, .int v2)]) dX6_usedCount_18 rfl rfl rfl (by decide) rfl ?_
        refine g_iinc 2 (q := 24) (v := (v2 + 1)) (L' := [(0, .ref 1), (1, .int (v1 + 1)), (2, .int (v2 + 1))]) dX6_usedCount_21 rfl rfl rfl (by decide) rfl ?_
        refine g_goto (t := 4) dX6_usedCount_24 (by decide) ?_
        refine g_ls [0, 1, 2] rfl ?_
        exact ih _ _ _ hf
set_option maxRecDepth 20000 in
set_option maxHeartbeats 4000000 in
theorem ev_X6_usedCount {l : Launch} {E : tEn} {cr : Value} {tl : tHp} {x_hs : Int32} {s_n : Int32} {s_sp : Int64} {s_sb : Int64} {s_sc : Int32} {s_f : List Int64} {s_st : List Int32} {v_n : Int32} {v_sp : Int64} {v_sb : Int64} {v_sc : Int32} {v_f : List Int64} {v_st : List Int32} {h_k : Int32} {h_s : List Int32} {h_c : List Int64} {g_k : Int32} {g_v : Int32} {g_p : List Int32} {g_a : List Int32} {g_t : List Int32} {c_k : Int32} {c_t : List Int32} {c_p : List Int32} {i_l : Int32} {i_n : Int32} {i_f : Int64} {i_p : Int32} {i_o : Int32} {i_b : List Int32} {w_l : Int32} {w_s : List Int32} {x_e : List Int32} {x_l : List Int32}  {res : Int32} (hf : f_X6_usedCount s_f = some res) : tEv l E yX6_usedCount cX6_usedCount 3 (some .int) 4 0 0 [.ref 1] (encX x_hs s_n s_sp s_sb s_sc s_f s_st v_n v_sp v_sb v_sc v_f v_st h_k h_s h_c g_k g_v g_p g_a g_t c_k c_t c_p i_l i_n i_f i_p i_o i_b w_l w_s x_e x_l cr tl) (fun r h' => r = some (.int res) ∧ h' = encX x_hs s_n s_sp s_sb s_sc s_f s_st v_n v_sp v_sb v_sc v_f v_st h_k h_s h_c g_k g_v g_p g_a g_t c_k c_t c_p i_l i_n i_f i_p i_o i_b w_l w_s x_e x_l cr tl) := by
  refine tEv.of (own := RX6) (ini := false) (L := [(0, .ref 1)]) (by decide +kernel) rfl (fun h9 => nomatch h9) rfl (Nat.le_of_ble_eq_true rfl) ?_
  rw [f_X6_usedCount] at hf
  refine g_iconst (q := 1) (v := 0) dX6_usedCount_0 rfl rfl ?_
  refine g_istore_n (q := 2) (L' := [(0, .ref 1), (1, .int 0)]) dX6_usedCount_1 rfl (by decide) rfl ?_
  refine g_iconst (q := 3) (v := 0) dX6_usedCount_2 rfl rfl ?_
  refine g_istore_n (q := 4) (L' := [(0, .ref 1), (1, .int 0), (2, .int 0)]) dX6_usedCount_3 rfl (by decide) rfl ?_
  refine g_ls [0, 1, 2] rfl ?_
  refine ev_X6_usedCount_L4 (fun y5 res hf => ?_) tFU _ _ res hf
  refine g_iload_n 0 (q := 28) dX6_usedCount_27 rfl rfl ?_
  have hf := Option.some.inj hf
  subst hf
  exact g_ireturn dX6_usedCount_28 rfl ⟨rfl, rfl⟩
def f_X7_clear (a0 : Int32) (s_f : List Int64) (h_k : Int32) (h_s : List Int32) (h_c : List Int64) : Option (Int32 × List Int64 × Int32 × List Int32 × List Int64) := (f_X7_slotError a0 s_f).bind fun r1 => (if r1 = 0 then (f_X7_store a0 (-1) s_f h_k h_s h_c).bind fun r4 => (f_X6_usedCount (r4.2.1)).bind fun r6 => some (r6, r4.2.1, r4.2.2.1, r4.2.2.2.1, r4.2.2.2.2) else some (r1, s_f, h_k, h_s, h_c))
set_option maxRecDepth 20000 in
set_option maxHeartbeats 4000000 in
theorem ev_X7_clear {l : Launch} {E : tEn} {cr : Value} {tl : tHp} {x_hs : Int32} {s_n : Int32} {s_sp : Int64} {s_sb : Int64} {s_sc : Int32} {s_f : List Int64} {s_st : List Int32} {v_n : Int32} {v_sp : Int64} {v_sb : Int64} {v_sc : Int32} {v_f : List Int64} {v_st : List Int32} {h_k : Int32} {h_s : List Int32} {h_c : List Int64} {g_k : Int32} {g_v : Int32} {g_p : List Int32} {g_a : List Int32} {g_t : List Int32} {c_k : Int32} {c_t : List Int32} {c_p : List Int32} {i_l : Int32} {i_n : Int32} {i_f : Int64} {i_p : Int32} {i_o : Int32} {i_b : List Int32} {w_l : Int32} {w_s : List Int32} {x_e : List Int32} {x_l : List Int32} {a0 : Int32} {res : Int32 × List Int64 × Int32 × List Int32 × List Int64} (hf : f_X7_clear a0 s_f h_k h_s h_c = some res) : tEv l E yX7_clear cX7_clear 3 (some .int) 5 0 0 [.ref 0, .int a0] (encX x_hs s_n s_sp s_sb s_sc s_f s_st v_n v_sp v_sb v_sc v_f v_st h_k h_s h_c g_k g_v g_p g_a g_t c_k c_t c_p i_l i_n i_f i_p i_o i_b w_l w_s x_e x_l cr tl) (fun r h' => r = some (.int res.1) ∧ h' = encX x_hs s_n s_sp s_sb s_sc (res.2.1) s_st v_n v_sp v_sb v_sc v_f v_st (res.2.2.1) (res.2.2.2.1) (res.2.2.2.2) g_k g_v g_p g_a g_t c_k c_t c_p i_l i_n i_f i_p i_o i_b w_l w_s x_e x_l cr tl) := by
  refine tEv.of (own := RX7) (ini := false) (L := [(0, .ref 0), (1, .int a0)]) (by decide +kernel) rfl (fun h9 => nomatch h9) rfl (Nat.le_of_ble_eq_true rfl) ?_
  rw [f_X7_clear] at hf
  refine g_aload_n 0 (q := 1) dX7_clear_0 rfl rfl ?_
  refine g_iload_n 1 (q := 2) dX7_clear_1 rfl rfl ?_
  obtain ⟨r1, e2, hf⟩ := Option.bind_eq_some_iff.mp hf
  refine g_callV (a := 0) (k2 := 0) (n2 := 0) (q := 5) (as := [.int a0]) (st := []) (st1 := [.int r1]) tm_X7_slotError ml_X7_98 ti_X7_slotError rfl rfl dX7_clear_2 rfl (ev_X7_slotError e2) rfl rfl (Nat.le_of_ble_eq_true rfl) (by decide) rfl rfl (Or.inl rfl) rfl ?_
  refine g_istore_n (q := 6) (L' := [(0, .ref 0), (1, .int a0), (2, .int r1)]) dX7_clear_5 rfl (by decide) rfl ?_
  refine g_iload_n 2 (q := 7) dX7_clear_6 rfl rfl ?_
  refine g_if_eq (t := 12) (q := 10) dX7_clear_7 (by decide) rfl (fun c3 => ?_) (fun c3 => ?_)
  · rw [if_pos c3] at hf
    refine g_aload_n 0 (q := 13) dX7_clear_12 rfl rfl ?_
    refine g_iload_n 1 (q := 14) dX7_clear_13 rfl rfl ?_
    refine g_ldc2_w (q := 17) kc_X7_106 dX7_clear_14 rfl ?_
    obtain ⟨r4, e5, hf⟩ := Option.bind_eq_some_iff.mp hf
    refine g_callV (a := 0) (k2 := 0) (n2 := 0) (q := 20) (as := [.int a0, .long (-1)]) (st := []) (st1 := [.int r4.1]) tm_X7_store ml_X7_94 ti_X7_store rfl rfl dX7_clear_17 rfl (ev_X7_store e5) rfl rfl (Nat.le_of_ble_eq_true rfl) (by decide) rfl rfl (Or.inl (encX_len.trans encX_len.symm)) rfl ?_
    refine g_pop (q := 21) dX7_clear_20 rfl rfl ?_
    refine g_aload_n 0 (q := 22) dX7_clear_21 rfl rfl ?_
    refine g_get (q := 25) fl_X7_10 dX7_clear_22 rfl rfl rfl ?_
    obtain ⟨r6, e7, hf⟩ := Option.bind_eq_some_iff.mp hf
    refine g_callV (a := 1) (k2 := 0) (n2 := 0) (q := 28) (as := []) (st := []) (st1 := [.int r6]) tm_X6_usedCount ml_X7_108 ti_X6_usedCount rfl rfl dX7_clear_25 rfl (ev_X6_usedCount e7) rfl rfl (Nat.le_of_ble_eq_true rfl) (by decide) rfl rfl (Or.inl rfl) rfl ?_
    have hf := Option.some.inj hf
    subst hf
    exact g_ireturn dX7_clear_28 rfl ⟨rfl, rfl⟩
  · rw [if_neg c3] at hf
    refine g_iload_n 2 (q := 11) dX7_clear_10 rfl rfl ?_
    have hf := Option.some.inj hf
    subst hf
    exact g_ireturn dX7_clear_11 rfl ⟨rfl, rfl⟩
def f_X7_isPoint (a0 : Int32) (s_n : Int32) : Int32 := (f_X7_isIndex a0 (f_X7_pointCount s_n))
theorem bl_X7_isPoint (a0 : Int32) (s_n : Int32) : f_X7_isPoint a0 s_n = 0 ∨ f_X7_isPoint a0 s_n = 1 := by
  unfold f_X7_isPoint
  repeat' split
  all_goals first | exact Or.inl rfl | exact Or.inr rfl | exact bl_X7_isIndex _ _
set_option maxRecDepth 20000 in
set_option maxHeartbeats 4000000 in
theorem ev_X7_isPoint {l : Launch} {E : tEn} {cr : Value} {tl : tHp} {x_hs : Int32} {s_n : Int32} {s_sp : Int64} {s_sb : Int64} {s_sc : Int32} {s_f : List Int64} {s_st : List Int32} {v_n : Int32} {v_sp : Int64} {v_sb : Int64} {v_sc : Int32} {v_f : List Int64} {v_st : List Int32} {h_k : Int32} {h_s : List Int32} {h_c : List Int64} {g_k : Int32} {g_v : Int32} {g_p : List Int32} {g_a : List Int32} {g_t : List Int32} {c_k : Int32} {c_t : List Int32} {c_p : List Int32} {i_l : Int32} {i_n : Int32} {i_f : Int64} {i_p : Int32} {i_o : Int32} {i_b : List Int32} {w_l : Int32} {w_s : List Int32} {x_e : List Int32} {x_l : List Int32} {a0 : Int32} : tEv l E yX7_isPoint cX7_isPoint 2 (some .boolean) 2 0 0 [.ref 0, .int a0] (encX x_hs s_n s_sp s_sb s_sc s_f s_st v_n v_sp v_sb v_sc v_f v_st h_k h_s h_c g_k g_v g_p g_a g_t c_k c_t c_p i_l i_n i_f i_p i_o i_b w_l w_s x_e x_l cr tl) (fun r h' => r = some (.int (f_X7_isPoint a0 s_n)) ∧ h' = encX x_hs s_n s_sp s_sb s_sc s_f s_st v_n v_sp v_sb v_sc v_f v_st h_k h_s h_c g_k g_v g_p g_a g_t c_k c_t c_p i_l i_n i_f i_p i_o i_b w_l w_s x_e x_l cr tl) := by
  refine tEv.of (own := RX7) (ini := false) (L := [(0, .ref 0), (1, .int a0)]) (by decide +kernel) rfl (fun h9 => nomatch h9) rfl (Nat.le_of_ble_eq_true rfl) ?_
  obtain ⟨res, hf⟩ : ∃ z, f_X7_isPoint a0 s_n = z := ⟨_, rfl⟩
  rw [hf]
  rw [f_X7_isPoint] at hf
  refine g_iload_n 1 (q := 1) dX7_isPoint_0 rfl rfl ?_
  refine g_aload_n 0 (q := 2) dX7_isPoint_1 rfl rfl ?_
  refine g_get (q := 5) fl_X7_10 dX7_isPoint_2 rfl rfl rfl ?_
  refine g_get (q := 8) fl_X7_75 dX7_isPoint_5 rfl rfl rfl ?_
  refine g_callS (k2 := 0) (n2 := 0) (q := 11) (as := [.int s_n]) (st := [.int a0]) (st1 := [.int (f_X7_pointCount s_n), .int a0]) tm_X7_pointCount ml_X7_209 ts_X7_pointCount dX7_isPoint_8 rfl ev_X7_pointCount rfl rfl (Nat.le_of_ble_eq_true rfl) (by decide) rfl rfl (Or.inl rfl) rfl ?_
  refine g_callS (k2 := 0) (n2 := 0) (q := 14) (as := [.int a0, .int (f_X7_pointCount s_n)]) (st := []) (st1 := [.int (f_X7_isIndex a0 (f_X7_pointCount s_n))]) tm_X7_isIndex ml_X7_140 ts_X7_isIndex dX7_isPoint_11 rfl ev_X7_isIndex rfl rfl (Nat.le_of_ble_eq_true rfl) (by decide) rfl rfl (Or.inl rfl) rfl ?_
  subst hf
  exact g_zreturn (bl_X7_isIndex a0 (f_X7_pointCount s_n)) dX7_isPoint_14 rfl ⟨rfl, rfl⟩
def f_X7_bitAt (a0 : Int64) (a1 : Int32)  : Int32 := (Int64.toInt32 ((tlushr a0 a1) &&& 1))
set_option maxRecDepth 20000 in
set_option maxHeartbeats 4000000 in
theorem ev_X7_bitAt {l : Launch} {E : tEn}  {h : tHp} {a0 : Int64} {a1 : Int32} : tEv l E yX7_bitAt cX7_bitAt 3 (some .int) 1 0 0 [.long a0, .int a1] (h) (fun r h' => r = some (.int (f_X7_bitAt a0 a1)) ∧ h' = h) := by
  refine tEv.of (own := RX7) (ini := false) (L := [(0, .long a0), (2, .int a1)]) (by decide +kernel) rfl (fun h9 => nomatch h9) rfl (Nat.le_of_ble_eq_true rfl) ?_
  obtain ⟨res, hf⟩ : ∃ z, f_X7_bitAt a0 a1 = z := ⟨_, rfl⟩
  rw [hf]
  rw [f_X7_bitAt] at hf
  refine g_lload_n 0 (q := 1) dX7_bitAt_0 rfl rfl ?_
  refine g_iload_n 1 (q := 2) dX7_bitAt_1 rfl rfl ?_
  refine g_lushr (q := 3) dX7_bitAt_2 rfl ?_
  refine g_lconst (q := 4) (v := 1) dX7_bitAt_3 rfl rfl ?_
  refine g_land (q := 5) dX7_bitAt_4 rfl ?_
  refine g_l2i (q := 6) dX7_bitAt_5 rfl ?_
  subst hf
  exact g_ireturn dX7_bitAt_6 rfl ⟨rfl, rfl⟩
def f_X7_value (a0 : Int32) (a1 : Int32) (s_n : Int32) (s_f : List Int64) : Option (Int32) := (if (f_X7_isPoint a1 s_n) = 0 then some (-2) else (f_X7_slotError a0 s_f).bind fun r2 => (if r2 = 0 then (tld s_f a0).bind fun r5 => some (f_X7_bitAt r5 a1) else some r2))
set_option maxRecDepth 20000 in
set_option maxHeartbeats 4000000 in
theorem ev_X7_value {l : Launch} {E : tEn} {cr : Value} {tl : tHp} {x_hs : Int32} {s_n : Int32} {s_sp : Int64} {s_sb : Int64} {s_sc : Int32} {s_f : List Int64} {s_st : List Int32} {v_n : Int32} {v_sp : Int64} {v_sb : Int64} {v_sc : Int32} {v_f : List Int64} {v_st : List Int32} {h_k : Int32} {h_s : List Int32} {h_c : List Int64} {g_k : Int32} {g_v : Int32} {g_p : List Int32} {g_a : List Int32} {g_t : List Int32} {c_k : Int32} {c_t : List Int32} {c_p : List Int32} {i_l : Int32} {i_n : Int32} {i_f : Int64} {i_p : Int32} {i_o : Int32} {i_b : List Int32} {w_l : Int32} {w_s : List Int32} {x_e : List Int32} {x_l : List Int32} {a0 : Int32} {a1 : Int32} {res : Int32} (hf : f_X7_value a0 a1 s_n s_f = some res) : tEv l E yX7_value cX7_value 4 (some .int) 5 0 0 [.ref 0, .int a0, .int a1] (encX x_hs s_n s_sp s_sb s_sc s_f s_st v_n v_sp v_sb v_sc v_f v_st h_k h_s h_c g_k g_v g_p g_a g_t c_k c_t c_p i_l i_n i_f i_p i_o i_b w_l w_s x_e x_l cr tl) (fun r h' => r = some (.int res) ∧ h' = encX x_hs s_n s_sp s_sb s_sc s_f s_st v_n v_sp v_sb v_sc v_f v_st h_k h_s h_c g_k g_v g_p g_a g_t c_k c_t c_p i_l i_n i_f i_p i_o i_b w_l w_s x_e x_l cr tl) := by
  refine tEv.of (own := RX7) (ini := false) (L := [(0, .ref 0), (1, .int a0), (2, .int a1)]) (by decide +kernel) rfl (fun h9 => nomatch h9) rfl (Nat.le_of_ble_eq_true rfl) ?_
  rw [f_X7_value] at hf
  refine g_aload_n 0 (q := 1) dX7_value_0 rfl rfl ?_
  refine g_iload_n 2 (q := 2) dX7_value_1 rfl rfl ?_
  refine g_callV (a := 0) (k2 := 0) (n2 := 0) (q := 5) (as := [.int a1]) (st := []) (st1 := [.int (f_X7_isPoint a1 s_n)]) tm_X7_isPoint ml_X7_112 ti_X7_isPoint rfl rfl dX7_value_2 rfl ev_X7_isPoint rfl rfl (Nat.le_of_ble_eq_true rfl) (by decide) rfl rfl (Or.inl rfl) rfl ?_
  refine g_if_ne (t := 11) (q := 8) dX7_value_5 (by decide) rfl (fun c1 => ?_) (fun c1 => ?_)
  · rw [if_neg c1] at hf
    refine g_aload_n 0 (q := 12) dX7_value_11 rfl rfl ?_
    refine g_iload_n 1 (q := 13) dX7_value_12 rfl rfl ?_
    obtain ⟨r2, e3, hf⟩ := Option.bind_eq_some_iff.mp hf
    refine g_callV (a := 0) (k2 := 0) (n2 := 0) (q := 16) (as := [.int a0]) (st := []) (st1 := [.int r2]) tm_X7_slotError ml_X7_98 ti_X7_slotError rfl rfl dX7_value_13 rfl (ev_X7_slotError e3) rfl rfl (Nat.le_of_ble_eq_true rfl) (by decide) rfl rfl (Or.inl rfl) rfl ?_
    refine g_istore_n (q := 17) (L' := [(0, .ref 0), (1, .int a0), (2, .int a1), (3, .int r2)]) dX7_value_16 rfl (by decide) rfl ?_
    refine g_iload_n 3 (q := 18) dX7_value_17 rfl rfl ?_
    refine g_if_eq (t := 25) (q := 21) dX7_value_18 (by decide) rfl (fun c4 => ?_) (fun c4 => ?_)
    · rw [if_pos c4] at hf
      refine g_aload_n 0 (q := 26) dX7_value_25 rfl rfl ?_
      refine g_get (q := 29) fl_X7_10 dX7_value_26 rfl rfl rfl ?_
      refine g_get (q := 32) fl_X7_102 dX7_value_29 rfl rfl rfl ?_
      refine g_iload_n 1 (q := 33) dX7_value_32 rfl rfl ?_
      obtain ⟨r5, e6, hf⟩ := Option.bind_eq_some_iff.mp hf
      refine g_laload (q := 34) dX7_value_33 rfl rfl e6 ?_
      refine g_iload_n 2 (q := 35) dX7_value_34 rfl rfl ?_
      refine g_callS (k2 := 0) (n2 := 0) (q := 38) (as := [.long r5, .int a1]) (st := []) (st1 := [.int (f_X7_bitAt r5 a1)]) tm_X7_bitAt ml_X7_115 ts_X7_bitAt dX7_value_35 rfl ev_X7_bitAt rfl rfl (Nat.le_of_ble_eq_true rfl) (by decide) rfl rfl (Or.inl rfl) rfl ?_
      have hf := Option.some.inj hf
      subst hf
      exact g_ireturn dX7_value_38 rfl ⟨rfl, rfl⟩
    · rw [if_neg c4] at hf
      refine g_iload_n 3 (q := 22) dX7_value_21 rfl rfl ?_
      refine g_goto (t := 38) dX7_value_22 (by decide) ?_
      have hf := Option.some.inj hf
      subst hf
      exact g_ireturn dX7_value_38 rfl ⟨rfl, rfl⟩
  · rw [if_pos c1] at hf
    refine g_bipush (q := 10) (v := (-2)) dX7_value_8 rfl rfl ?_
    have hf := Option.some.inj hf
    subst hf
    exact g_ireturn dX7_value_10 rfl ⟨rfl, rfl⟩
def f_X7_essentialSet_L14 (w0 : Int32) (w1 : Int64) (w4 : Int32) (K : Int32 → Option (Int32)) : Nat → Int32 → Int32 → Option (Int32)
  | 0, _, _ => none
  | fu + 1, v3, v5 => (if (f_X7_pointCount w0) ≤ v5 then K v3 else (if (f_X7_bitAt w1 v5) = (f_X7_bitAt w1 (v5 ^^^ ((1 : Int32) <<< (w4 &&& 31)))) then f_X7_essentialSet_L14 w0 w1 w4 K fu v3 (v5 + 1) else f_X7_essentialSet_L14 w0 w1 w4 K fu (v3 ||| ((1 : Int32) <<< (w4 &&& 31))) (v5 + 1)))
def f_X7_essentialSet_L5 (w0 : Int32) (w1 : Int64) (K : Int32 → Option (Int32)) : Nat → Int32 → Int32 → Option (Int32)
  | 0, _, _ => none
  | fu + 1, v3, v4 => (if w0 ≤ v4 then K v3 else f_X7_essentialSet_L14 w0 w1 v4 (fun y4 => f_X7_essentialSet_L5 w0 w1 K fu y4 (v4 + 1)) tFU v3 0)
def f_X7_essentialSet (a0 : Int32) (a1 : Int64)  : Option (Int32) := f_X7_essentialSet_L5 a0 a1 (fun y5 => some y5) tFU 0 0
set_option maxRecDepth 20000 in
set_option maxHeartbeats 4000000 in
theorem ev_X7_essentialSet_L14 {l : Launch} {E : tEn}   {h : tHp} {w0 : Int32} {w1 : Int64} {w4 : Int32} {K : Int32 → Option (Int32)} (hK : ∀ (v3 : Int32)  (res : Int32), K v3 = some res → tG l E RX7 cX7_essentialSet 6 (some .int) false 2 (fun r h' => r = some (.int res) ∧ h' = h) 0 0 56 [(0, .int w0), (1, .long w1), (3, .int v3), (4, .int w4)] [] (h)) :
    ∀ (fu : Nat) (v3 : Int32) (v5 : Int32) (res : Int32), f_X7_essentialSet_L14 w0 w1 w4 K fu v3 v5 = some res → tG l E RX7 cX7_essentialSet 6 (some .int) false 2 (fun r h' => r = some (.int res) ∧ h' = h) 0 0 14 [(0, .int w0), (1, .long w1), (3, .int v3), (4, .int w4), (5, .int v5)] [] (h) := by
  intro fu
  induction fu with
  | zero => intro v3 v5 res hf; exact nomatch (show none = some res from hf)
  | succ fu ih =>
    intro v3 v5 res hf
    rw [f_X7_essentialSet_L14] at hf
    refine g_iload 4 (q := 16) dX7_essentialSet_14 rfl rfl ?_
    refine g_iload_n 0 (q := 17) dX7_essentialSet_16 rfl rfl ?_
    refine g_callS (k2 := 0) (n2 := 0) (q := 20) (as := [.int w0]) (st := [.int v5]) (st1 := [.int (f_X7_pointCount w0), .int v5]) tm_X7_pointCount ml_X7_209 ts_X7_pointCount dX7_essentialSet_17 rfl ev_X7_pointCount rfl rfl (Nat.le_of_ble_eq_true rfl) (by decide) rfl rfl (Or.inl rfl) rfl ?_
    refine g_icmp_ge (t := 56) (q := 23) dX7_essentialSet_20 (by decide) rfl (fun c2 => ?_) (fun c2 => ?_)
    · rw [if_pos c2] at hf
      refine g_ls [0, 1, 2, 3] rfl ?_
      exact hK _ _ hf
    · rw [if_neg c2] at hf
      refine g_lload_n 1 (q := 24) dX7_essentialSet_23 rfl rfl ?_
      refine g_iload 4 (q := 26) dX7_essentialSet_24 rfl rfl ?_
      refine g_callS (k2 := 0) (n2 := 0) (q := 29) (as := [.long w1, .int v5]) (st := []) (st1 := [.int (f_X7_bitAt w1 v5)]) tm_X7_bitAt ml_X7_115 ts_X7_bitAt dX7_essentialSet_26 rfl ev_X7_bitAt rfl rfl (Nat.le_of_ble_eq_true rfl) (by decide) rfl rfl (Or.inl rfl) rfl ?_
      refine g_lload_n 1 (q := 30) dX7_essentialSet_29 rfl rfl ?_
      refine g_iload 4 (q := 32) dX7_essentialSet_30 rfl rfl ?_
      refine g_iconst (q := 33) (v := 1) dX7_essentialSet_32 rfl rfl ?_
      refine g_iload 3 (q := 35) dX7_essentialSet_33 rfl rfl ?_
      refine g_ishl (q := 36) dX7_essentialSet_35 rfl ?_
      refine g_ixor (q := 37) dX7_essentialSet_36 rfl ?_
      refine g_callS (k2 := 0) (n2 := 0) (q := 40) (as := [.long w1, .int (v5 ^^^ ((1 : Int32) <<< (w4 &&& 31)))]) (st := [.int (f_X7_bitAt w1 v5)]) (st1 := [.int (f_X7_bitAt w1 (v5 ^^^ ((1 : Int32) <<< (w4 &&& 31)))), .int (f_X7_bitAt w1 v5)]) tm_X7_bitAt ml_X7_115 ts_X7_bitAt dX7_essentialSet_37 rfl ev_X7_bitAt rfl rfl (Nat.le_of_ble_eq_true rfl) (by decide) rfl rfl (Or.inl rfl) rfl ?_
      refine g_icmp_eq (t := 50) (q := 43) dX7_essentialSet_40 (by decide) rfl (fun c3 => ?_) (fun c3 => ?_)
      · rw [if_pos c3] at hf
        refine g_iinc 4 (q := 53) (v := (v5 + 1)) (L' := [(0, .int w0), (1, .long w1), (3, .int v3), (4, .int w4), (5, .int (v5 + 1))]) dX7_essentialSet_50 rfl rfl rfl (by decide) rfl ?_
        refine g_goto (t := 14) dX7_essentialSet_53 (by decide) ?_
        refine g_ls [0, 1, 2, 3, 4] rfl ?_
        exact ih _ _ _ hf
      · rw [if_neg c3] at hf
        refine g_iload_n 2 (q := 44) dX7_essentialSet_43 rfl rfl ?_
        refine g_iconst (q := 45) (v := 1) dX7_essentialSet_44 rfl rfl ?_
        refine g_iload 3 (q := 47) dX7_essentialSet_45 rfl rfl ?_
        refine g_ishl (q := 48) dX7_essentialSet_47 rfl ?_
        refine g_ior (q := 49) dX7_essentialSet_48 rfl ?_
        refine g_istore_n (q := 50) (L' := [(0, .int w0), (1, .long w1), (3, .int (v3 ||| ((1 : Int32) <<< (w4 &&& 31)))), (4, .int w4), (5, .int v5)]) dX7_essentialSet_49 rfl (by decide) rfl ?_
        refine g_iinc 4 (q := 53) (v := (v5 + 1)) (L' := [(0, .int w0), (1, .long w1), (3, .int (v3 ||| ((1 : Int32) <<< (w4 &&& 31)))), (4, .int w4), (5, .int (v5 + 1))]) dX7_essentialSet_50 rfl rfl rfl (by decide) rfl ?_
        refine g_goto (t := 14) dX7_essentialSet_53 (by decide) ?_
        refine g_ls [0, 1, 2, 3, 4] rfl ?_
        exact ih _ _ _ hf
set_option maxRecDepth 20000 in
set_option maxHeartbeats 4000000 in
theorem ev_X7_essentialSet_L5 {l : Launch} {E : tEn}   {h : tHp} {w0 : Int32} {w1 : Int64} {K : Int32 → Option (Int32)} (hK : ∀ (v3 : Int32)  (res : Int32), K v3 = some res → tG l E RX7 cX7_essentialSet 6 (some .int) false 2 (fun r h' => r = some (.int res) ∧ h' = h) 0 0 62 [(3, .int v3)] [] (h)) :
    ∀ (fu : Nat) (v3 : Int32) (v4 : Int32) (res : Int32), f_X7_essentialSet_L5 w0 w1 K fu v3 v4 = some res → tG l E RX7 cX7_essentialSet 6 (some .int) false 2 (fun r h' => r = some (.int res) ∧ h' = h) 0 0 5 [(0, .int w0), (1, .long w1), (3, .int v3), (4, .int v4)] [] (h) := by
  intro fu
  induction fu with
  | zero => intro v3 v4 res hf; exact nomatch (show none = some res from hf)
  | succ fu ih =>
    intro v3 v4 res hf
    rw [f_X7_essentialSet_L5] at hf
    refine g_iload 3 (q := 7) dX7_essentialSet_5 rfl rfl ?_
    refine g_iload_n 0 (q := 8) dX7_essentialSet_7 rfl rfl ?_
    refine g_icmp_ge (t := 62) (q := 11) dX7_essentialSet_8 (by decide) rfl (fun c1 => ?_) (fun c1 => ?_)
    · rw [if_pos c1] at hf
      refine g_ls [2] rfl ?_
      exact hK _ _ hf
    · rw [if_neg c1] at hf
      refine g_iconst (q := 12) (v := 0) dX7_essentialSet_11 rfl rfl ?_
      refine g_istore (q := 14) (L' := [(0, .int w0), (1, .long w1), (3, .int v3), (4, .int v4), (5, .int 0)]) dX7_essentialSet_12 rfl (by decide) rfl ?_
      refine g_ls [0, 1, 2, 3, 4] rfl ?_
      refine ev_X7_essentialSet_L14 (fun y4 res hf => ?_) tFU _ _ res hf
      refine g_iinc 3 (q := 59) (v := (v4 + 1)) (L' := [(0, .int w0), (1, .long w1), (3, .int y4), (4, .int (v4 + 1))]) dX7_essentialSet_56 rfl rfl rfl (by decide) rfl ?_
      refine g_goto (t := 5) dX7_essentialSet_59 (by decide) ?_
      refine g_ls [0, 1, 2, 3] rfl ?_
      exact ih _ _ _ hf
set_option maxRecDepth 20000 in
set_option maxHeartbeats 4000000 in
theorem ev_X7_essentialSet {l : Launch} {E : tEn}  {h : tHp} {a0 : Int32} {a1 : Int64} {res : Int32} (hf : f_X7_essentialSet a0 a1 = some res) : tEv l E yX7_essentialSet cX7_essentialSet 6 (some .int) 2 0 0 [.int a0, .long a1] (h) (fun r h' => r = some (.int res) ∧ h' = h) := by
  refine tEv.of (own := RX7) (ini := false) (L := [(0, .int a0), (1, .long a1)]) (by decide +kernel) rfl (fun h9 => nomatch h9) rfl (Nat.le_of_ble_eq_true rfl) ?_
  rw [f_X7_essentialSet] at hf
  refine g_iconst (q := 1) (v := 0) dX7_essentialSet_0 rfl rfl ?_
  refine g_istore_n (q := 2) (L' := [(0, .int a0), (1, .long a1), (3, .int 0)]) dX7_essentialSet_1 rfl (by decide) rfl ?_
  refine g_iconst (q := 3) (v := 0) dX7_essentialSet_2 rfl rfl ?_
  refine g_istore (q := 5) (L' := [(0, .int a0), (1, .long a1), (3, .int 0), (4, .int 0)]) dX7_essentialSet_3 rfl (by decide) rfl ?_
  refine g_ls [0, 1, 2, 3] rfl ?_
  refine ev_X7_essentialSet_L5 (fun y5 res hf => ?_) tFU _ _ res hf
  refine g_iload_n 0 (q := 63) dX7_essentialSet_62 rfl rfl ?_
  have hf := Option.some.inj hf
  subst hf
  exact g_ireturn dX7_essentialSet_63 rfl ⟨rfl, rfl⟩
def f_X7_essential (a0 : Int32) (s_n : Int32) (s_f : List Int64) : Option (Int32) := (f_X7_slotError a0 s_f).bind fun r1 => (if r1 = 0 then (tld s_f a0).bind fun r4 => (f_X7_essentialSet s_n r4).bind fun r6 => some r6 else some r1)
set_option maxRecDepth 20000 in
set_option maxHeartbeats 4000000 in
theorem ev_X7_essential {l : Launch} {E : tEn} {cr : Value} {tl : tHp} {x_hs : Int32} {s_n : Int32} {s_sp : Int64} {s_sb : Int64} {s_sc : Int32} {s_f : List Int64} {s_st : List Int32} {v_n : Int32} {v_sp : Int64} {v_sb : Int64} {v_sc : Int32} {v_f : List Int64} {v_st : List Int32} {h_k : Int32} {h_s : List Int32} {h_c : List Int64} {g_k : Int32} {g_v : Int32} {g_p : List Int32} {g_a : List Int32} {g_t : List Int32} {c_k : Int32} {c_t : List Int32} {c_p : List Int32} {i_l : Int32} {i_n : Int32} {i_f : Int64} {i_p : Int32} {i_o : Int32} {i_b : List Int32} {w_l : Int32} {w_s : List Int32} {x_e : List Int32} {x_l : List Int32} {a0 : Int32} {res : Int32} (hf : f_X7_essential a0 s_n s_f = some res) : tEv l E yX7_essential cX7_essential 3 (some .int) 5 0 0 [.ref 0, .int a0] (encX x_hs s_n s_sp s_sb s_sc s_f s_st v_n v_sp v_sb v_sc v_f v_st h_k h_s h_c g_k g_v g_p g_a g_t c_k c_t c_p i_l i_n i_f i_p i_o i_b w_l w_s x_e x_l cr tl) (fun r h' => r = some (.int res) ∧ h' = encX x_hs s_n s_sp s_sb s_sc s_f s_st v_n v_sp v_sb v_sc v_f v_st h_k h_s h_c g_k g_v g_p g_a g_t c_k c_t c_p i_l i_n i_f i_p i_o i_b w_l w_s x_e x_l cr tl) := by
  refine tEv.of (own := RX7) (ini := false) (L := [(0, .ref 0), (1, .int a0)]) (by decide +kernel) rfl (fun h9 => nomatch h9) rfl (Nat.le_of_ble_eq_true rfl) ?_
  rw [f_X7_essential] at hf
  refine g_aload_n 0 (q := 1) dX7_essential_0 rfl rfl ?_
  refine g_iload_n 1 (q := 2) dX7_essential_1 rfl rfl ?_
  obtain ⟨r1, e2, hf⟩ := Option.bind_eq_some_iff.mp hf
  refine g_callV (a := 0) (k2 := 0) (n2 := 0) (q := 5) (as := [.int a0]) (st := []) (st1 := [.int r1]) tm_X7_slotError ml_X7_98 ti_X7_slotError rfl rfl dX7_essential_2 rfl (ev_X7_slotError e2) rfl rfl (Nat.le_of_ble_eq_true rfl) (by decide) rfl rfl (Or.inl rfl) rfl ?_
  refine g_istore_n (q := 6) (L' := [(0, .ref 0), (1, .int a0), (2, .int r1)]) dX7_essential_5 rfl (by decide) rfl ?_
  refine g_iload_n 2 (q := 7) dX7_essential_6 rfl rfl ?_
  refine g_if_eq (t := 14) (q := 10) dX7_essential_7 (by decide) rfl (fun c3 => ?_) (fun c3 => ?_)
  · rw [if_pos c3] at hf
    refine g_aload_n 0 (q := 15) dX7_essential_14 rfl rfl ?_
    refine g_get (q := 18) fl_X7_10 dX7_essential_15 rfl rfl rfl ?_
    refine g_get (q := 21) fl_X7_75 dX7_essential_18 rfl rfl rfl ?_
    refine g_aload_n 0 (q := 22) dX7_essential_21 rfl rfl ?_
    refine g_get (q := 25) fl_X7_10 dX7_essential_22 rfl rfl rfl ?_
    refine g_get (q := 28) fl_X7_102 dX7_essential_25 rfl rfl rfl ?_
    refine g_iload_n 1 (q := 29) dX7_essential_28 rfl rfl ?_
    obtain ⟨r4, e5, hf⟩ := Option.bind_eq_some_iff.mp hf
    refine g_laload (q := 30) dX7_essential_29 rfl rfl e5 ?_
    obtain ⟨r6, e7, hf⟩ := Option.bind_eq_some_iff.mp hf
    refine g_callS (k2 := 0) (n2 := 0) (q := 33) (as := [.int s_n, .long r4]) (st := []) (st1 := [.int r6]) tm_X7_essentialSet ml_X7_119 ts_X7_essentialSet dX7_essential_30 rfl (ev_X7_essentialSet e7) rfl rfl (Nat.le_of_ble_eq_true rfl) (by decide) rfl rfl (Or.inl rfl) rfl ?_
    have hf := Option.some.inj hf
    subst hf
    exact g_ireturn dX7_essential_33 rfl ⟨rfl, rfl⟩
  · rw [if_neg c3] at hf
    refine g_iload_n 2 (q := 11) dX7_essential_10 rfl rfl ?_
    refine g_goto (t := 33) dX7_essential_11 (by decide) ?_
    have hf := Option.some.inj hf
    subst hf
    exact g_ireturn dX7_essential_33 rfl ⟨rfl, rfl⟩
def f_X7_fallsAbove_L3 (w0 : Int32) (w1 : Int64) (w3 : Int32) (K : Option (Int32)) : Nat → Int32 → Option (Int32)
  | 0, _ => none
  | fu + 1, v4 => (if w0 ≤ v4 then K else (if (f_X7_bitAt w1 (w3 ||| ((1 : Int32) <<< (v4 &&& 31)))) = 0 then some 1 else f_X7_fallsAbove_L3 w0 w1 w3 K fu (v4 + 1)))
def f_X7_fallsAbove (a0 : Int32) (a1 : Int64) (a2 : Int32)  : Option (Int32) := f_X7_fallsAbove_L3 a0 a1 a2 (some 0) tFU 0
set_option maxRecDepth 20000 in
set_option maxHeartbeats 4000000 in
theorem ev_X7_fallsAbove_L3 {l : Launch} {E : tEn}   {h : tHp} {w0 : Int32} {w1 : Int64} {w3 : Int32} {K : Option (Int32)} (hK : ∀   (res : Int32), K  = some res → tG l E RX7 cX7_fallsAbove 5 (some .boolean) false 2 (fun r h' => r = some (.int res) ∧ h' = h) 0 0 30 [] [] (h)) :
    ∀ (fu : Nat) (v4 : Int32) (res : Int32), f_X7_fallsAbove_L3 w0 w1 w3 K fu v4 = some res → tG l E RX7 cX7_fallsAbove 5 (some .boolean) false 2 (fun r h' => r = some (.int res) ∧ h' = h) 0 0 3 [(0, .int w0), (1, .long w1), (3, .int w3), (4, .int v4)] [] (h) := by
  intro fu
  induction fu with
  | zero => intro v4 res hf; exact nomatch (show none = some res from hf)
  | succ fu ih =>
    intro v4 res hf
    rw [f_X7_fallsAbove_L3] at hf
    refine g_iload 3 (q := 5) dX7_fallsAbove_3 rfl rfl ?_
    refine g_iload_n 0 (q := 6) dX7_fallsAbove_5 rfl rfl ?_
    refine g_icmp_ge (t := 30) (q := 9) dX7_fallsAbove_6 (by decide) rfl (fun c1 => ?_) (fun c1 => ?_)
    · rw [if_pos c1] at hf
      refine g_ls [] rfl ?_
      exact hK _ hf
    · rw [if_neg c1] at hf
      refine g_lload_n 1 (q := 10) dX7_fallsAbove_9 rfl rfl ?_
      refine g_iload_n 2 (q := 11) dX7_fallsAbove_10 rfl rfl ?_
      refine g_iconst (q := 12) (v := 1) dX7_fallsAbove_11 rfl rfl ?_
      refine g_iload 3 (q := 14) dX7_fallsAbove_12 rfl rfl ?_
      refine g_ishl (q := 15) dX7_fallsAbove_14 rfl ?_
      refine g_ior (q := 16) dX7_fallsAbove_15 rfl ?_
      refine g_callS (k2 := 0) (n2 := 0) (q := 19) (as := [.long w1, .int (w3 ||| ((1 : Int32) <<< (v4 &&& 31)))]) (st := []) (st1 := [.int (f_X7_bitAt w1 (w3 ||| ((1 : Int32) <<< (v4 &&& 31))))]) tm_X7_bitAt ml_X7_115 ts_X7_bitAt dX7_fallsAbove_16 rfl ev_X7_bitAt rfl rfl (Nat.le_of_ble_eq_true rfl) (by decide) rfl rfl (Or.inl rfl) rfl ?_
      refine g_if_ne (t := 24) (q := 22) dX7_fallsAbove_19 (by decide) rfl (fun c2 => ?_) (fun c2 => ?_)
      · rw [if_neg c2] at hf
        refine g_iinc 3 (q := 27) (v := (v4 + 1)) (L' := [(0, .int w0), (1, .long w1), (3, .int w3), (4, .int (v4 + 1))]) dX7_fallsAbove_24 rfl rfl rfl (by decide) rfl ?_
        refine g_goto (t := 3) dX7_fallsAbove_27 (by decide) ?_
        refine g_ls [0, 1, 2, 3] rfl ?_
        exact ih _ _ hf
      · rw [if_pos c2] at hf
        refine g_iconst (q := 23) (v := 1) dX7_fallsAbove_22 rfl rfl ?_
        have hf := Option.some.inj hf
        subst hf
        exact g_zreturn (Or.inr rfl) dX7_fallsAbove_23 rfl ⟨rfl, rfl⟩
set_option maxRecDepth 20000 in
set_option maxHeartbeats 4000000 in
theorem ev_X7_fallsAbove {l : Launch} {E : tEn}  {h : tHp} {a0 : Int32} {a1 : Int64} {a2 : Int32} {res : Int32} (hf : f_X7_fallsAbove a0 a1 a2 = some res) : tEv l E yX7_fallsAbove cX7_fallsAbove 5 (some .boolean) 2 0 0 [.int a0, .long a1, .int a2] (h) (fun r h' => r = some (.int res) ∧ h' = h) := by
  refine tEv.of (own := RX7) (ini := false) (L := [(0, .int a0), (1, .long a1), (3, .int a2)]) (by decide +kernel) rfl (fun h9 => nomatch h9) rfl (Nat.le_of_ble_eq_true rfl) ?_
  rw [f_X7_fallsAbove] at hf
  refine g_iconst (q := 1) (v := 0) dX7_fallsAbove_0 rfl rfl ?_
  refine g_istore (q := 3) (L' := [(0, .int a0), (1, .long a1), (3, .int a2), (4, .int 0)]) dX7_fallsAbove_1 rfl (by decide) rfl ?_
  refine g_ls [0, 1, 2, 3] rfl ?_
  refine ev_X7_fallsAbove_L3 (fun  res hf => ?_) tFU _ res hf
  refine g_iconst (q := 31) (v := 0) dX7_fallsAbove_30 rfl rfl ?_
  have hf := Option.some.inj hf
  subst hf
  exact g_zreturn (Or.inl rfl) dX7_fallsAbove_31 rfl ⟨rfl, rfl⟩
def f_X7_lowestViolation_L2 (w0 : Int32) (w1 : Int64) (K : Option (Int32)) : Nat → Int32 → Option (Int32)
  | 0, _ => none
  | fu + 1, v3 => (if (f_X7_pointCount w0) ≤ v3 then K else (if (f_X7_bitAt w1 v3) = 1 then (f_X7_fallsAbove w0 w1 v3).bind fun r3 => (if r3 = 0 then f_X7_lowestViolation_L2 w0 w1 K fu (v3 + 1) else some v3) else f_X7_lowestViolation_L2 w0 w1 K fu (v3 + 1)))
def f_X7_lowestViolation (a0 : Int32) (a1 : Int64)  : Option (Int32) := f_X7_lowestViolation_L2 a0 a1 (some (-1)) tFU 0
set_option maxRecDepth 20000 in
set_option maxHeartbeats 4000000 in
theorem ev_X7_lowestViolation_L2 {l : Launch} {E : tEn}   {h : tHp} {w0 : Int32} {w1 : Int64} {K : Option (Int32)} (hK : ∀   (res : Int32), K  = some res → tG l E RX7 cX7_lowestViolation 4 (some .int) false 3 (fun r h' => r = some (.int res) ∧ h' = h) 0 0 36 [] [] (h)) :
    ∀ (fu : Nat) (v3 : Int32) (res : Int32), f_X7_lowestViolation_L2 w0 w1 K fu v3 = some res → tG l E RX7 cX7_lowestViolation 4 (some .int) false 3 (fun r h' => r = some (.int res) ∧ h' = h) 0 0 2 [(0, .int w0), (1, .long w1), (3, .int v3)] [] (h) := by
  intro fu
  induction fu with
  | zero => intro v3 res hf; exact nomatch (show none = some res from hf)
  | succ fu ih =>
    intro v3 res hf
    rw [f_X7_lowestViolation_L2] at hf
    refine g_iload_n 2 (q := 3) dX7_lowestViolation_2 rfl rfl ?_
    refine g_iload_n 0 (q := 4) dX7_lowestViolation_3 rfl rfl ?_
    refine g_callS (k2 := 0) (n2 := 0) (q := 7) (as := [.int w0]) (st := [.int v3]) (st1 := [.int (f_X7_pointCount w0), .int v3]) tm_X7_pointCount ml_X7_209 ts_X7_pointCount dX7_lowestViolation_4 rfl ev_X7_pointCount rfl rfl (Nat.le_of_ble_eq_true rfl) (by decide) rfl rfl (Or.inl rfl) rfl ?_
    refine g_icmp_ge (t := 36) (q := 10) dX7_lowestViolation_7 (by decide) rfl (fun c1 => ?_) (fun c1 => ?_)
    · rw [if_pos c1] at hf
      refine g_ls [] rfl ?_
      exact hK _ hf
    · rw [if_neg c1] at hf
      refine g_lload_n 1 (q := 11) dX7_lowestViolation_10 rfl rfl ?_
      refine g_iload_n 2 (q := 12) dX7_lowestViolation_11 rfl rfl ?_
      refine g_callS (k2 := 0) (n2 := 0) (q := 15) (as := [.long w1, .int v3]) (st := []) (st1 := [.int (f_X7_bitAt w1 v3)]) tm_X7_bitAt ml_X7_115 ts_X7_bitAt dX7_lowestViolation_12 rfl ev_X7_bitAt rfl rfl (Nat.le_of_ble_eq_true rfl) (by decide) rfl rfl (Or.inl rfl) rfl ?_
      refine g_iconst (q := 16) (v := 1) dX7_lowestViolation_15 rfl rfl ?_
      refine g_icmp_ne (t := 30) (q := 19) dX7_lowestViolation_16 (by decide) rfl (fun c2 => ?_) (fun c2 => ?_)
      · rw [if_neg c2] at hf
        refine g_iinc 2 (q := 33) (v := (v3 + 1)) (L' := [(0, .int w0), (1, .long w1), (3, .int (v3 + 1))]) dX7_lowestViolation_30 rfl rfl rfl (by decide) rfl ?_
        refine g_goto (t := 2) dX7_lowestViolation_33 (by decide) ?_
        refine g_ls [0, 1, 2] rfl ?_
        exact ih _ _ hf
      · rw [if_pos c2] at hf
        refine g_iload_n 0 (q := 20) dX7_lowestViolation_19 rfl rfl ?_
        refine g_lload_n 1 (q := 21) dX7_lowestViolation_20 rfl rfl ?_
        refine g_iload_n 2 (q := 22) dX7_lowestViolation_21 rfl rfl ?_
        obtain ⟨r3, e4, hf⟩ := Option.bind_eq_some_iff.mp hf
        refine g_callS (k2 := 0) (n2 := 0) (q := 25) (as := [.int w0, .long w1, .int v3]) (st := []) (st1 := [.int r3]) tm_X7_fallsAbove ml_X7_307 ts_X7_fallsAbove dX7_lowestViolation_22 rfl (ev_X7_fallsAbove e4) rfl rfl (Nat.le_of_ble_eq_true rfl) (by decide) rfl rfl (Or.inl rfl) rfl ?_
        refine g_if_eq (t := 30) (q := 28) dX7_lowestViolation_25 (by decide) rfl (fun c5 => ?_) (fun c5 => ?_)
        · rw [if_pos c5] at hf
          refine g_iinc 2 (q := 33) (v := (v3 + 1)) (L' := [(0, .int w0), (1, .long w1), (3, .int (v3 + 1))]) dX7_lowestViolation_30 rfl rfl rfl (by decide) rfl ?_
          refine g_goto (t := 2) dX7_lowestViolation_33 (by decide) ?_
          refine g_ls [0, 1, 2] rfl ?_
          exact ih _ _ hf
        · rw [if_neg c5] at hf
          refine g_iload_n 2 (q := 29) dX7_lowestViolation_28 rfl rfl ?_
          have hf := Option.some.inj hf
          subst hf
          exact g_ireturn dX7_lowestViolation_29 rfl ⟨rfl, rfl⟩
set_option maxRecDepth 20000 in
set_option maxHeartbeats 4000000 in
theorem ev_X7_lowestViolation {l : Launch} {E : tEn}  {h : tHp} {a0 : Int32} {a1 : Int64} {res : Int32} (hf : f_X7_lowestViolation a0 a1 = some res) : tEv l E yX7_lowestViolation cX7_lowestViolation 4 (some .int) 3 0 0 [.int a0, .long a1] (h) (fun r h' => r = some (.int res) ∧ h' = h) := by
  refine tEv.of (own := RX7) (ini := false) (L := [(0, .int a0), (1, .long a1)]) (by decide +kernel) rfl (fun h9 => nomatch h9) rfl (Nat.le_of_ble_eq_true rfl) ?_
  rw [f_X7_lowestViolation] at hf
  refine g_iconst (q := 1) (v := 0) dX7_lowestViolation_0 rfl rfl ?_
  refine g_istore_n (q := 2) (L' := [(0, .int a0), (1, .long a1), (3, .int 0)]) dX7_lowestViolation_1 rfl (by decide) rfl ?_
  refine g_ls [0, 1, 2] rfl ?_
  refine ev_X7_lowestViolation_L2 (fun  res hf => ?_) tFU _ res hf
  refine g_iconst (q := 37) (v := (-1)) dX7_lowestViolation_36 rfl rfl ?_
  have hf := Option.some.inj hf
  subst hf
  exact g_ireturn dX7_lowestViolation_37 rfl ⟨rfl, rfl⟩
def f_X7_isMonotone (a0 : Int32) (s_n : Int32) (s_f : List Int64) : Option (Int32) := (f_X7_slotError a0 s_f).bind fun r1 => (if r1 = 0 then (tld s_f a0).bind fun r4 => (f_X7_lowestViolation s_n r4).bind fun r6 => (if r6 = (-1) then some 1 else some 0) else some r1)
set_option maxRecDepth 20000 in
set_option maxHeartbeats 4000000 in
theorem ev_X7_isMonotone {l : Launch} {E : tEn} {cr : Value} {tl : tHp} {x_hs : Int32} {s_n : Int32} {s_sp : Int64} {s_sb : Int64} {s_sc : Int32} {s_f : List Int64} {s_st : List Int32} {v_n : Int32} {v_sp : Int64} {v_sb : Int64} {v_sc : Int32} {v_f : List Int64} {v_st : List Int32} {h_k : Int32} {h_s : List Int32} {h_c : List Int64} {g_k : Int32} {g_v : Int32} {g_p : List Int32} {g_a : List Int32} {g_t : List Int32} {c_k : Int32} {c_t : List Int32} {c_p : List Int32} {i_l : Int32} {i_n : Int32} {i_f : Int64} {i_p : Int32} {i_o : Int32} {i_b : List Int32} {w_l : Int32} {w_s : List Int32} {x_e : List Int32} {x_l : List Int32} {a0 : Int32} {res : Int32} (hf : f_X7_isMonotone a0 s_n s_f = some res) : tEv l E yX7_isMonotone cX7_isMonotone 3 (some .int) 5 0 0 [.ref 0, .int a0] (encX x_hs s_n s_sp s_sb s_sc s_f s_st v_n v_sp v_sb v_sc v_f v_st h_k h_s h_c g_k g_v g_p g_a g_t c_k c_t c_p i_l i_n i_f i_p i_o i_b w_l w_s x_e x_l cr tl) (fun r h' => r = some (.int res) ∧ h' = encX x_hs s_n s_sp s_sb s_sc s_f s_st v_n v_sp v_sb v_sc v_f v_st h_k h_s h_c g_k g_v g_p g_a g_t c_k c_t c_p i_l i_n i_f i_p i_o i_b w_l w_s x_e x_l cr tl) := by
  refine tEv.of (own := RX7) (ini := false) (L := [(0, .ref 0), (1, .int a0)]) (by decide +kernel) rfl (fun h9 => nomatch h9) rfl (Nat.le_of_ble_eq_true rfl) ?_
  rw [f_X7_isMonotone] at hf
  refine g_aload_n 0 (q := 1) dX7_isMonotone_0 rfl rfl ?_
  refine g_iload_n 1 (q := 2) dX7_isMonotone_1 rfl rfl ?_
  obtain ⟨r1, e2, hf⟩ := Option.bind_eq_some_iff.mp hf
  refine g_callV (a := 0) (k2 := 0) (n2 := 0) (q := 5) (as := [.int a0]) (st := []) (st1 := [.int r1]) tm_X7_slotError ml_X7_98 ti_X7_slotError rfl rfl dX7_isMonotone_2 rfl (ev_X7_slotError e2) rfl rfl (Nat.le_of_ble_eq_true rfl) (by decide) rfl rfl (Or.inl rfl) rfl ?_
  refine g_istore_n (q := 6) (L' := [(0, .ref 0), (1, .int a0), (2, .int r1)]) dX7_isMonotone_5 rfl (by decide) rfl ?_
  refine g_iload_n 2 (q := 7) dX7_isMonotone_6 rfl rfl ?_
  refine g_if_eq (t := 12) (q := 10) dX7_isMonotone_7 (by decide) rfl (fun c3 => ?_) (fun c3 => ?_)
  · rw [if_pos c3] at hf
    refine g_aload_n 0 (q := 13) dX7_isMonotone_12 rfl rfl ?_
    refine g_get (q := 16) fl_X7_10 dX7_isMonotone_13 rfl rfl rfl ?_
    refine g_get (q := 19) fl_X7_75 dX7_isMonotone_16 rfl rfl rfl ?_
    refine g_aload_n 0 (q := 20) dX7_isMonotone_19 rfl rfl ?_
    refine g_get (q := 23) fl_X7_10 dX7_isMonotone_20 rfl rfl rfl ?_
    refine g_get (q := 26) fl_X7_102 dX7_isMonotone_23 rfl rfl rfl ?_
    refine g_iload_n 1 (q := 27) dX7_isMonotone_26 rfl rfl ?_
    obtain ⟨r4, e5, hf⟩ := Option.bind_eq_some_iff.mp hf
    refine g_laload (q := 28) dX7_isMonotone_27 rfl rfl e5 ?_
    obtain ⟨r6, e7, hf⟩ := Option.bind_eq_some_iff.mp hf
    refine g_callS (k2 := 0) (n2 := 0) (q := 31) (as := [.int s_n, .long r4]) (st := []) (st1 := [.int r6]) tm_X7_lowestViolation ml_X7_122 ts_X7_lowestViolation dX7_isMonotone_28 rfl (ev_X7_lowestViolation e7) rfl rfl (Nat.le_of_ble_eq_true rfl) (by decide) rfl rfl (Or.inl rfl) rfl ?_
    refine g_iconst (q := 32) (v := (-1)) dX7_isMonotone_31 rfl rfl ?_
    refine g_icmp_ne (t := 39) (q := 35) dX7_isMonotone_32 (by decide) rfl (fun c8 => ?_) (fun c8 => ?_)
    · rw [if_neg c8] at hf
      refine g_iconst (q := 40) (v := 0) dX7_isMonotone_39 rfl rfl ?_
      have hf := Option.some.inj hf
      subst hf
      exact g_ireturn dX7_isMonotone_40 rfl ⟨rfl, rfl⟩
    · rw [if_pos c8] at hf
      refine g_iconst (q := 36) (v := 1) dX7_isMonotone_35 rfl rfl ?_
      refine g_goto (t := 40) dX7_isMonotone_36 (by decide) ?_
      have hf := Option.some.inj hf
      subst hf
      exact g_ireturn dX7_isMonotone_40 rfl ⟨rfl, rfl⟩
  · rw [if_neg c3] at hf
    refine g_iload_n 2 (q := 11) dX7_isMonotone_10 rfl rfl ?_
    have hf := Option.some.inj hf
    subst hf
    exact g_ireturn dX7_isMonotone_11 rfl ⟨rfl, rfl⟩
def f_X7_violatingPoint (a0 : Int32) (s_n : Int32) (s_f : List Int64) : Option (Int32) := (f_X7_slotError a0 s_f).bind fun r1 => (if r1 = 0 then (tld s_f a0).bind fun r4 => (f_X7_lowestViolation s_n r4).bind fun r6 => some r6 else some r1)
set_option maxRecDepth 20000 in
set_option maxHeartbeats 4000000 in
theorem ev_X7_violatingPoint {l : Launch} {E : tEn} {cr : Value} {tl : tHp} {x_hs : Int32} {s_n : Int32} {s_sp : Int64} {s_sb : Int64} {s_sc : Int32} {s_f : List Int64} {s_st : List Int32} {v_n : Int32} {v_sp : Int64} {v_sb : Int64} {v_sc : Int32} {v_f : List Int64} {v_st : List Int32} {h_k : Int32} {h_s : List Int32} {h_c : List Int64} {g_k : Int32} {g_v : Int32} {g_p : List Int32} {g_a : List Int32} {g_t : List Int32} {c_k : Int32} {c_t : List Int32} {c_p : List Int32} {i_l : Int32} {i_n : Int32} {i_f : Int64} {i_p : Int32} {i_o : Int32} {i_b : List Int32} {w_l : Int32} {w_s : List Int32} {x_e : List Int32} {x_l : List Int32} {a0 : Int32} {res : Int32} (hf : f_X7_violatingPoint a0 s_n s_f = some res) : tEv l E yX7_violatingPoint cX7_violatingPoint 3 (some .int) 5 0 0 [.ref 0, .int a0] (encX x_hs s_n s_sp s_sb s_sc s_f s_st v_n v_sp v_sb v_sc v_f v_st h_k h_s h_c g_k g_v g_p g_a g_t c_k c_t c_p i_l i_n i_f i_p i_o i_b w_l w_s x_e x_l cr tl) (fun r h' => r = some (.int res) ∧ h' = encX x_hs s_n s_sp s_sb s_sc s_f s_st v_n v_sp v_sb v_sc v_f v_st h_k h_s h_c g_k g_v g_p g_a g_t c_k c_t c_p i_l i_n i_f i_p i_o i_b w_l w_s x_e x_l cr tl) := by
  refine tEv.of (own := RX7) (ini := false) (L := [(0, .ref 0), (1, .int a0)]) (by decide +kernel) rfl (fun h9 => nomatch h9) rfl (Nat.le_of_ble_eq_true rfl) ?_
  rw [f_X7_violatingPoint] at hf
  refine g_aload_n 0 (q := 1) dX7_violatingPoint_0 rfl rfl ?_
  refine g_iload_n 1 (q := 2) dX7_violatingPoint_1 rfl rfl ?_
  obtain ⟨r1, e2, hf⟩ := Option.bind_eq_some_iff.mp hf
  refine g_callV (a := 0) (k2 := 0) (n2 := 0) (q := 5) (as := [.int a0]) (st := []) (st1 := [.int r1]) tm_X7_slotError ml_X7_98 ti_X7_slotError rfl rfl dX7_violatingPoint_2 rfl (ev_X7_slotError e2) rfl rfl (Nat.le_of_ble_eq_true rfl) (by decide) rfl rfl (Or.inl rfl) rfl ?_
  refine g_istore_n (q := 6) (L' := [(0, .ref 0), (1, .int a0), (2, .int r1)]) dX7_violatingPoint_5 rfl (by decide) rfl ?_
  refine g_iload_n 2 (q := 7) dX7_violatingPoint_6 rfl rfl ?_
  refine g_if_eq (t := 14) (q := 10) dX7_violatingPoint_7 (by decide) rfl (fun c3 => ?_) (fun c3 => ?_)
  · rw [if_pos c3] at hf
    refine g_aload_n 0 (q := 15) dX7_violatingPoint_14 rfl rfl ?_
    refine g_get (q := 18) fl_X7_10 dX7_violatingPoint_15 rfl rfl rfl ?_
    refine g_get (q := 21) fl_X7_75 dX7_violatingPoint_18 rfl rfl rfl ?_
    refine g_aload_n 0 (q := 22) dX7_violatingPoint_21 rfl rfl ?_
    refine g_get (q := 25) fl_X7_10 dX7_violatingPoint_22 rfl rfl rfl ?_
    refine g_get (q := 28) fl_X7_102 dX7_violatingPoint_25 rfl rfl rfl ?_
    refine g_iload_n 1 (q := 29) dX7_violatingPoint_28 rfl rfl ?_
    obtain ⟨r4, e5, hf⟩ := Option.bind_eq_some_iff.mp hf
    refine g_laload (q := 30) dX7_violatingPoint_29 rfl rfl e5 ?_
    obtain ⟨r6, e7, hf⟩ := Option.bind_eq_some_iff.mp hf
    refine g_callS (k2 := 0) (n2 := 0) (q := 33) (as := [.int s_n, .long r4]) (st := []) (st1 := [.int r6]) tm_X7_lowestViolation ml_X7_122 ts_X7_lowestViolation dX7_violatingPoint_30 rfl (ev_X7_lowestViolation e7) rfl rfl (Nat.le_of_ble_eq_true rfl) (by decide) rfl rfl (Or.inl rfl) rfl ?_
    have hf := Option.some.inj hf
    subst hf
    exact g_ireturn dX7_violatingPoint_33 rfl ⟨rfl, rfl⟩
  · rw [if_neg c3] at hf
    refine g_iload_n 2 (q := 11) dX7_violatingPoint_10 rfl rfl ?_
    refine g_goto (t := 33) dX7_violatingPoint_11 (by decide) ?_
    have hf := Option.some.inj hf
    subst hf
    exact g_ireturn dX7_violatingPoint_33 rfl ⟨rfl, rfl⟩
def f_X3_isMinimal_L3 (w0 : Int32) (w1 : Int64) (w3 : Int32) (K : Option (Int32)) : Nat → Int32 → Option (Int32)
  | 0, _ => none
  | fu + 1, v4 => (if w0 ≤ v4 then K else (if (w3 &&& (((1 : Int32) <<< (v4 &&& 31)) ^^^ (-1))) = w3 then f_X3_isMinimal_L3 w0 w1 w3 K fu (v4 + 1) else (if (f_X7_bitAt w1 (w3 &&& (((1 : Int32) <<< (v4 &&& 31)) ^^^ (-1)))) = 1 then some 0 else f_X3_isMinimal_L3 w0 w1 w3 K fu (v4 + 1))))
def f_X3_isMinimal (a0 : Int32) (a1 : Int64) (a2 : Int32)  : Option (Int32) := f_X3_isMinimal_L3 a0 a1 a2 (some 1) tFU 0
set_option maxRecDepth 20000 in
set_option maxHeartbeats 4000000 in
theorem ev_X3_isMinimal_L3 {l : Launch} {E : tEn}   {h : tHp} {w0 : Int32} {w1 : Int64} {w3 : Int32} {K : Option (Int32)} (hK : ∀   (res : Int32), K  = some res → tG l E RX3 cX3_isMinimal 6 (some .boolean) false 2 (fun r h' => r = some (.int res) ∧ h' = h) 0 0 43 [] [] (h)) :
    ∀ (fu : Nat) (v4 : Int32) (res : Int32), f_X3_isMinimal_L3 w0 w1 w3 K fu v4 = some res → tG l E RX3 cX3_isMinimal 6 (some .boolean) false 2 (fun r h' => r = some (.int res) ∧ h' = h) 0 0 3 [(0, .int w0), (1, .long w1), (3, .int w3), (4, .int v4)] [] (h) := by
  intro fu
  induction fu with
  | zero => intro v4 res hf; exact nomatch (show none = some res from hf)
  | succ fu ih =>
    intro v4 res hf
    rw [f_X3_isMinimal_L3] at hf
    refine g_iload 3 (q := 5) dX3_isMinimal_3 rfl rfl ?_
    refine g_iload_n 0 (q := 6) dX3_isMinimal_5 rfl rfl ?_
    refine g_icmp_ge (t := 43) (q := 9) dX3_isMinimal_6 (by decide) rfl (fun c1 => ?_) (fun c1 => ?_)
    · rw [if_pos c1] at hf
      refine g_ls [] rfl ?_
      exact hK _ hf
    · rw [if_neg c1] at hf
      refine g_iload_n 2 (q := 10) dX3_isMinimal_9 rfl rfl ?_
      refine g_iconst (q := 11) (v := 1) dX3_isMinimal_10 rfl rfl ?_
      refine g_iload 3 (q := 13) dX3_isMinimal_11 rfl rfl ?_
      refine g_ishl (q := 14) dX3_isMinimal_13 rfl ?_
      refine g_iconst (q := 15) (v := (-1)) dX3_isMinimal_14 rfl rfl ?_
      refine g_ixor (q := 16) dX3_isMinimal_15 rfl ?_
      refine g_iand (q := 17) dX3_isMinimal_16 rfl ?_
      refine g_istore (q := 19) (L' := [(0, .int w0), (1, .long w1), (3, .int w3), (4, .int v4), (5, .int (w3 &&& (((1 : Int32) <<< (v4 &&& 31)) ^^^ (-1))))]) dX3_isMinimal_17 rfl (by decide) rfl ?_
      refine g_iload 4 (q := 21) dX3_isMinimal_19 rfl rfl ?_
      refine g_iload_n 2 (q := 22) dX3_isMinimal_21 rfl rfl ?_
      refine g_icmp_eq (t := 37) (q := 25) dX3_isMinimal_22 (by decide) rfl (fun c2 => ?_) (fun c2 => ?_)
      · rw [if_pos c2] at hf
        refine g_iinc 3 (q := 40) (v := (v4 + 1)) (L' := [(0, .int w0), (1, .long w1), (3, .int w3), (4, .int (v4 + 1)), (5, .int (w3 &&& (((1 : Int32) <<< (v4 &&& 31)) ^^^ (-1))))]) dX3_isMinimal_37 rfl rfl rfl (by decide) rfl ?_
        refine g_goto (t := 3) dX3_isMinimal_40 (by decide) ?_
        refine g_ls [0, 1, 2, 3] rfl ?_
        exact ih _ _ hf
      · rw [if_neg c2] at hf
        refine g_lload_n 1 (q := 26) dX3_isMinimal_25 rfl rfl ?_
        refine g_iload 4 (q := 28) dX3_isMinimal_26 rfl rfl ?_
        refine g_callS (k2 := 0) (n2 := 0) (q := 31) (as := [.long w1, .int (w3 &&& (((1 : Int32) <<< (v4 &&& 31)) ^^^ (-1)))]) (st := []) (st1 := [.int (f_X7_bitAt w1 (w3 &&& (((1 : Int32) <<< (v4 &&& 31)) ^^^ (-1))))]) tm_X7_bitAt ml_X3_38 ts_X7_bitAt dX3_isMinimal_28 rfl ev_X7_bitAt rfl rfl (Nat.le_of_ble_eq_true rfl) (by decide) rfl rfl (Or.inl rfl) rfl ?_
        refine g_iconst (q := 32) (v := 1) dX3_isMinimal_31 rfl rfl ?_
        refine g_icmp_ne (t := 37) (q := 35) dX3_isMinimal_32 (by decide) rfl (fun c3 => ?_) (fun c3 => ?_)
        · rw [if_neg c3] at hf
          refine g_iinc 3 (q := 40) (v := (v4 + 1)) (L' := [(0, .int w0), (1, .long w1), (3, .int w3), (4, .int (v4 + 1)), (5, .int (w3 &&& (((1 : Int32) <<< (v4 &&& 31)) ^^^ (-1))))]) dX3_isMinimal_37 rfl rfl rfl (by decide) rfl ?_
          refine g_goto (t := 3) dX3_isMinimal_40 (by decide) ?_
          refine g_ls [0, 1, 2, 3] rfl ?_
          exact ih _ _ hf
        · rw [if_pos c3] at hf
          refine g_iconst (q := 36) (v := 0) dX3_isMinimal_35 rfl rfl ?_
          have hf := Option.some.inj hf
          subst hf
          exact g_zreturn (Or.inl rfl) dX3_isMinimal_36 rfl ⟨rfl, rfl⟩
set_option maxRecDepth 20000 in
set_option maxHeartbeats 4000000 in
theorem ev_X3_isMinimal {l : Launch} {E : tEn}  {h : tHp} {a0 : Int32} {a1 : Int64} {a2 : Int32} {res : Int32} (hf : f_X3_isMinimal a0 a1 a2 = some res) : tEv l E yX3_isMinimal cX3_isMinimal 6 (some .boolean) 2 0 0 [.int a0, .long a1, .int a2] (h) (fun r h' => r = some (.int res) ∧ h' = h) := by
  refine tEv.of (own := RX3) (ini := false) (L := [(0, .int a0), (1, .long a1), (3, .int a2)]) (by decide +kernel) rfl (fun h9 => nomatch h9) rfl (Nat.le_of_ble_eq_true rfl) ?_
  rw [f_X3_isMinimal] at hf
  refine g_iconst (q := 1) (v := 0) dX3_isMinimal_0 rfl rfl ?_
  refine g_istore (q := 3) (L' := [(0, .int a0), (1, .long a1), (3, .int a2), (4, .int 0)]) dX3_isMinimal_1 rfl (by decide) rfl ?_
  refine g_ls [0, 1, 2, 3] rfl ?_
  refine ev_X3_isMinimal_L3 (fun  res hf => ?_) tFU _ res hf
  refine g_iconst (q := 44) (v := 1) dX3_isMinimal_43 rfl rfl ?_
  have hf := Option.some.inj hf
  subst hf
  exact g_zreturn (Or.inr rfl) dX3_isMinimal_44 rfl ⟨rfl, rfl⟩
def f_X7_hasVariable (a0 : Int32) (a1 : Int32)  : Int32 := (if ((a0 >>> (a1 &&& 31)) &&& 1) = 1 then 1 else 0)
theorem bl_X7_hasVariable (a0 : Int32) (a1 : Int32)  : f_X7_hasVariable a0 a1 = 0 ∨ f_X7_hasVariable a0 a1 = 1 := by
  unfold f_X7_hasVariable
  repeat' split
  all_goals first | exact Or.inl rfl | exact Or.inr rfl
set_option maxRecDepth 20000 in
set_option maxHeartbeats 4000000 in
theorem ev_X7_hasVariable {l : Launch} {E : tEn}  {h : tHp} {a0 : Int32} {a1 : Int32} : tEv l E yX7_hasVariable cX7_hasVariable 2 (some .boolean) 1 0 0 [.int a0, .int a1] (h) (fun r h' => r = some (.int (f_X7_hasVariable a0 a1)) ∧ h' = h) := by
  refine tEv.of (own := RX7) (ini := false) (L := [(0, .int a0), (1, .int a1)]) (by decide +kernel) rfl (fun h9 => nomatch h9) rfl (Nat.le_of_ble_eq_true rfl) ?_
  obtain ⟨res, hf⟩ : ∃ z, f_X7_hasVariable a0 a1 = z := ⟨_, rfl⟩
  rw [hf]
  rw [f_X7_hasVariable] at hf
  refine g_iload_n 0 (q := 1) dX7_hasVariable_0 rfl rfl ?_
  refine g_iload_n 1 (q := 2) dX7_hasVariable_1 rfl rfl ?_
  refine g_ishr (q := 3) dX7_hasVariable_2 rfl ?_
  refine g_iconst (q := 4) (v := 1) dX7_hasVariable_3 rfl rfl ?_
  refine g_iand (q := 5) dX7_hasVariable_4 rfl ?_
  refine g_iconst (q := 6) (v := 1) dX7_hasVariable_5 rfl rfl ?_
  refine g_icmp_ne (t := 13) (q := 9) dX7_hasVariable_6 (by decide) rfl (fun c1 => ?_) (fun c1 => ?_)
  · rw [if_neg c1] at hf
    refine g_iconst (q := 14) (v := 0) dX7_hasVariable_13 rfl rfl ?_
    subst hf
    exact g_zreturn (Or.inl rfl) dX7_hasVariable_14 rfl ⟨rfl, rfl⟩
  · rw [if_pos c1] at hf
    refine g_iconst (q := 10) (v := 1) dX7_hasVariable_9 rfl rfl ?_
    refine g_goto (t := 14) dX7_hasVariable_10 (by decide) ?_
    subst hf
    exact g_zreturn (Or.inr rfl) dX7_hasVariable_14 rfl ⟨rfl, rfl⟩
def f_X3_addPrime_L41 (w1 : Int32) (K : List Int32 → Option (Int32 × Int32 × List Int32 × List Int32)) : Nat → Int32 → List Int32 → Option (Int32 × Int32 × List Int32 × List Int32)
  | 0, _, _ => none
  | fu + 1, v2, g_a => (if 5 ≤ v2 then K  g_a else (if (f_X7_hasVariable w1 v2) = 0 then f_X3_addPrime_L41 w1 K fu (v2 + 1) g_a else (tld g_a v2).bind fun r4 => (tst g_a v2 (r4 ||| (w1 &&& (((1 : Int32) <<< (v2 &&& 31)) ^^^ (-1))))).bind fun z6 => f_X3_addPrime_L41 w1 K fu (v2 + 1) z6))
def f_X3_addPrime (a0 : Int32) (g_k : Int32) (g_v : Int32) (g_p : List Int32) (g_a : List Int32) : Option (Int32 × Int32 × List Int32 × List Int32) := (if 32 ≤ g_k then f_X3_addPrime_L41 a0 (fun k8 => some (g_k, (g_v ||| a0), g_p, k8)) tFU 0 g_a else (tst g_p g_k a0).bind fun z9 => f_X3_addPrime_L41 a0 (fun k11 => some ((g_k + 1), (g_v ||| a0), z9, k11)) tFU 0 g_a)
set_option maxRecDepth 20000 in
set_option maxHeartbeats 4000000 in
theorem ev_X3_addPrime_L41 {l : Launch} {E : tEn} {cr : Value} {tl : tHp}  {x_hs : Int32} {s_n : Int32} {s_sp : Int64} {s_sb : Int64} {s_sc : Int32} {s_f : List Int64} {s_st : List Int32} {v_n : Int32} {v_sp : Int64} {v_sb : Int64} {v_sc : Int32} {v_f : List Int64} {v_st : List Int32} {h_k : Int32} {h_s : List Int32} {h_c : List Int64} {g_k : Int32} {g_v : Int32} {g_p : List Int32} {g_t : List Int32} {c_k : Int32} {c_t : List Int32} {c_p : List Int32} {i_l : Int32} {i_n : Int32} {i_f : Int64} {i_p : Int32} {i_o : Int32} {i_b : List Int32} {w_l : Int32} {w_s : List Int32} {x_e : List Int32} {x_l : List Int32} {w1 : Int32} {K : List Int32 → Option (Int32 × Int32 × List Int32 × List Int32)} (hK : ∀  (g_a : List Int32) (res : Int32 × Int32 × List Int32 × List Int32), K g_a = some res → tG l E RX3 cX3_addPrime 3 none false 2 (fun r h' => r = none ∧ h' = encX x_hs s_n s_sp s_sb s_sc s_f s_st v_n v_sp v_sb v_sc v_f v_st h_k h_s h_c (res.1) (res.2.1) (res.2.2.1) (res.2.2.2) g_t c_k c_t c_p i_l i_n i_f i_p i_o i_b w_l w_s x_e x_l cr tl) 0 0 76 [] [] (encX x_hs s_n s_sp s_sb s_sc s_f s_st v_n v_sp v_sb v_sc v_f v_st h_k h_s h_c g_k g_v g_p g_a g_t c_k c_t c_p i_l i_n i_f i_p i_o i_b w_l w_s x_e x_l cr tl)) :
    ∀ (fu : Nat) (v2 : Int32) (g_a : List Int32) (res : Int32 × Int32 × List Int32 × List Int32), f_X3_addPrime_L41 w1 K fu v2 g_a = some res → tG l E RX3 cX3_addPrime 3 none false 2 (fun r h' => r = none ∧ h' = encX x_hs s_n s_sp s_sb s_sc s_f s_st v_n v_sp v_sb v_sc v_f v_st h_k h_s h_c (res.1) (res.2.1) (res.2.2.1) (res.2.2.2) g_t c_k c_t c_p i_l i_n i_f i_p i_o i_b w_l w_s x_e x_l cr tl) 0 0 41 [(0, .ref 10), (1, .int w1), (2, .int v2)] [] (encX x_hs s_n s_sp s_sb s_sc s_f s_st v_n v_sp v_sb v_sc v_f v_st h_k h_s h_c g_k g_v g_p g_a g_t c_k c_t c_p i_l i_n i_f i_p i_o i_b w_l w_s x_e x_l cr tl) := by
  intro fu
  induction fu with
  | zero => intro v2 g_a res hf; exact nomatch (show none = some res from hf)
  | succ fu ih =>
    intro v2 g_a res hf
    rw [f_X3_addPrime_L41] at hf
    refine g_iload_n 2 (q := 42) dX3_addPrime_41 rfl rfl ?_
    refine g_iconst (q := 43) (v := 5) dX3_addPrime_42 rfl rfl ?_
    refine g_icmp_ge (t := 76) (q := 46) dX3_addPrime_43 (by decide) rfl (fun c2 => ?_) (fun c2 => ?_)
    · rw [if_pos c2] at hf
      refine g_ls [] rfl ?_
      exact hK _ _ hf
    · rw [if_neg c2] at hf
      refine g_iload_n 1 (q := 47) dX3_addPrime_46 rfl rfl ?_
      refine g_iload_n 2 (q := 48) dX3_addPrime_47 rfl rfl ?_
      refine g_callS (k2 := 0) (n2 := 0) (q := 51) (as := [.int w1, .int v2]) (st := []) (st1 := [.int (f_X7_hasVariable w1 v2)]) tm_X7_hasVariable ml_X3_50 ts_X7_hasVariable dX3_addPrime_48 rfl ev_X7_hasVariable rfl rfl (Nat.le_of_ble_eq_true rfl) (by decide) rfl rfl (Or.inl rfl) rfl ?_
      refine g_if_eq (t := 70) (q := 54) dX3_addPrime_51 (by decide) rfl (fun c3 => ?_) (fun c3 => ?_)
      · rw [if_pos c3] at hf
        refine g_iinc 2 (q := 73) (v := (v2 + 1)) (L' := [(0, .ref 10), (1, .int w1), (2, .int (v2 + 1))]) dX3_addPrime_70 rfl rfl rfl (by decide) rfl ?_
        refine g_goto (t := 41) dX3_addPrime_73 (by decide) ?_
        refine g_ls [0, 1, 2] rfl ?_
        exact ih _ _ _ hf
      · rw [if_neg c3] at hf
        refine g_aload_n 0 (q := 55) dX3_addPrime_54 rfl rfl ?_
        refine g_get (q := 58) fl_X3_22 dX3_addPrime_55 rfl rfl rfl ?_
        refine g_iload_n 2 (q := 59) dX3_addPrime_58 rfl rfl ?_
        refine g_dup2 (q := 60) dX3_addPrime_59 rfl rfl rfl ?_
        obtain ⟨r4, e5, hf⟩ := Option.bind_eq_some_iff.mp hf
        refine g_iaload (q := 61) dX3_addPrime_60 rfl rfl e5 ?_
        refine g_iload_n 1 (q := 62) dX3_addPrime_61 rfl rfl ?_
        refine g_iconst (q := 63) (v := 1) dX3_addPrime_62 rfl rfl ?_
        refine g_iload_n 2 (q := 64) dX3_addPrime_63 rfl rfl ?_
        refine g_ishl (q := 65) dX3_addPrime_64 rfl ?_
        refine g_iconst (q := 66) (v := (-1)) dX3_addPrime_65 rfl rfl ?_
        refine g_ixor (q := 67) dX3_addPrime_66 rfl ?_
        refine g_iand (q := 68) dX3_addPrime_67 rfl ?_
        refine g_ior (q := 69) dX3_addPrime_68 rfl ?_
        obtain ⟨z6, e7, hf⟩ := Option.bind_eq_some_iff.mp hf
        refine g_iastore (q := 70) (h' := encX x_hs s_n s_sp s_sb s_sc s_f s_st v_n v_sp v_sb v_sc v_f v_st h_k h_s h_c g_k g_v g_p z6 g_t c_k c_t c_p i_l i_n i_f i_p i_o i_b w_l w_s x_e x_l cr tl) dX3_addPrime_69 rfl rfl e7 rfl ?_
        refine g_iinc 2 (q := 73) (v := (v2 + 1)) (L' := [(0, .ref 10), (1, .int w1), (2, .int (v2 + 1))]) dX3_addPrime_70 rfl rfl rfl (by decide) rfl ?_
        refine g_goto (t := 41) dX3_addPrime_73 (by decide) ?_
        refine g_ls [0, 1, 2] rfl ?_
        exact ih _ _ _ hf
set_option maxRecDepth 20000 in
set_option maxHeartbeats 4000000 in
theorem ev_X3_addPrime {l : Launch} {E : tEn} {cr : Value} {tl : tHp} {x_hs : Int32} {s_n : Int32} {s_sp : Int64} {s_sb : Int64} {s_sc : Int32} {s_f : List Int64} {s_st : List Int32} {v_n : Int32} {v_sp : Int64} {v_sb : Int64} {v_sc : Int32} {v_f : List Int64} {v_st : List Int32} {h_k : Int32} {h_s : List Int32} {h_c : List Int64} {g_k : Int32} {g_v : Int32} {g_p : List Int32} {g_a : List Int32} {g_t : List Int32} {c_k : Int32} {c_t : List Int32} {c_p : List Int32} {i_l : Int32} {i_n : Int32} {i_f : Int64} {i_p : Int32} {i_o : Int32} {i_b : List Int32} {w_l : Int32} {w_s : List Int32} {x_e : List Int32} {x_l : List Int32} {a0 : Int32} {res : Int32 × Int32 × List Int32 × List Int32} (hf : f_X3_addPrime a0 g_k g_v g_p g_a = some res) : tEv l E yX3_addPrime cX3_addPrime 3 none 2 0 0 [.ref 10, .int a0] (encX x_hs s_n s_sp s_sb s_sc s_f s_st v_n v_sp v_sb v_sc v_f v_st h_k h_s h_c g_k g_v g_p g_a g_t c_k c_t c_p i_l i_n i_f i_p i_o i_b w_l w_s x_e x_l cr tl) (fun r h' => r = none ∧ h' = encX x_hs s_n s_sp s_sb s_sc s_f s_st v_n v_sp v_sb v_sc v_f v_st h_k h_s h_c (res.1) (res.2.1) (res.2.2.1) (res.2.2.2) g_t c_k c_t c_p i_l i_n i_f i_p i_o i_b w_l w_s x_e x_l cr tl) := by
  refine tEv.of (own := RX3) (ini := false) (L := [(0, .ref 10), (1, .int a0)]) (by decide +kernel) rfl (fun h9 => nomatch h9) rfl (Nat.le_of_ble_eq_true rfl) ?_
  rw [f_X3_addPrime] at hf
  refine g_aload_n 0 (q := 1) dX3_addPrime_0 rfl rfl ?_
  refine g_get (q := 4) fl_X3_15 dX3_addPrime_1 rfl rfl rfl ?_
  refine g_bipush (q := 6) (v := 32) dX3_addPrime_4 rfl rfl ?_
  refine g_icmp_ge (t := 29) (q := 9) dX3_addPrime_6 (by decide) rfl (fun c1 => ?_) (fun c1 => ?_)
  · rw [if_pos c1] at hf
    refine g_aload_n 0 (q := 30) dX3_addPrime_29 rfl rfl ?_
    refine g_dup (q := 31) dX3_addPrime_30 rfl rfl ?_
    refine g_get (q := 34) fl_X3_19 dX3_addPrime_31 rfl rfl rfl ?_
    refine g_iload_n 1 (q := 35) dX3_addPrime_34 rfl rfl ?_
    refine g_ior (q := 36) dX3_addPrime_35 rfl ?_
    refine g_put (q := 39) (h' := encX x_hs s_n s_sp s_sb s_sc s_f s_st v_n v_sp v_sb v_sc v_f v_st h_k h_s h_c g_k (g_v ||| a0) g_p g_a g_t c_k c_t c_p i_l i_n i_f i_p i_o i_b w_l w_s x_e x_l cr tl) fp_X3_19 dX3_addPrime_36 rfl rfl (Nat.le_of_ble_eq_true rfl) (fun _ => ⟨rfl, rfl⟩) rfl ?_
    refine g_iconst (q := 40) (v := 0) dX3_addPrime_39 rfl rfl ?_
    refine g_istore_n (q := 41) (L' := [(0, .ref 10), (1, .int a0), (2, .int 0)]) dX3_addPrime_40 rfl (by decide) rfl ?_
    refine g_ls [0, 1, 2] rfl ?_
    refine ev_X3_addPrime_L41 (fun k8 res hf => ?_) tFU _ _ res hf
    have hf := Option.some.inj hf
    subst hf
    exact g_return dX3_addPrime_76 rfl ⟨rfl, rfl⟩
  · rw [if_neg c1] at hf
    refine g_aload_n 0 (q := 10) dX3_addPrime_9 rfl rfl ?_
    refine g_get (q := 13) fl_X3_9 dX3_addPrime_10 rfl rfl rfl ?_
    refine g_aload_n 0 (q := 14) dX3_addPrime_13 rfl rfl ?_
    refine g_get (q := 17) fl_X3_15 dX3_addPrime_14 rfl rfl rfl ?_
    refine g_iload_n 1 (q := 18) dX3_addPrime_17 rfl rfl ?_
    obtain ⟨z9, e10, hf⟩ := Option.bind_eq_some_iff.mp hf
    refine g_iastore (q := 19) (h' := encX x_hs s_n s_sp s_sb s_sc s_f s_st v_n v_sp v_sb v_sc v_f v_st h_k h_s h_c g_k g_v z9 g_a g_t c_k c_t c_p i_l i_n i_f i_p i_o i_b w_l w_s x_e x_l cr tl) dX3_addPrime_18 rfl rfl e10 rfl ?_
    refine g_aload_n 0 (q := 20) dX3_addPrime_19 rfl rfl ?_
    refine g_dup (q := 21) dX3_addPrime_20 rfl rfl ?_
    refine g_get (q := 24) fl_X3_15 dX3_addPrime_21 rfl rfl rfl ?_
    refine g_iconst (q := 25) (v := 1) dX3_addPrime_24 rfl rfl ?_
    refine g_iadd (q := 26) dX3_addPrime_25 rfl ?_
    refine g_put (q := 29) (h' := encX x_hs s_n s_sp s_sb s_sc s_f s_st v_n v_sp v_sb v_sc v_f v_st h_k h_s h_c (g_k + 1) g_v z9 g_a g_t c_k c_t c_p i_l i_n i_f i_p i_o i_b w_l w_s x_e x_l cr tl) fp_X3_15 dX3_addPrime_26 rfl rfl (Nat.le_of_ble_eq_true rfl) (fun _ => ⟨rfl, rfl⟩) rfl ?_
    refine g_aload_n 0 (q := 30) dX3_addPrime_29 rfl rfl ?_
    refine g_dup (q := 31) dX3_addPrime_30 rfl rfl ?_
    refine g_get (q := 34) fl_X3_19 dX3_addPrime_31 rfl rfl rfl ?_
    refine g_iload_n 1 (q := 35) dX3_addPrime_34 rfl rfl ?_
    refine g_ior (q := 36) dX3_addPrime_35 rfl ?_
    refine g_put (q := 39) (h' := encX x_hs s_n s_sp s_sb s_sc s_f s_st v_n v_sp v_sb v_sc v_f v_st h_k h_s h_c (g_k + 1) (g_v ||| a0) z9 g_a g_t c_k c_t c_p i_l i_n i_f i_p i_o i_b w_l w_s x_e x_l cr tl) fp_X3_19 dX3_addPrime_36 rfl rfl (Nat.le_of_ble_eq_true rfl) (fun _ => ⟨rfl, rfl⟩) rfl ?_
    refine g_iconst (q := 40) (v := 0) dX3_addPrime_39 rfl rfl ?_
    refine g_istore_n (q := 41) (L' := [(0, .ref 10), (1, .int a0), (2, .int 0)]) dX3_addPrime_40 rfl (by decide) rfl ?_
    refine g_ls [0, 1, 2] rfl ?_
    refine ev_X3_addPrime_L41 (fun k11 res hf => ?_) tFU _ _ res hf
    have hf := Option.some.inj hf
    subst hf
    exact g_return dX3_addPrime_76 rfl ⟨rfl, rfl⟩
def f_X3_fill_L21 (w1 : Int32) (w2 : Int64) (K : Int32 → Int32 → List Int32 → List Int32 → Option (Int32 × Int32 × List Int32 × List Int32)) : Nat → Int32 → Int32 → Int32 → List Int32 → List Int32 → Option (Int32 × Int32 × List Int32 × List Int32)
  | 0, _, _, _, _, _ => none
  | fu + 1, v4, g_k, g_v, g_p, g_a => (if (f_X7_pointCount w1) ≤ v4 then K  g_k g_v g_p g_a else (if (f_X7_bitAt w2 v4) = 1 then (f_X3_isMinimal w1 w2 v4).bind fun r5 => (if r5 = 0 then f_X3_fill_L21 w1 w2 K fu (v4 + 1) g_k g_v g_p g_a else (f_X3_addPrime v4 g_k g_v g_p g_a).bind fun r8 => f_X3_fill_L21 w1 w2 K fu (v4 + 1) (r8.1) (r8.2.1) (r8.2.2.1) (r8.2.2.2)) else f_X3_fill_L21 w1 w2 K fu (v4 + 1) g_k g_v g_p g_a))
def f_X3_fill (a0 : Int32) (a1 : Int64) (g_k : Int32) (g_v : Int32) (g_p : List Int32) (g_a : List Int32) : Option (Int32 × Int32 × List Int32 × List Int32) := (tfill g_a 0).bind fun z1 => f_X3_fill_L21 a0 a1 (fun k10 k11 k12 k13 => some (k10, k11, k12, k13)) tFU 0 0 0 g_p z1
set_option maxRecDepth 20000 in
set_option maxHeartbeats 4000000 in
theorem ev_X3_fill_L21 {l : Launch} {E : tEn} {cr : Value} {tl : tHp}  {x_hs : Int32} {s_n : Int32} {s_sp : Int64} {s_sb : Int64} {s_sc : Int32} {s_f : List Int64} {s_st : List Int32} {v_n : Int32} {v_sp : Int64} {v_sb : Int64} {v_sc : Int32} {v_f : List Int64} {v_st : List Int32} {h_k : Int32} {h_s : List Int32} {h_c : List Int64} {g_t : List Int32} {c_k : Int32} {c_t : List Int32} {c_p : List Int32} {i_l : Int32} {i_n : Int32} {i_f : Int64} {i_p : Int32} {i_o : Int32} {i_b : List Int32} {w_l : Int32} {w_s : List Int32} {x_e : List Int32} {x_l : List Int32} {w1 : Int32} {w2 : Int64} {K : Int32 → Int32 → List Int32 → List Int32 → Option (Int32 × Int32 × List Int32 × List Int32)} (hK : ∀  (g_k : Int32) (g_v : Int32) (g_p : List Int32) (g_a : List Int32) (res : Int32 × Int32 × List Int32 × List Int32), K g_k g_v g_p g_a = some res → tG l E RX3 cX3_fill 5 none false 3 (fun r h' => r = none ∧ h' = encX x_hs s_n s_sp s_sb s_sc s_f s_st v_n v_sp v_sb v_sc v_f v_st h_k h_s h_c (res.1) (res.2.1) (res.2.2.1) (res.2.2.2) g_t c_k c_t c_p i_l i_n i_f i_p i_o i_b w_l w_s x_e x_l cr tl) 0 0 62 [] [] (encX x_hs s_n s_sp s_sb s_sc s_f s_st v_n v_sp v_sb v_sc v_f v_st h_k h_s h_c g_k g_v g_p g_a g_t c_k c_t c_p i_l i_n i_f i_p i_o i_b w_l w_s x_e x_l cr tl)) :
    ∀ (fu : Nat) (v4 : Int32) (g_k : Int32) (g_v : Int32) (g_p : List Int32) (g_a : List Int32) (res : Int32 × Int32 × List Int32 × List Int32), f_X3_fill_L21 w1 w2 K fu v4 g_k g_v g_p g_a = some res → tG l E RX3 cX3_fill 5 none false 3 (fun r h' => r = none ∧ h' = encX x_hs s_n s_sp s_sb s_sc s_f s_st v_n v_sp v_sb v_sc v_f v_st h_k h_s h_c (res.1) (res.2.1) (res.2.2.1) (res.2.2.2) g_t c_k c_t c_p i_l i_n i_f i_p i_o i_b w_l w_s x_e x_l cr tl) 0 0 21 [(0, .ref 10), (1, .int w1), (2, .long w2), (4, .int v4)] [] (encX x_hs s_n s_sp s_sb s_sc s_f s_st v_n v_sp v_sb v_sc v_f v_st h_k h_s h_c g_k g_v g_p g_a g_t c_k c_t c_p i_l i_n i_f i_p i_o i_b w_l w_s x_e x_l cr tl) := by
  intro fu
  induction fu with
  | zero => intro v4 g_k g_v g_p g_a res hf; exact nomatch (show none = some res from hf)
  | succ fu ih =>
    intro v4 g_k g_v g_p g_a res hf
    rw [f_X3_fill_L21] at hf
    refine g_iload 3 (q := 23) dX3_fill_21 rfl rfl ?_
    refine g_iload_n 1 (q := 24) dX3_fill_23 rfl rfl ?_
    refine g_callS (k2 := 0) (n2 := 0) (q := 27) (as := [.int w1]) (st := [.int v4]) (st1 := [.int (f_X7_pointCount w1), .int v4]) tm_X7_pointCount ml_X3_34 ts_X7_pointCount dX3_fill_24 rfl ev_X7_pointCount rfl rfl (Nat.le_of_ble_eq_true rfl) (by decide) rfl rfl (Or.inl rfl) rfl ?_
    refine g_icmp_ge (t := 62) (q := 30) dX3_fill_27 (by decide) rfl (fun c3 => ?_) (fun c3 => ?_)
    · rw [if_pos c3] at hf
      refine g_ls [] rfl ?_
      exact hK _ _ _ _ _ hf
    · rw [if_neg c3] at hf
      refine g_lload_n 2 (q := 31) dX3_fill_30 rfl rfl ?_
      refine g_iload 3 (q := 33) dX3_fill_31 rfl rfl ?_
      refine g_callS (k2 := 0) (n2 := 0) (q := 36) (as := [.long w2, .int v4]) (st := []) (st1 := [.int (f_X7_bitAt w2 v4)]) tm_X7_bitAt ml_X3_38 ts_X7_bitAt dX3_fill_33 rfl ev_X7_bitAt rfl rfl (Nat.le_of_ble_eq_true rfl) (by decide) rfl rfl (Or.inl rfl) rfl ?_
      refine g_iconst (q := 37) (v := 1) dX3_fill_36 rfl rfl ?_
      refine g_icmp_ne (t := 56) (q := 40) dX3_fill_37 (by decide) rfl (fun c4 => ?_) (fun c4 => ?_)
      · rw [if_neg c4] at hf
        refine g_iinc 3 (q := 59) (v := (v4 + 1)) (L' := [(0, .ref 10), (1, .int w1), (2, .long w2), (4, .int (v4 + 1))]) dX3_fill_56 rfl rfl rfl (by decide) rfl ?_
        refine g_goto (t := 21) dX3_fill_59 (by decide) ?_
        refine g_ls [0, 1, 2, 3] rfl ?_
        exact ih _ _ _ _ _ _ hf
      · rw [if_pos c4] at hf
        refine g_iload_n 1 (q := 41) dX3_fill_40 rfl rfl ?_
        refine g_lload_n 2 (q := 42) dX3_fill_41 rfl rfl ?_
        refine g_iload 3 (q := 44) dX3_fill_42 rfl rfl ?_
        obtain ⟨r5, e6, hf⟩ := Option.bind_eq_some_iff.mp hf
        refine g_callS (k2 := 0) (n2 := 0) (q := 47) (as := [.int w1, .long w2, .int v4]) (st := []) (st1 := [.int r5]) tm_X3_isMinimal ml_X3_42 ts_X3_isMinimal dX3_fill_44 rfl (ev_X3_isMinimal e6) rfl rfl (Nat.le_of_ble_eq_true rfl) (by decide) rfl rfl (Or.inl rfl) rfl ?_
        refine g_if_eq (t := 56) (q := 50) dX3_fill_47 (by decide) rfl (fun c7 => ?_) (fun c7 => ?_)
        · rw [if_pos c7] at hf
          refine g_iinc 3 (q := 59) (v := (v4 + 1)) (L' := [(0, .ref 10), (1, .int w1), (2, .long w2), (4, .int (v4 + 1))]) dX3_fill_56 rfl rfl rfl (by decide) rfl ?_
          refine g_goto (t := 21) dX3_fill_59 (by decide) ?_
          refine g_ls [0, 1, 2, 3] rfl ?_
          exact ih _ _ _ _ _ _ hf
        · rw [if_neg c7] at hf
          refine g_aload_n 0 (q := 51) dX3_fill_50 rfl rfl ?_
          refine g_iload 3 (q := 53) dX3_fill_51 rfl rfl ?_
          obtain ⟨r8, e9, hf⟩ := Option.bind_eq_some_iff.mp hf
          refine g_callV (a := 10) (k2 := 0) (n2 := 0) (q := 56) (as := [.int v4]) (st := []) (st1 := []) tm_X3_addPrime ml_X3_46 ti_X3_addPrime rfl rfl dX3_fill_53 rfl (ev_X3_addPrime e9) rfl rfl (Nat.le_of_ble_eq_true rfl) (by decide) rfl rfl (Or.inl (encX_len.trans encX_len.symm)) rfl ?_
          refine g_iinc 3 (q := 59) (v := (v4 + 1)) (L' := [(0, .ref 10), (1, .int w1), (2, .long w2), (4, .int (v4 + 1))]) dX3_fill_56 rfl rfl rfl (by decide) rfl ?_
          refine g_goto (t := 21) dX3_fill_59 (by decide) ?_
          refine g_ls [0, 1, 2, 3] rfl ?_
          exact ih _ _ _ _ _ _ hf
set_option maxRecDepth 20000 in
set_option maxHeartbeats 4000000 in
theorem ev_X3_fill {l : Launch} {E : tEn} {cr : Value} {tl : tHp} {x_hs : Int32} {s_n : Int32} {s_sp : Int64} {s_sb : Int64} {s_sc : Int32} {s_f : List Int64} {s_st : List Int32} {v_n : Int32} {v_sp : Int64} {v_sb : Int64} {v_sc : Int32} {v_f : List Int64} {v_st : List Int32} {h_k : Int32} {h_s : List Int32} {h_c : List Int64} {g_k : Int32} {g_v : Int32} {g_p : List Int32} {g_a : List Int32} {g_t : List Int32} {c_k : Int32} {c_t : List Int32} {c_p : List Int32} {i_l : Int32} {i_n : Int32} {i_f : Int64} {i_p : Int32} {i_o : Int32} {i_b : List Int32} {w_l : Int32} {w_s : List Int32} {x_e : List Int32} {x_l : List Int32} {a0 : Int32} {a1 : Int64} {res : Int32 × Int32 × List Int32 × List Int32} (hf : f_X3_fill a0 a1 g_k g_v g_p g_a = some res) : tEv l E yX3_fill cX3_fill 5 none 3 0 0 [.ref 10, .int a0, .long a1] (encX x_hs s_n s_sp s_sb s_sc s_f s_st v_n v_sp v_sb v_sc v_f v_st h_k h_s h_c g_k g_v g_p g_a g_t c_k c_t c_p i_l i_n i_f i_p i_o i_b w_l w_s x_e x_l cr tl) (fun r h' => r = none ∧ h' = encX x_hs s_n s_sp s_sb s_sc s_f s_st v_n v_sp v_sb v_sc v_f v_st h_k h_s h_c (res.1) (res.2.1) (res.2.2.1) (res.2.2.2) g_t c_k c_t c_p i_l i_n i_f i_p i_o i_b w_l w_s x_e x_l cr tl) := by
  refine tEv.of (own := RX3) (ini := false) (L := [(0, .ref 10), (1, .int a0), (2, .long a1)]) (by decide +kernel) rfl (fun h9 => nomatch h9) rfl (Nat.le_of_ble_eq_true rfl) ?_
  rw [f_X3_fill] at hf
  refine g_aload_n 0 (q := 1) dX3_fill_0 rfl rfl ?_
  refine g_iconst (q := 2) (v := 0) dX3_fill_1 rfl rfl ?_
  refine g_put (q := 5) (h' := encX x_hs s_n s_sp s_sb s_sc s_f s_st v_n v_sp v_sb v_sc v_f v_st h_k h_s h_c 0 g_v g_p g_a g_t c_k c_t c_p i_l i_n i_f i_p i_o i_b w_l w_s x_e x_l cr tl) fp_X3_15 dX3_fill_2 rfl rfl (Nat.le_of_ble_eq_true rfl) (fun _ => ⟨rfl, rfl⟩) rfl ?_
  refine g_aload_n 0 (q := 6) dX3_fill_5 rfl rfl ?_
  refine g_iconst (q := 7) (v := 0) dX3_fill_6 rfl rfl ?_
  refine g_put (q := 10) (h' := encX x_hs s_n s_sp s_sb s_sc s_f s_st v_n v_sp v_sb v_sc v_f v_st h_k h_s h_c 0 0 g_p g_a g_t c_k c_t c_p i_l i_n i_f i_p i_o i_b w_l w_s x_e x_l cr tl) fp_X3_19 dX3_fill_7 rfl rfl (Nat.le_of_ble_eq_true rfl) (fun _ => ⟨rfl, rfl⟩) rfl ?_
  refine g_aload_n 0 (q := 11) dX3_fill_10 rfl rfl ?_
  refine g_get (q := 14) fl_X3_22 dX3_fill_11 rfl rfl rfl ?_
  refine g_iconst (q := 15) (v := 0) dX3_fill_14 rfl rfl ?_
  obtain ⟨z1, e2, hf⟩ := Option.bind_eq_some_iff.mp hf
  refine g_callS (k2 := 0) (n2 := 0) (q := 18) (as := [.ref 12, .int 0]) (st := []) tm_J7_fill_53178 ml_X3_28 ts_J7_fill_53178 dX3_fill_15 rfl (ev_fillI (a := 12) rfl e2 (h' := encX x_hs s_n s_sp s_sb s_sc s_f s_st v_n v_sp v_sb v_sc v_f v_st h_k h_s h_c 0 0 g_p z1 g_t c_k c_t c_p i_l i_n i_f i_p i_o i_b w_l w_s x_e x_l cr tl) rfl) rfl rfl (Nat.le_of_ble_eq_true rfl) (by decide) rfl rfl (Or.inl (encX_len.trans encX_len.symm)) rfl ?_
  refine g_iconst (q := 19) (v := 0) dX3_fill_18 rfl rfl ?_
  refine g_istore (q := 21) (L' := [(0, .ref 10), (1, .int a0), (2, .long a1), (4, .int 0)]) dX3_fill_19 rfl (by decide) rfl ?_
  refine g_ls [0, 1, 2, 3] rfl ?_
  refine ev_X3_fill_L21 (fun k10 k11 k12 k13 res hf => ?_) tFU _ _ _ _ _ res hf
  have hf := Option.some.inj hf
  subst hf
  exact g_return dX3_fill_62 rfl ⟨rfl, rfl⟩
def f_X7_drawGraph (a0 : Int32) (s_n : Int32) (s_f : List Int64) (g_k : Int32) (g_v : Int32) (g_p : List Int32) (g_a : List Int32) : Option (Int32 × Int32 × Int32 × List Int32 × List Int32) := (f_X7_slotError a0 s_f).bind fun r1 => (if r1 = 0 then (tld s_f a0).bind fun r4 => (f_X7_lowestViolation s_n r4).bind fun r6 => (if r6 = (-1) then (tld s_f a0).bind fun r9 => (f_X3_fill s_n r9 g_k g_v g_p g_a).bind fun r11 => some (0, r11.1, r11.2.1, r11.2.2.1, r11.2.2.2) else some ((-4), g_k, g_v, g_p, g_a)) else some (r1, g_k, g_v, g_p, g_a))
set_option maxRecDepth 20000 in
set_option maxHeartbeats 4000000 in
theorem ev_X7_drawGraph {l : Launch} {E : tEn} {cr : Value} {tl : tHp} {x_hs : Int32} {s_n : Int32} {s_sp : Int64} {s_sb : Int64} {s_sc : Int32} {s_f : List Int64} {s_st : List Int32} {v_n : Int32} {v_sp : Int64} {v_sb : Int64} {v_sc : Int32} {v_f : List Int64} {v_st : List Int32} {h_k : Int32} {h_s : List Int32} {h_c : List Int64} {g_k : Int32} {g_v : Int32} {g_p : List Int32} {g_a : List Int32} {g_t : List Int32} {c_k : Int32} {c_t : List Int32} {c_p : List Int32} {i_l : Int32} {i_n : Int32} {i_f : Int64} {i_p : Int32} {i_o : Int32} {i_b : List Int32} {w_l : Int32} {w_s : List Int32} {x_e : List Int32} {x_l : List Int32} {a0 : Int32} {res : Int32 × Int32 × Int32 × List Int32 × List Int32} (hf : f_X7_drawGraph a0 s_n s_f g_k g_v g_p g_a = some res) : tEv l E yX7_drawGraph cX7_drawGraph 3 (some .int) 5 0 0 [.ref 0, .int a0] (encX x_hs s_n s_sp s_sb s_sc s_f s_st v_n v_sp v_sb v_sc v_f v_st h_k h_s h_c g_k g_v g_p g_a g_t c_k c_t c_p i_l i_n i_f i_p i_o i_b w_l w_s x_e x_l cr tl) (fun r h' => r = some (.int res.1) ∧ h' = encX x_hs s_n s_sp s_sb s_sc s_f s_st v_n v_sp v_sb v_sc v_f v_st h_k h_s h_c (res.2.1) (res.2.2.1) (res.2.2.2.1) (res.2.2.2.2) g_t c_k c_t c_p i_l i_n i_f i_p i_o i_b w_l w_s x_e x_l cr tl) := by
  refine tEv.of (own := RX7) (ini := false) (L := [(0, .ref 0), (1, .int a0)]) (by decide +kernel) rfl (fun h9 => nomatch h9) rfl (Nat.le_of_ble_eq_true rfl) ?_
  rw [f_X7_drawGraph] at hf
  refine g_aload_n 0 (q := 1) dX7_drawGraph_0 rfl rfl ?_
  refine g_iload_n 1 (q := 2) dX7_drawGraph_1 rfl rfl ?_
  obtain ⟨r1, e2, hf⟩ := Option.bind_eq_some_iff.mp hf
  refine g_callV (a := 0) (k2 := 0) (n2 := 0) (q := 5) (as := [.int a0]) (st := []) (st1 := [.int r1]) tm_X7_slotError ml_X7_98 ti_X7_slotError rfl rfl dX7_drawGraph_2 rfl (ev_X7_slotError e2) rfl rfl (Nat.le_of_ble_eq_true rfl) (by decide) rfl rfl (Or.inl rfl) rfl ?_
  refine g_istore_n (q := 6) (L' := [(0, .ref 0), (1, .int a0), (2, .int r1)]) dX7_drawGraph_5 rfl (by decide) rfl ?_
  refine g_iload_n 2 (q := 7) dX7_drawGraph_6 rfl rfl ?_
  refine g_if_eq (t := 12) (q := 10) dX7_drawGraph_7 (by decide) rfl (fun c3 => ?_) (fun c3 => ?_)
  · rw [if_pos c3] at hf
    refine g_aload_n 0 (q := 13) dX7_drawGraph_12 rfl rfl ?_
    refine g_get (q := 16) fl_X7_10 dX7_drawGraph_13 rfl rfl rfl ?_
    refine g_get (q := 19) fl_X7_75 dX7_drawGraph_16 rfl rfl rfl ?_
    refine g_aload_n 0 (q := 20) dX7_drawGraph_19 rfl rfl ?_
    refine g_get (q := 23) fl_X7_10 dX7_drawGraph_20 rfl rfl rfl ?_
    refine g_get (q := 26) fl_X7_102 dX7_drawGraph_23 rfl rfl rfl ?_
    refine g_iload_n 1 (q := 27) dX7_drawGraph_26 rfl rfl ?_
    obtain ⟨r4, e5, hf⟩ := Option.bind_eq_some_iff.mp hf
    refine g_laload (q := 28) dX7_drawGraph_27 rfl rfl e5 ?_
    obtain ⟨r6, e7, hf⟩ := Option.bind_eq_some_iff.mp hf
    refine g_callS (k2 := 0) (n2 := 0) (q := 31) (as := [.int s_n, .long r4]) (st := []) (st1 := [.int r6]) tm_X7_lowestViolation ml_X7_122 ts_X7_lowestViolation dX7_drawGraph_28 rfl (ev_X7_lowestViolation e7) rfl rfl (Nat.le_of_ble_eq_true rfl) (by decide) rfl rfl (Or.inl rfl) rfl ?_
    refine g_iconst (q := 32) (v := (-1)) dX7_drawGraph_31 rfl rfl ?_
    refine g_icmp_eq (t := 38) (q := 35) dX7_drawGraph_32 (by decide) rfl (fun c8 => ?_) (fun c8 => ?_)
    · rw [if_pos c8] at hf
      refine g_aload_n 0 (q := 39) dX7_drawGraph_38 rfl rfl ?_
      refine g_get (q := 42) fl_X7_33 dX7_drawGraph_39 rfl rfl rfl ?_
      refine g_aload_n 0 (q := 43) dX7_drawGraph_42 rfl rfl ?_
      refine g_get (q := 46) fl_X7_10 dX7_drawGraph_43 rfl rfl rfl ?_
      refine g_get (q := 49) fl_X7_75 dX7_drawGraph_46 rfl rfl rfl ?_
      refine g_aload_n 0 (q := 50) dX7_drawGraph_49 rfl rfl ?_
      refine g_get (q := 53) fl_X7_10 dX7_drawGraph_50 rfl rfl rfl ?_
      refine g_get (q := 56) fl_X7_102 dX7_drawGraph_53 rfl rfl rfl ?_
      refine g_iload_n 1 (q := 57) dX7_drawGraph_56 rfl rfl ?_
      obtain ⟨r9, e10, hf⟩ := Option.bind_eq_some_iff.mp hf
      refine g_laload (q := 58) dX7_drawGraph_57 rfl rfl e10 ?_
      obtain ⟨r11, e12, hf⟩ := Option.bind_eq_some_iff.mp hf
      refine g_callV (a := 10) (k2 := 0) (n2 := 0) (q := 61) (as := [.int s_n, .long r9]) (st := []) (st1 := []) tm_X3_fill ml_X7_287 ti_X3_fill rfl rfl dX7_drawGraph_58 rfl (ev_X3_fill e12) rfl rfl (Nat.le_of_ble_eq_true rfl) (by decide) rfl rfl (Or.inl (encX_len.trans encX_len.symm)) rfl ?_
      refine g_iconst (q := 62) (v := 0) dX7_drawGraph_61 rfl rfl ?_
      have hf := Option.some.inj hf
      subst hf
      exact g_ireturn dX7_drawGraph_62 rfl ⟨rfl, rfl⟩
    · rw [if_neg c8] at hf
      refine g_bipush (q := 37) (v := (-4)) dX7_drawGraph_35 rfl rfl ?_
      have hf := Option.some.inj hf
      subst hf
      exact g_ireturn dX7_drawGraph_37 rfl ⟨rfl, rfl⟩
  · rw [if_neg c3] at hf
    refine g_iload_n 2 (q := 11) dX7_drawGraph_10 rfl rfl ?_
    have hf := Option.some.inj hf
    subst hf
    exact g_ireturn dX7_drawGraph_11 rfl ⟨rfl, rfl⟩
def f_X7_primeImplicants (a0 : Int32) (s_n : Int32) (s_f : List Int64) (g_k : Int32) (g_v : Int32) (g_p : List Int32) (g_a : List Int32) : Option (Int32 × Int32 × Int32 × List Int32 × List Int32) := (f_X7_drawGraph a0 s_n s_f g_k g_v g_p g_a).bind fun r1 => (if r1.1 = 0 then some ((r1.2.1), r1.2.1, r1.2.2.1, r1.2.2.2.1, r1.2.2.2.2) else some (r1.1, r1.2.1, r1.2.2.1, r1.2.2.2.1, r1.2.2.2.2))
set_option maxRecDepth 20000 in
set_option maxHeartbeats 4000000 in
theorem ev_X7_primeImplicants {l : Launch} {E : tEn} {cr : Value} {tl : tHp} {x_hs : Int32} {s_n : Int32} {s_sp : Int64} {s_sb : Int64} {s_sc : Int32} {s_f : List Int64} {s_st : List Int32} {v_n : Int32} {v_sp : Int64} {v_sb : Int64} {v_sc : Int32} {v_f : List Int64} {v_st : List Int32} {h_k : Int32} {h_s : List Int32} {h_c : List Int64} {g_k : Int32} {g_v : Int32} {g_p : List Int32} {g_a : List Int32} {g_t : List Int32} {c_k : Int32} {c_t : List Int32} {c_p : List Int32} {i_l : Int32} {i_n : Int32} {i_f : Int64} {i_p : Int32} {i_o : Int32} {i_b : List Int32} {w_l : Int32} {w_s : List Int32} {x_e : List Int32} {x_l : List Int32} {a0 : Int32} {res : Int32 × Int32 × Int32 × List Int32 × List Int32} (hf : f_X7_primeImplicants a0 s_n s_f g_k g_v g_p g_a = some res) : tEv l E yX7_primeImplicants cX7_primeImplicants 3 (some .int) 6 0 0 [.ref 0, .int a0] (encX x_hs s_n s_sp s_sb s_sc s_f s_st v_n v_sp v_sb v_sc v_f v_st h_k h_s h_c g_k g_v g_p g_a g_t c_k c_t c_p i_l i_n i_f i_p i_o i_b w_l w_s x_e x_l cr tl) (fun r h' => r = some (.int res.1) ∧ h' = encX x_hs s_n s_sp s_sb s_sc s_f s_st v_n v_sp v_sb v_sc v_f v_st h_k h_s h_c (res.2.1) (res.2.2.1) (res.2.2.2.1) (res.2.2.2.2) g_t c_k c_t c_p i_l i_n i_f i_p i_o i_b w_l w_s x_e x_l cr tl) := by
  refine tEv.of (own := RX7) (ini := false) (L := [(0, .ref 0), (1, .int a0)]) (by decide +kernel) rfl (fun h9 => nomatch h9) rfl (Nat.le_of_ble_eq_true rfl) ?_
  rw [f_X7_primeImplicants] at hf
  refine g_aload_n 0 (q := 1) dX7_primeImplicants_0 rfl rfl ?_
  refine g_iload_n 1 (q := 2) dX7_primeImplicants_1 rfl rfl ?_
  obtain ⟨r1, e2, hf⟩ := Option.bind_eq_some_iff.mp hf
  refine g_callV (a := 0) (k2 := 0) (n2 := 0) (q := 5) (as := [.int a0]) (st := []) (st1 := [.int r1.1]) tm_X7_drawGraph ml_X7_125 ti_X7_drawGraph rfl rfl dX7_primeImplicants_2 rfl (ev_X7_drawGraph e2) rfl rfl (Nat.le_of_ble_eq_true rfl) (by decide) rfl rfl (Or.inl (encX_len.trans encX_len.symm)) rfl ?_
  refine g_istore_n (q := 6) (L' := [(0, .ref 0), (1, .int a0), (2, .int r1.1)]) dX7_primeImplicants_5 rfl (by decide) rfl ?_
  refine g_iload_n 2 (q := 7) dX7_primeImplicants_6 rfl rfl ?_
  refine g_if_eq (t := 14) (q := 10) dX7_primeImplicants_7 (by decide) rfl (fun c3 => ?_) (fun c3 => ?_)
  · rw [if_pos c3] at hf
    refine g_aload_n 0 (q := 15) dX7_primeImplicants_14 rfl rfl ?_
    refine g_get (q := 18) fl_X7_33 dX7_primeImplicants_15 rfl rfl rfl ?_
    refine g_get (q := 21) fl_X7_128 dX7_primeImplicants_18 rfl rfl rfl ?_
    have hf := Option.some.inj hf
    subst hf
    exact g_ireturn dX7_primeImplicants_21 rfl ⟨rfl, rfl⟩
  · rw [if_neg c3] at hf
    refine g_iload_n 2 (q := 11) dX7_primeImplicants_10 rfl rfl ?_
    refine g_goto (t := 21) dX7_primeImplicants_11 (by decide) ?_
    have hf := Option.some.inj hf
    subst hf
    exact g_ireturn dX7_primeImplicants_21 rfl ⟨rfl, rfl⟩
