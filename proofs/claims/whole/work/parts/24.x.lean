/-! written by wip/whole/main.py out of the bytecode: a pure function for each method, and its contract -/
def f_X7_runSteps_L4 (s_n : Int32) (s_sc : Int32) (s_st : List Int32) (K : Int32 → List Int64 → Int32 → List Int32 → List Int64 → Option (Int32 × List Int64 × Int32 × List Int32 × List Int64)) : Nat → Int32 → Int32 → List Int64 → Int32 → List Int32 → List Int64 → Option (Int32 × List Int64 × Int32 × List Int32 × List Int64)
  | 0, _, _, _, _, _, _ => none
  | fu + 1, v1, v2, s_f, h_k, h_s, h_c => (if s_sc ≤ v2 then K v1 s_f h_k h_s h_c else (f_X7_runStep (v2 * 4) s_n s_f s_st h_k h_s h_c).bind fun r2 => (if r2.1 < 0 then f_X7_runSteps_L4 s_n s_sc s_st K fu v1 (v2 + 1) (r2.2.1) (r2.2.2.1) (r2.2.2.2.1) (r2.2.2.2.2) else f_X7_runSteps_L4 s_n s_sc s_st K fu (v1 + 1) (v2 + 1) (r2.2.1) (r2.2.2.1) (r2.2.2.2.1) (r2.2.2.2.2)))
def f_X7_runSteps  (s_n : Int32) (s_sc : Int32) (s_f : List Int64) (s_st : List Int32) (h_k : Int32) (h_s : List Int32) (h_c : List Int64) : Option (Int32 × List Int64 × Int32 × List Int32 × List Int64) := f_X7_runSteps_L4 s_n s_sc s_st (fun y5 k6 k7 k8 k9 => some (y5, k6, k7, k8, k9)) tFU 0 0 s_f h_k h_s h_c
set_option maxRecDepth 20000 in
set_option maxHeartbeats 4000000 in
theorem ev_X7_runSteps_L4 {l : Launch} {E : tEn} {cr : Value} {tl : tHp}  {x_hs : Int32} {s_n : Int32} {s_sp : Int64} {s_sb : Int64} {s_sc : Int32} {s_st : List Int32} {v_n : Int32} {v_sp : Int64} {v_sb : Int64} {v_sc : Int32} {v_f : List Int64} {v_st : List Int32} {g_k : Int32} {g_v : Int32} {g_p : List Int32} {g_a : List Int32} {g_t : List Int32} {c_k : Int32} {c_t : List Int32} {c_p : List Int32} {i_l : Int32} {i_n : Int32} {i_f : Int64} {i_p : Int32} {i_o : Int32} {i_b : List Int32} {w_l : Int32} {w_s : List Int32} {x_e : List Int32} {x_l : List Int32}  {K : Int32 → List Int64 → Int32 → List Int32 → List Int64 → Option (Int32 × List Int64 × Int32 × List Int32 × List Int64)} (hK : ∀ (v1 : Int32) (s_f : List Int64) (h_k : Int32) (h_s : List Int32) (h_c : List Int64) (res : Int32 × List Int64 × Int32 × List Int32 × List Int64), K v1 s_f h_k h_s h_c = some res → tG l E RX7 cX7_runSteps 3 (some .int) false 6 (fun r h' => r = some (.int res.1) ∧ h' = encX x_hs s_n s_sp s_sb s_sc (res.2.1) s_st v_n v_sp v_sb v_sc v_f v_st (res.2.2.1) (res.2.2.2.1) (res.2.2.2.2) g_k g_v g_p g_a g_t c_k c_t c_p i_l i_n i_f i_p i_o i_b w_l w_s x_e x_l cr tl) 0 0 34 [(1, .int v1)] [] (encX x_hs s_n s_sp s_sb s_sc s_f s_st v_n v_sp v_sb v_sc v_f v_st h_k h_s h_c g_k g_v g_p g_a g_t c_k c_t c_p i_l i_n i_f i_p i_o i_b w_l w_s x_e x_l cr tl)) :
    ∀ (fu : Nat) (v1 : Int32) (v2 : Int32) (s_f : List Int64) (h_k : Int32) (h_s : List Int32) (h_c : List Int64) (res : Int32 × List Int64 × Int32 × List Int32 × List Int64), f_X7_runSteps_L4 s_n s_sc s_st K fu v1 v2 s_f h_k h_s h_c = some res → tG l E RX7 cX7_runSteps 3 (some .int) false 6 (fun r h' => r = some (.int res.1) ∧ h' = encX x_hs s_n s_sp s_sb s_sc (res.2.1) s_st v_n v_sp v_sb v_sc v_f v_st (res.2.2.1) (res.2.2.2.1) (res.2.2.2.2) g_k g_v g_p g_a g_t c_k c_t c_p i_l i_n i_f i_p i_o i_b w_l w_s x_e x_l cr tl) 0 0 4 [(0, .ref 0), (1, .int v1), (2, .int v2)] [] (encX x_hs s_n s_sp s_sb s_sc s_f s_st v_n v_sp v_sb v_sc v_f v_st h_k h_s h_c g_k g_v g_p g_a g_t c_k c_t c_p i_l i_n i_f i_p i_o i_b w_l w_s x_e x_l cr tl) := by
  intro fu
  induction fu with
  | zero => intro v1 v2 s_f h_k h_s h_c res hf; exact nomatch (show none = some res from hf)
  | succ fu ih =>
    intro v1 v2 s_f h_k h_s h_c res hf
    rw [f_X7_runSteps_L4] at hf
    refine g_iload_n 2 (q := 5) dX7_runSteps_4 rfl rfl ?_
    refine g_aload_n 0 (q := 6) dX7_runSteps_5 rfl rfl ?_
    refine g_get (q := 9) fl_X7_10 dX7_runSteps_6 rfl rfl rfl ?_
    refine g_get (q := 12) fl_X7_260 dX7_runSteps_9 rfl rfl rfl ?_
    refine g_icmp_ge (t := 34) (q := 15) dX7_runSteps_12 (by decide) rfl (fun c1 => ?_) (fun c1 => ?_)
    · rw [if_pos c1] at hf
      refine g_ls [1] rfl ?_
      exact hK _ _ _ _ _ _ hf
    · rw [if_neg c1] at hf
      refine g_aload_n 0 (q := 16) dX7_runSteps_15 rfl rfl ?_
      refine g_iload_n 2 (q := 17) dX7_runSteps_16 rfl rfl ?_
      refine g_iconst (q := 18) (v := 4) dX7_runSteps_17 rfl rfl ?_
      refine g_imul (q := 19) dX7_runSteps_18 rfl ?_
      obtain ⟨r2, e3, hf⟩ := Option.bind_eq_some_iff.mp hf
      refine g_callV (a := 0) (k2 := 0) (n2 := 0) (q := 22) (as := [.int (v2 * 4)]) (st := []) (st1 := [.int r2.1]) tm_X7_runStep ml_X7_267 ti_X7_runStep rfl rfl dX7_runSteps_19 rfl (ev_X7_runStep e3) rfl rfl (Nat.le_of_ble_eq_true rfl) (by decide) rfl rfl (Or.inl (encX_len.trans encX_len.symm)) rfl ?_
      refine g_if_lt (t := 28) (q := 25) dX7_runSteps_22 (by decide) rfl (fun c4 => ?_) (fun c4 => ?_)
      · rw [if_pos c4] at hf
        refine g_iinc 2 (q := 31) (v := (v2 + 1)) (L' := [(0, .ref 0), (1, .int v1), (2, .int (v2 + 1))]) dX7_runSteps_28 rfl rfl rfl (by decide) rfl ?_
        refine g_goto (t := 4) dX7_runSteps_31 (by decide) ?_
        refine g_ls [0, 1, 2] rfl ?_
        exact ih _ _ _ _ _ _ _ hf
      · rw [if_neg c4] at hf
        refine g_iinc 1 (q := 28) (v := (v1 + 1)) (L' := [(0, .ref 0), (1, .int (v1 + 1)), (2, .int v2)]) dX7_runSteps_25 rfl rfl rfl (by decide) rfl ?_
        refine g_iinc 2 (q := 31) (v := (v2 + 1)) (L' := [(0, .ref 0), (1, .int (v1 + 1)), (2, .int (v2 + 1))]) dX7_runSteps_28 rfl rfl rfl (by decide) rfl ?_
        refine g_goto (t := 4) dX7_runSteps_31 (by decide) ?_
        refine g_ls [0, 1, 2] rfl ?_
        exact ih _ _ _ _ _ _ _ hf
set_option maxRecDepth 20000 in
set_option maxHeartbeats 4000000 in
theorem ev_X7_runSteps {l : Launch} {E : tEn} {cr : Value} {tl : tHp} {x_hs : Int32} {s_n : Int32} {s_sp : Int64} {s_sb : Int64} {s_sc : Int32} {s_f : List Int64} {s_st : List Int32} {v_n : Int32} {v_sp : Int64} {v_sb : Int64} {v_sc : Int32} {v_f : List Int64} {v_st : List Int32} {h_k : Int32} {h_s : List Int32} {h_c : List Int64} {g_k : Int32} {g_v : Int32} {g_p : List Int32} {g_a : List Int32} {g_t : List Int32} {c_k : Int32} {c_t : List Int32} {c_p : List Int32} {i_l : Int32} {i_n : Int32} {i_f : Int64} {i_p : Int32} {i_o : Int32} {i_b : List Int32} {w_l : Int32} {w_s : List Int32} {x_e : List Int32} {x_l : List Int32}  {res : Int32 × List Int64 × Int32 × List Int32 × List Int64} (hf : f_X7_runSteps s_n s_sc s_f s_st h_k h_s h_c = some res) : tEv l E yX7_runSteps cX7_runSteps 3 (some .int) 6 0 0 [.ref 0] (encX x_hs s_n s_sp s_sb s_sc s_f s_st v_n v_sp v_sb v_sc v_f v_st h_k h_s h_c g_k g_v g_p g_a g_t c_k c_t c_p i_l i_n i_f i_p i_o i_b w_l w_s x_e x_l cr tl) (fun r h' => r = some (.int res.1) ∧ h' = encX x_hs s_n s_sp s_sb s_sc (res.2.1) s_st v_n v_sp v_sb v_sc v_f v_st (res.2.2.1) (res.2.2.2.1) (res.2.2.2.2) g_k g_v g_p g_a g_t c_k c_t c_p i_l i_n i_f i_p i_o i_b w_l w_s x_e x_l cr tl) := by
  refine tEv.of (own := RX7) (ini := false) (L := [(0, .ref 0)]) (by decide +kernel) rfl (fun h9 => nomatch h9) rfl (Nat.le_of_ble_eq_true rfl) ?_
  rw [f_X7_runSteps] at hf
  refine g_iconst (q := 1) (v := 0) dX7_runSteps_0 rfl rfl ?_
  refine g_istore_n (q := 2) (L' := [(0, .ref 0), (1, .int 0)]) dX7_runSteps_1 rfl (by decide) rfl ?_
  refine g_iconst (q := 3) (v := 0) dX7_runSteps_2 rfl rfl ?_
  refine g_istore_n (q := 4) (L' := [(0, .ref 0), (1, .int 0), (2, .int 0)]) dX7_runSteps_3 rfl (by decide) rfl ?_
  refine g_ls [0, 1, 2] rfl ?_
  refine ev_X7_runSteps_L4 (fun y5 k6 k7 k8 k9 res hf => ?_) tFU _ _ _ _ _ _ res hf
  refine g_iload_n 0 (q := 35) dX7_runSteps_34 rfl rfl ?_
  have hf := Option.some.inj hf
  subst hf
  exact g_ireturn dX7_runSteps_35 rfl ⟨rfl, rfl⟩
def f_X7_undo  (s_f : List Int64) (h_k : Int32) (h_s : List Int32) (h_c : List Int64) : Option (Int32 × List Int64 × Int32) := (if (f_X7_isIndex (h_k - 1) 10) = 0 then some ((-7), s_f, h_k) else (tld h_s (h_k - 1)).bind fun r2 => (if (f_X7_isSlot r2) = 0 then some ((-7), s_f, h_k) else (tld h_s (h_k - 1)).bind fun r5 => (tld h_c (h_k - 1)).bind fun r7 => (tst s_f r5 r7).bind fun z9 => some (r5, z9, (h_k - 1))))
set_option maxRecDepth 20000 in
set_option maxHeartbeats 4000000 in
theorem ev_X7_undo {l : Launch} {E : tEn} {cr : Value} {tl : tHp} {x_hs : Int32} {s_n : Int32} {s_sp : Int64} {s_sb : Int64} {s_sc : Int32} {s_f : List Int64} {s_st : List Int32} {v_n : Int32} {v_sp : Int64} {v_sb : Int64} {v_sc : Int32} {v_f : List Int64} {v_st : List Int32} {h_k : Int32} {h_s : List Int32} {h_c : List Int64} {g_k : Int32} {g_v : Int32} {g_p : List Int32} {g_a : List Int32} {g_t : List Int32} {c_k : Int32} {c_t : List Int32} {c_p : List Int32} {i_l : Int32} {i_n : Int32} {i_f : Int64} {i_p : Int32} {i_o : Int32} {i_b : List Int32} {w_l : Int32} {w_s : List Int32} {x_e : List Int32} {x_l : List Int32}  {res : Int32 × List Int64 × Int32} (hf : f_X7_undo s_f h_k h_s h_c = some res) : tEv l E yX7_undo cX7_undo 3 (some .int) 3 0 0 [.ref 0] (encX x_hs s_n s_sp s_sb s_sc s_f s_st v_n v_sp v_sb v_sc v_f v_st h_k h_s h_c g_k g_v g_p g_a g_t c_k c_t c_p i_l i_n i_f i_p i_o i_b w_l w_s x_e x_l cr tl) (fun r h' => r = some (.int res.1) ∧ h' = encX x_hs s_n s_sp s_sb s_sc (res.2.1) s_st v_n v_sp v_sb v_sc v_f v_st (res.2.2) h_s h_c g_k g_v g_p g_a g_t c_k c_t c_p i_l i_n i_f i_p i_o i_b w_l w_s x_e x_l cr tl) := by
  refine tEv.of (own := RX7) (ini := false) (L := [(0, .ref 0)]) (by decide +kernel) rfl (fun h9 => nomatch h9) rfl (Nat.le_of_ble_eq_true rfl) ?_
  rw [f_X7_undo] at hf
  refine g_aload_n 0 (q := 1) dX7_undo_0 rfl rfl ?_
  refine g_get (q := 4) fl_X7_26 dX7_undo_1 rfl rfl rfl ?_
  refine g_get (q := 7) fl_X7_270 dX7_undo_4 rfl rfl rfl ?_
  refine g_iconst (q := 8) (v := 1) dX7_undo_7 rfl rfl ?_
  refine g_isub (q := 9) dX7_undo_8 rfl ?_
  refine g_istore_n (q := 10) (L' := [(0, .ref 0), (1, .int (h_k - 1))]) dX7_undo_9 rfl (by decide) rfl ?_
  refine g_iload_n 1 (q := 11) dX7_undo_10 rfl rfl ?_
  refine g_bipush (q := 13) (v := 10) dX7_undo_11 rfl rfl ?_
  refine g_callS (k2 := 0) (n2 := 0) (q := 16) (as := [.int (h_k - 1), .int 10]) (st := []) (st1 := [.int (f_X7_isIndex (h_k - 1) 10)]) tm_X7_isIndex ml_X7_140 ts_X7_isIndex dX7_undo_13 rfl ev_X7_isIndex rfl rfl (Nat.le_of_ble_eq_true rfl) (by decide) rfl rfl (Or.inl rfl) rfl ?_
  refine g_if_eq (t := 34) (q := 19) dX7_undo_16 (by decide) rfl (fun c1 => ?_) (fun c1 => ?_)
  · rw [if_pos c1] at hf
    refine g_bipush (q := 36) (v := (-7)) dX7_undo_34 rfl rfl ?_
    have hf := Option.some.inj hf
    subst hf
    exact g_ireturn dX7_undo_36 rfl ⟨rfl, rfl⟩
  · rw [if_neg c1] at hf
    refine g_aload_n 0 (q := 20) dX7_undo_19 rfl rfl ?_
    refine g_get (q := 23) fl_X7_26 dX7_undo_20 rfl rfl rfl ?_
    refine g_get (q := 26) fl_X7_271 dX7_undo_23 rfl rfl rfl ?_
    refine g_iload_n 1 (q := 27) dX7_undo_26 rfl rfl ?_
    obtain ⟨r2, e3, hf⟩ := Option.bind_eq_some_iff.mp hf
    refine g_iaload (q := 28) dX7_undo_27 rfl rfl e3 ?_
    refine g_callS (k2 := 0) (n2 := 0) (q := 31) (as := [.int r2]) (st := []) (st1 := [.int (f_X7_isSlot r2)]) tm_X7_isSlot ml_X7_86 ts_X7_isSlot dX7_undo_28 rfl ev_X7_isSlot rfl rfl (Nat.le_of_ble_eq_true rfl) (by decide) rfl rfl (Or.inl rfl) rfl ?_
    refine g_if_ne (t := 37) (q := 34) dX7_undo_31 (by decide) rfl (fun c4 => ?_) (fun c4 => ?_)
    · rw [if_neg c4] at hf
      refine g_aload_n 0 (q := 38) dX7_undo_37 rfl rfl ?_
      refine g_get (q := 41) fl_X7_26 dX7_undo_38 rfl rfl rfl ?_
      refine g_get (q := 44) fl_X7_271 dX7_undo_41 rfl rfl rfl ?_
      refine g_iload_n 1 (q := 45) dX7_undo_44 rfl rfl ?_
      obtain ⟨r5, e6, hf⟩ := Option.bind_eq_some_iff.mp hf
      refine g_iaload (q := 46) dX7_undo_45 rfl rfl e6 ?_
      refine g_istore_n (q := 47) (L' := [(0, .ref 0), (1, .int (h_k - 1)), (2, .int r5)]) dX7_undo_46 rfl (by decide) rfl ?_
      refine g_aload_n 0 (q := 48) dX7_undo_47 rfl rfl ?_
      refine g_get (q := 51) fl_X7_10 dX7_undo_48 rfl rfl rfl ?_
      refine g_get (q := 54) fl_X7_102 dX7_undo_51 rfl rfl rfl ?_
      refine g_iload_n 2 (q := 55) dX7_undo_54 rfl rfl ?_
      refine g_aload_n 0 (q := 56) dX7_undo_55 rfl rfl ?_
      refine g_get (q := 59) fl_X7_26 dX7_undo_56 rfl rfl rfl ?_
      refine g_get (q := 62) fl_X7_274 dX7_undo_59 rfl rfl rfl ?_
      refine g_iload_n 1 (q := 63) dX7_undo_62 rfl rfl ?_
      obtain ⟨r7, e8, hf⟩ := Option.bind_eq_some_iff.mp hf
      refine g_laload (q := 64) dX7_undo_63 rfl rfl e8 ?_
      obtain ⟨z9, e10, hf⟩ := Option.bind_eq_some_iff.mp hf
      refine g_lastore (q := 65) (h' := encX x_hs s_n s_sp s_sb s_sc z9 s_st v_n v_sp v_sb v_sc v_f v_st h_k h_s h_c g_k g_v g_p g_a g_t c_k c_t c_p i_l i_n i_f i_p i_o i_b w_l w_s x_e x_l cr tl) dX7_undo_64 rfl rfl e10 rfl ?_
      refine g_aload_n 0 (q := 66) dX7_undo_65 rfl rfl ?_
      refine g_get (q := 69) fl_X7_26 dX7_undo_66 rfl rfl rfl ?_
      refine g_iload_n 1 (q := 70) dX7_undo_69 rfl rfl ?_
      refine g_put (q := 73) (h' := encX x_hs s_n s_sp s_sb s_sc z9 s_st v_n v_sp v_sb v_sc v_f v_st (h_k - 1) h_s h_c g_k g_v g_p g_a g_t c_k c_t c_p i_l i_n i_f i_p i_o i_b w_l w_s x_e x_l cr tl) fp_X7_270 dX7_undo_70 rfl rfl (Nat.le_of_ble_eq_true rfl) (fun _ => ⟨rfl, rfl⟩) rfl ?_
      refine g_iload_n 2 (q := 74) dX7_undo_73 rfl rfl ?_
      have hf := Option.some.inj hf
      subst hf
      exact g_ireturn dX7_undo_74 rfl ⟨rfl, rfl⟩
    · rw [if_pos c4] at hf
      refine g_bipush (q := 36) (v := (-7)) dX7_undo_34 rfl rfl ?_
      have hf := Option.some.inj hf
      subst hf
      exact g_ireturn dX7_undo_36 rfl ⟨rfl, rfl⟩
def f_X6_copyFrom_4_1  (s_n : Int32) (s_sp : Int64) (s_sb : Int64) (s_sc : Int32) (s_f : List Int64) (s_st : List Int32) (v_n : Int32) (v_sp : Int64) (v_sb : Int64) (v_sc : Int32) (v_f : List Int64) (v_st : List Int32) : Option (Int32 × Int64 × Int64 × Int32 × List Int64 × List Int32) := (tcpy (0 : Int64) s_f v_f 0 0 8).bind fun z1 => (tcpy (0 : Int32) s_st v_st 0 0 32).bind fun z3 => some (s_n, s_sp, s_sb, s_sc, z1, z3)
set_option maxRecDepth 20000 in
set_option maxHeartbeats 4000000 in
theorem ev_X6_copyFrom_4_1 {l : Launch} {E : tEn} {cr : Value} {tl : tHp} {x_hs : Int32} {s_n : Int32} {s_sp : Int64} {s_sb : Int64} {s_sc : Int32} {s_f : List Int64} {s_st : List Int32} {v_n : Int32} {v_sp : Int64} {v_sb : Int64} {v_sc : Int32} {v_f : List Int64} {v_st : List Int32} {h_k : Int32} {h_s : List Int32} {h_c : List Int64} {g_k : Int32} {g_v : Int32} {g_p : List Int32} {g_a : List Int32} {g_t : List Int32} {c_k : Int32} {c_t : List Int32} {c_p : List Int32} {i_l : Int32} {i_n : Int32} {i_f : Int64} {i_p : Int32} {i_o : Int32} {i_b : List Int32} {w_l : Int32} {w_s : List Int32} {x_e : List Int32} {x_l : List Int32}  {res : Int32 × Int64 × Int64 × Int32 × List Int64 × List Int32} (hf : f_X6_copyFrom_4_1 s_n s_sp s_sb s_sc s_f s_st v_n v_sp v_sb v_sc v_f v_st = some res) : tEv l E yX6_copyFrom cX6_copyFrom 2 none 2 0 0 [.ref 4, .ref 1] (encX x_hs s_n s_sp s_sb s_sc s_f s_st v_n v_sp v_sb v_sc v_f v_st h_k h_s h_c g_k g_v g_p g_a g_t c_k c_t c_p i_l i_n i_f i_p i_o i_b w_l w_s x_e x_l cr tl) (fun r h' => r = none ∧ h' = encX x_hs s_n s_sp s_sb s_sc s_f s_st (res.1) (res.2.1) (res.2.2.1) (res.2.2.2.1) (res.2.2.2.2.1) (res.2.2.2.2.2) h_k h_s h_c g_k g_v g_p g_a g_t c_k c_t c_p i_l i_n i_f i_p i_o i_b w_l w_s x_e x_l cr tl) := by
  refine tEv.of (own := RX6) (ini := false) (L := [(0, .ref 4), (1, .ref 1)]) (by decide +kernel) rfl (fun h9 => nomatch h9) rfl (Nat.le_of_ble_eq_true rfl) ?_
  rw [f_X6_copyFrom_4_1] at hf
  refine g_aload_n 0 (q := 1) dX6_copyFrom_0 rfl rfl ?_
  refine g_aload_n 1 (q := 2) dX6_copyFrom_1 rfl rfl ?_
  refine g_get (q := 5) fl_X6_9 dX6_copyFrom_2 rfl rfl rfl ?_
  refine g_put (q := 8) (h' := encX x_hs s_n s_sp s_sb s_sc s_f s_st s_n v_sp v_sb v_sc v_f v_st h_k h_s h_c g_k g_v g_p g_a g_t c_k c_t c_p i_l i_n i_f i_p i_o i_b w_l w_s x_e x_l cr tl) fp_X6_9 dX6_copyFrom_5 rfl rfl (Nat.le_of_ble_eq_true rfl) (fun _ => ⟨rfl, rfl⟩) rfl ?_
  refine g_aload_n 1 (q := 9) dX6_copyFrom_8 rfl rfl ?_
  refine g_get (q := 12) fl_X6_15 dX6_copyFrom_9 rfl rfl rfl ?_
  refine g_iconst (q := 13) (v := 0) dX6_copyFrom_12 rfl rfl ?_
  refine g_aload_n 0 (q := 14) dX6_copyFrom_13 rfl rfl ?_
  refine g_get (q := 17) fl_X6_15 dX6_copyFrom_14 rfl rfl rfl ?_
  refine g_iconst (q := 18) (v := 0) dX6_copyFrom_17 rfl rfl ?_
  refine g_bipush (q := 20) (v := 8) dX6_copyFrom_18 rfl rfl ?_
  obtain ⟨z1, e2, hf⟩ := Option.bind_eq_some_iff.mp hf
  refine g_copyJ (q := 23) (h' := encX x_hs s_n s_sp s_sb s_sc s_f s_st s_n v_sp v_sb v_sc z1 v_st h_k h_s h_c g_k g_v g_p g_a g_t c_k c_t c_p i_l i_n i_f i_p i_o i_b w_l w_s x_e x_l cr tl) al_X6_41 dX6_copyFrom_20 rfl rfl rfl e2 rfl (by decide) (Nat.le_of_ble_eq_true rfl) ?_
  refine g_aload_n 0 (q := 24) dX6_copyFrom_23 rfl rfl ?_
  refine g_aload_n 1 (q := 25) dX6_copyFrom_24 rfl rfl ?_
  refine g_get (q := 28) fl_X6_19 dX6_copyFrom_25 rfl rfl rfl ?_
  refine g_put (q := 31) (h' := encX x_hs s_n s_sp s_sb s_sc s_f s_st s_n s_sp v_sb v_sc z1 v_st h_k h_s h_c g_k g_v g_p g_a g_t c_k c_t c_p i_l i_n i_f i_p i_o i_b w_l w_s x_e x_l cr tl) fp_X6_19 dX6_copyFrom_28 rfl rfl (Nat.le_of_ble_eq_true rfl) (fun _ => ⟨rfl, rfl⟩) rfl ?_
  refine g_aload_n 0 (q := 32) dX6_copyFrom_31 rfl rfl ?_
  refine g_aload_n 1 (q := 33) dX6_copyFrom_32 rfl rfl ?_
  refine g_get (q := 36) fl_X6_23 dX6_copyFrom_33 rfl rfl rfl ?_
  refine g_put (q := 39) (h' := encX x_hs s_n s_sp s_sb s_sc s_f s_st s_n s_sp s_sb v_sc z1 v_st h_k h_s h_c g_k g_v g_p g_a g_t c_k c_t c_p i_l i_n i_f i_p i_o i_b w_l w_s x_e x_l cr tl) fp_X6_23 dX6_copyFrom_36 rfl rfl (Nat.le_of_ble_eq_true rfl) (fun _ => ⟨rfl, rfl⟩) rfl ?_
  refine g_aload_n 1 (q := 40) dX6_copyFrom_39 rfl rfl ?_
  refine g_get (q := 43) fl_X6_26 dX6_copyFrom_40 rfl rfl rfl ?_
  refine g_iconst (q := 44) (v := 0) dX6_copyFrom_43 rfl rfl ?_
  refine g_aload_n 0 (q := 45) dX6_copyFrom_44 rfl rfl ?_
  refine g_get (q := 48) fl_X6_26 dX6_copyFrom_45 rfl rfl rfl ?_
  refine g_iconst (q := 49) (v := 0) dX6_copyFrom_48 rfl rfl ?_
  refine g_bipush (q := 51) (v := 32) dX6_copyFrom_49 rfl rfl ?_
  obtain ⟨z3, e4, hf⟩ := Option.bind_eq_some_iff.mp hf
  refine g_copyI (q := 54) (h' := encX x_hs s_n s_sp s_sb s_sc s_f s_st s_n s_sp s_sb v_sc z1 z3 h_k h_s h_c g_k g_v g_p g_a g_t c_k c_t c_p i_l i_n i_f i_p i_o i_b w_l w_s x_e x_l cr tl) al_X6_41 dX6_copyFrom_51 rfl rfl rfl e4 rfl (by decide) (Nat.le_of_ble_eq_true rfl) ?_
  refine g_aload_n 0 (q := 55) dX6_copyFrom_54 rfl rfl ?_
  refine g_aload_n 1 (q := 56) dX6_copyFrom_55 rfl rfl ?_
  refine g_get (q := 59) fl_X6_30 dX6_copyFrom_56 rfl rfl rfl ?_
  refine g_put (q := 62) (h' := encX x_hs s_n s_sp s_sb s_sc s_f s_st s_n s_sp s_sb s_sc z1 z3 h_k h_s h_c g_k g_v g_p g_a g_t c_k c_t c_p i_l i_n i_f i_p i_o i_b w_l w_s x_e x_l cr tl) fp_X6_30 dX6_copyFrom_59 rfl rfl (Nat.le_of_ble_eq_true rfl) (fun _ => ⟨rfl, rfl⟩) rfl ?_
  have hf := Option.some.inj hf
  subst hf
  exact g_return dX6_copyFrom_62 rfl ⟨rfl, rfl⟩
def f_X7_save  (x_hs : Int32) (s_n : Int32) (s_sp : Int64) (s_sb : Int64) (s_sc : Int32) (s_f : List Int64) (s_st : List Int32) (v_n : Int32) (v_sp : Int64) (v_sb : Int64) (v_sc : Int32) (v_f : List Int64) (v_st : List Int32) : Option (Int32 × Int32 × Int32 × Int64 × Int64 × Int32 × List Int64 × List Int32) := (f_X6_copyFrom_4_1 s_n s_sp s_sb s_sc s_f s_st v_n v_sp v_sb v_sc v_f v_st).bind fun r1 => (f_X6_usedCount s_f).bind fun r3 => some (r3, 1, r1.1, r1.2.1, r1.2.2.1, r1.2.2.2.1, r1.2.2.2.2.1, r1.2.2.2.2.2)
set_option maxRecDepth 20000 in
set_option maxHeartbeats 4000000 in
theorem ev_X7_save {l : Launch} {E : tEn} {cr : Value} {tl : tHp} {x_hs : Int32} {s_n : Int32} {s_sp : Int64} {s_sb : Int64} {s_sc : Int32} {s_f : List Int64} {s_st : List Int32} {v_n : Int32} {v_sp : Int64} {v_sb : Int64} {v_sc : Int32} {v_f : List Int64} {v_st : List Int32} {h_k : Int32} {h_s : List Int32} {h_c : List Int64} {g_k : Int32} {g_v : Int32} {g_p : List Int32} {g_a : List Int32} {g_t : List Int32} {c_k : Int32} {c_t : List Int32} {c_p : List Int32} {i_l : Int32} {i_n : Int32} {i_f : Int64} {i_p : Int32} {i_o : Int32} {i_b : List Int32} {w_l : Int32} {w_s : List Int32} {x_e : List Int32} {x_l : List Int32}  {res : Int32 × Int32 × Int32 × Int64 × Int64 × Int32 × List Int64 × List Int32} (hf : f_X7_save x_hs s_n s_sp s_sb s_sc s_f s_st v_n v_sp v_sb v_sc v_f v_st = some res) : tEv l E yX7_save cX7_save 1 (some .int) 5 0 0 [.ref 0] (encX x_hs s_n s_sp s_sb s_sc s_f s_st v_n v_sp v_sb v_sc v_f v_st h_k h_s h_c g_k g_v g_p g_a g_t c_k c_t c_p i_l i_n i_f i_p i_o i_b w_l w_s x_e x_l cr tl) (fun r h' => r = some (.int res.1) ∧ h' = encX (res.2.1) s_n s_sp s_sb s_sc s_f s_st (res.2.2.1) (res.2.2.2.1) (res.2.2.2.2.1) (res.2.2.2.2.2.1) (res.2.2.2.2.2.2.1) (res.2.2.2.2.2.2.2) h_k h_s h_c g_k g_v g_p g_a g_t c_k c_t c_p i_l i_n i_f i_p i_o i_b w_l w_s x_e x_l cr tl) := by
  refine tEv.of (own := RX7) (ini := false) (L := [(0, .ref 0)]) (by decide +kernel) rfl (fun h9 => nomatch h9) rfl (Nat.le_of_ble_eq_true rfl) ?_
  rw [f_X7_save] at hf
  refine g_aload_n 0 (q := 1) dX7_save_0 rfl rfl ?_
  refine g_get (q := 4) fl_X7_16 dX7_save_1 rfl rfl rfl ?_
  refine g_aload_n 0 (q := 5) dX7_save_4 rfl rfl ?_
  refine g_get (q := 8) fl_X7_10 dX7_save_5 rfl rfl rfl ?_
  obtain ⟨r1, e2, hf⟩ := Option.bind_eq_some_iff.mp hf
  refine g_callV (a := 4) (k2 := 0) (n2 := 0) (q := 11) (as := [.ref 1]) (st := []) (st1 := []) tm_X6_copyFrom ml_X7_277 ti_X6_copyFrom rfl rfl dX7_save_8 rfl (ev_X6_copyFrom_4_1 e2) rfl rfl (Nat.le_of_ble_eq_true rfl) (by decide) rfl rfl (Or.inl (encX_len.trans encX_len.symm)) rfl ?_
  refine g_aload_n 0 (q := 12) dX7_save_11 rfl rfl ?_
  refine g_iconst (q := 13) (v := 1) dX7_save_12 rfl rfl ?_
  refine g_put (q := 16) (h' := encX 1 s_n s_sp s_sb s_sc s_f s_st (r1.1) (r1.2.1) (r1.2.2.1) (r1.2.2.2.1) (r1.2.2.2.2.1) (r1.2.2.2.2.2) h_k h_s h_c g_k g_v g_p g_a g_t c_k c_t c_p i_l i_n i_f i_p i_o i_b w_l w_s x_e x_l cr tl) fp_X7_19 dX7_save_13 rfl rfl (Nat.le_of_ble_eq_true rfl) (fun _ => ⟨rfl, rfl⟩) rfl ?_
  refine g_aload_n 0 (q := 17) dX7_save_16 rfl rfl ?_
  refine g_get (q := 20) fl_X7_10 dX7_save_17 rfl rfl rfl ?_
  obtain ⟨r3, e4, hf⟩ := Option.bind_eq_some_iff.mp hf
  refine g_callV (a := 1) (k2 := 0) (n2 := 0) (q := 23) (as := []) (st := []) (st1 := [.int r3]) tm_X6_usedCount ml_X7_108 ti_X6_usedCount rfl rfl dX7_save_20 rfl (ev_X6_usedCount e4) rfl rfl (Nat.le_of_ble_eq_true rfl) (by decide) rfl rfl (Or.inl rfl) rfl ?_
  have hf := Option.some.inj hf
  subst hf
  exact g_ireturn dX7_save_23 rfl ⟨rfl, rfl⟩
def f_X6_copyFrom_1_4  (s_n : Int32) (s_sp : Int64) (s_sb : Int64) (s_sc : Int32) (s_f : List Int64) (s_st : List Int32) (v_n : Int32) (v_sp : Int64) (v_sb : Int64) (v_sc : Int32) (v_f : List Int64) (v_st : List Int32) : Option (Int32 × Int64 × Int64 × Int32 × List Int64 × List Int32) := (tcpy (0 : Int64) v_f s_f 0 0 8).bind fun z1 => (tcpy (0 : Int32) v_st s_st 0 0 32).bind fun z3 => some (v_n, v_sp, v_sb, v_sc, z1, z3)
set_option maxRecDepth 20000 in
set_option maxHeartbeats 4000000 in
theorem ev_X6_copyFrom_1_4 {l : Launch} {E : tEn} {cr : Value} {tl : tHp} {x_hs : Int32} {s_n : Int32} {s_sp : Int64} {s_sb : Int64} {s_sc : Int32} {s_f : List Int64} {s_st : List Int32} {v_n : Int32} {v_sp : Int64} {v_sb : Int64} {v_sc : Int32} {v_f : List Int64} {v_st : List Int32} {h_k : Int32} {h_s : List Int32} {h_c : List Int64} {g_k : Int32} {g_v : Int32} {g_p : List Int32} {g_a : List Int32} {g_t : List Int32} {c_k : Int32} {c_t : List Int32} {c_p : List Int32} {i_l : Int32} {i_n : Int32} {i_f : Int64} {i_p : Int32} {i_o : Int32} {i_b : List Int32} {w_l : Int32} {w_s : List Int32} {x_e : List Int32} {x_l : List Int32}  {res : Int32 × Int64 × Int64 × Int32 × List Int64 × List Int32} (hf : f_X6_copyFrom_1_4 s_n s_sp s_sb s_sc s_f s_st v_n v_sp v_sb v_sc v_f v_st = some res) : tEv l E yX6_copyFrom cX6_copyFrom 2 none 2 0 0 [.ref 1, .ref 4] (encX x_hs s_n s_sp s_sb s_sc s_f s_st v_n v_sp v_sb v_sc v_f v_st h_k h_s h_c g_k g_v g_p g_a g_t c_k c_t c_p i_l i_n i_f i_p i_o i_b w_l w_s x_e x_l cr tl) (fun r h' => r = none ∧ h' = encX x_hs (res.1) (res.2.1) (res.2.2.1) (res.2.2.2.1) (res.2.2.2.2.1) (res.2.2.2.2.2) v_n v_sp v_sb v_sc v_f v_st h_k h_s h_c g_k g_v g_p g_a g_t c_k c_t c_p i_l i_n i_f i_p i_o i_b w_l w_s x_e x_l cr tl) := by
  refine tEv.of (own := RX6) (ini := false) (L := [(0, .ref 1), (1, .ref 4)]) (by decide +kernel) rfl (fun h9 => nomatch h9) rfl (Nat.le_of_ble_eq_true rfl) ?_
  rw [f_X6_copyFrom_1_4] at hf
  refine g_aload_n 0 (q := 1) dX6_copyFrom_0 rfl rfl ?_
  refine g_aload_n 1 (q := 2) dX6_copyFrom_1 rfl rfl ?_
  refine g_get (q := 5) fl_X6_9 dX6_copyFrom_2 rfl rfl rfl ?_
  refine g_put (q := 8) (h' := encX x_hs v_n s_sp s_sb s_sc s_f s_st v_n v_sp v_sb v_sc v_f v_st h_k h_s h_c g_k g_v g_p g_a g_t c_k c_t c_p i_l i_n i_f i_p i_o i_b w_l w_s x_e x_l cr tl) fp_X6_9 dX6_copyFrom_5 rfl rfl (Nat.le_of_ble_eq_true rfl) (fun _ => ⟨rfl, rfl⟩) rfl ?_
  refine g_aload_n 1 (q := 9) dX6_copyFrom_8 rfl rfl ?_
  refine g_get (q := 12) fl_X6_15 dX6_copyFrom_9 rfl rfl rfl ?_
  refine g_iconst (q := 13) (v := 0) dX6_copyFrom_12 rfl rfl ?_
  refine g_aload_n 0 (q := 14) dX6_copyFrom_13 rfl rfl ?_
  refine g_get (q := 17) fl_X6_15 dX6_copyFrom_14 rfl rfl rfl ?_
  refine g_iconst (q := 18) (v := 0) dX6_copyFrom_17 rfl rfl ?_
  refine g_bipush (q := 20) (v := 8) dX6_copyFrom_18 rfl rfl ?_
  obtain ⟨z1, e2, hf⟩ := Option.bind_eq_some_iff.mp hf
  refine g_copyJ (q := 23) (h' := encX x_hs v_n s_sp s_sb s_sc z1 s_st v_n v_sp v_sb v_sc v_f v_st h_k h_s h_c g_k g_v g_p g_a g_t c_k c_t c_p i_l i_n i_f i_p i_o i_b w_l w_s x_e x_l cr tl) al_X6_41 dX6_copyFrom_20 rfl rfl rfl e2 rfl (by decide) (Nat.le_of_ble_eq_true rfl) ?_
  refine g_aload_n 0 (q := 24) dX6_copyFrom_23 rfl rfl ?_
  refine g_aload_n 1 (q := 25) dX6_copyFrom_24 rfl rfl ?_
  refine g_get (q := 28) fl_X6_19 dX6_copyFrom_25 rfl rfl rfl ?_
  refine g_put (q := 31) (h' := encX x_hs v_n v_sp s_sb s_sc z1 s_st v_n v_sp v_sb v_sc v_f v_st h_k h_s h_c g_k g_v g_p g_a g_t c_k c_t c_p i_l i_n i_f i_p i_o i_b w_l w_s x_e x_l cr tl) fp_X6_19 dX6_copyFrom_28 rfl rfl (Nat.le_of_ble_eq_true rfl) (fun _ => ⟨rfl, rfl⟩) rfl ?_
  refine g_aload_n 0 (q := 32) dX6_copyFrom_31 rfl rfl ?_
  refine g_aload_n 1 (q := 33) dX6_copyFrom_32 rfl rfl ?_
  refine g_get (q := 36) fl_X6_23 dX6_copyFrom_33 rfl rfl rfl ?_
  refine g_put (q := 39) (h' := encX x_hs v_n v_sp v_sb s_sc z1 s_st v_n v_sp v_sb v_sc v_f v_st h_k h_s h_c g_k g_v g_p g_a g_t c_k c_t c_p i_l i_n i_f i_p i_o i_b w_l w_s x_e x_l cr tl) fp_X6_23 dX6_copyFrom_36 rfl rfl (Nat.le_of_ble_eq_true rfl) (fun _ => ⟨rfl, rfl⟩) rfl ?_
  refine g_aload_n 1 (q := 40) dX6_copyFrom_39 rfl rfl ?_
  refine g_get (q := 43) fl_X6_26 dX6_copyFrom_40 rfl rfl rfl ?_
  refine g_iconst (q := 44) (v := 0) dX6_copyFrom_43 rfl rfl ?_
  refine g_aload_n 0 (q := 45) dX6_copyFrom_44 rfl rfl ?_
  refine g_get (q := 48) fl_X6_26 dX6_copyFrom_45 rfl rfl rfl ?_
  refine g_iconst (q := 49) (v := 0) dX6_copyFrom_48 rfl rfl ?_
  refine g_bipush (q := 51) (v := 32) dX6_copyFrom_49 rfl rfl ?_
  obtain ⟨z3, e4, hf⟩ := Option.bind_eq_some_iff.mp hf
  refine g_copyI (q := 54) (h' := encX x_hs v_n v_sp v_sb s_sc z1 z3 v_n v_sp v_sb v_sc v_f v_st h_k h_s h_c g_k g_v g_p g_a g_t c_k c_t c_p i_l i_n i_f i_p i_o i_b w_l w_s x_e x_l cr tl) al_X6_41 dX6_copyFrom_51 rfl rfl rfl e4 rfl (by decide) (Nat.le_of_ble_eq_true rfl) ?_
  refine g_aload_n 0 (q := 55) dX6_copyFrom_54 rfl rfl ?_
  refine g_aload_n 1 (q := 56) dX6_copyFrom_55 rfl rfl ?_
  refine g_get (q := 59) fl_X6_30 dX6_copyFrom_56 rfl rfl rfl ?_
  refine g_put (q := 62) (h' := encX x_hs v_n v_sp v_sb v_sc z1 z3 v_n v_sp v_sb v_sc v_f v_st h_k h_s h_c g_k g_v g_p g_a g_t c_k c_t c_p i_l i_n i_f i_p i_o i_b w_l w_s x_e x_l cr tl) fp_X6_30 dX6_copyFrom_59 rfl rfl (Nat.le_of_ble_eq_true rfl) (fun _ => ⟨rfl, rfl⟩) rfl ?_
  have hf := Option.some.inj hf
  subst hf
  exact g_return dX6_copyFrom_62 rfl ⟨rfl, rfl⟩
def f_X7_restore  (x_hs : Int32) (s_n : Int32) (s_sp : Int64) (s_sb : Int64) (s_sc : Int32) (s_f : List Int64) (s_st : List Int32) (v_n : Int32) (v_sp : Int64) (v_sb : Int64) (v_sc : Int32) (v_f : List Int64) (v_st : List Int32) (h_k : Int32) : Option (Int32 × Int32 × Int64 × Int64 × Int32 × List Int64 × List Int32 × Int32) := (if x_hs = 0 then some ((-7), s_n, s_sp, s_sb, s_sc, s_f, s_st, h_k) else (f_X6_copyFrom_1_4 s_n s_sp s_sb s_sc s_f s_st v_n v_sp v_sb v_sc v_f v_st).bind fun r2 => (f_X6_usedCount (r2.2.2.2.2.1)).bind fun r4 => some (r4, r2.1, r2.2.1, r2.2.2.1, r2.2.2.2.1, r2.2.2.2.2.1, r2.2.2.2.2.2, (f_X4_forget h_k)))
set_option maxRecDepth 20000 in
set_option maxHeartbeats 4000000 in
theorem ev_X7_restore {l : Launch} {E : tEn} {cr : Value} {tl : tHp} {x_hs : Int32} {s_n : Int32} {s_sp : Int64} {s_sb : Int64} {s_sc : Int32} {s_f : List Int64} {s_st : List Int32} {v_n : Int32} {v_sp : Int64} {v_sb : Int64} {v_sc : Int32} {v_f : List Int64} {v_st : List Int32} {h_k : Int32} {h_s : List Int32} {h_c : List Int64} {g_k : Int32} {g_v : Int32} {g_p : List Int32} {g_a : List Int32} {g_t : List Int32} {c_k : Int32} {c_t : List Int32} {c_p : List Int32} {i_l : Int32} {i_n : Int32} {i_f : Int64} {i_p : Int32} {i_o : Int32} {i_b : List Int32} {w_l : Int32} {w_s : List Int32} {x_e : List Int32} {x_l : List Int32}  {res : Int32 × Int32 × Int64 × Int64 × Int32 × List Int64 × List Int32 × Int32} (hf : f_X7_restore x_hs s_n s_sp s_sb s_sc s_f s_st v_n v_sp v_sb v_sc v_f v_st h_k = some res) : tEv l E yX7_restore cX7_restore 1 (some .int) 5 0 0 [.ref 0] (encX x_hs s_n s_sp s_sb s_sc s_f s_st v_n v_sp v_sb v_sc v_f v_st h_k h_s h_c g_k g_v g_p g_a g_t c_k c_t c_p i_l i_n i_f i_p i_o i_b w_l w_s x_e x_l cr tl) (fun r h' => r = some (.int res.1) ∧ h' = encX x_hs (res.2.1) (res.2.2.1) (res.2.2.2.1) (res.2.2.2.2.1) (res.2.2.2.2.2.1) (res.2.2.2.2.2.2.1) v_n v_sp v_sb v_sc v_f v_st (res.2.2.2.2.2.2.2) h_s h_c g_k g_v g_p g_a g_t c_k c_t c_p i_l i_n i_f i_p i_o i_b w_l w_s x_e x_l cr tl) := by
  refine tEv.of (own := RX7) (ini := false) (L := [(0, .ref 0)]) (by decide +kernel) rfl (fun h9 => nomatch h9) rfl (Nat.le_of_ble_eq_true rfl) ?_
  rw [f_X7_restore] at hf
  refine g_aload_n 0 (q := 1) dX7_restore_0 rfl rfl ?_
  refine g_get (q := 4) fl_X7_19 dX7_restore_1 rfl rfl rfl ?_
  refine g_if_ne (t := 10) (q := 7) dX7_restore_4 (by decide) rfl (fun c1 => ?_) (fun c1 => ?_)
  · rw [if_neg c1] at hf
    refine g_aload_n 0 (q := 11) dX7_restore_10 rfl rfl ?_
    refine g_get (q := 14) fl_X7_10 dX7_restore_11 rfl rfl rfl ?_
    refine g_aload_n 0 (q := 15) dX7_restore_14 rfl rfl ?_
    refine g_get (q := 18) fl_X7_16 dX7_restore_15 rfl rfl rfl ?_
    obtain ⟨r2, e3, hf⟩ := Option.bind_eq_some_iff.mp hf
    refine g_callV (a := 1) (k2 := 0) (n2 := 0) (q := 21) (as := [.ref 4]) (st := []) (st1 := []) tm_X6_copyFrom ml_X7_277 ti_X6_copyFrom rfl rfl dX7_restore_18 rfl (ev_X6_copyFrom_1_4 e3) rfl rfl (Nat.le_of_ble_eq_true rfl) (by decide) rfl rfl (Or.inl (encX_len.trans encX_len.symm)) rfl ?_
    refine g_aload_n 0 (q := 22) dX7_restore_21 rfl rfl ?_
    refine g_get (q := 25) fl_X7_26 dX7_restore_22 rfl rfl rfl ?_
    refine g_callV (a := 7) (k2 := 0) (n2 := 0) (q := 28) (as := []) (st := []) (st1 := []) tm_X4_forget ml_X7_83 ti_X4_forget rfl rfl dX7_restore_25 rfl ev_X4_forget rfl rfl (Nat.le_of_ble_eq_true rfl) (by decide) rfl rfl (Or.inl (encX_len.trans encX_len.symm)) rfl ?_
    refine g_aload_n 0 (q := 29) dX7_restore_28 rfl rfl ?_
    refine g_get (q := 32) fl_X7_10 dX7_restore_29 rfl rfl rfl ?_
    obtain ⟨r4, e5, hf⟩ := Option.bind_eq_some_iff.mp hf
    refine g_callV (a := 1) (k2 := 0) (n2 := 0) (q := 35) (as := []) (st := []) (st1 := [.int r4]) tm_X6_usedCount ml_X7_108 ti_X6_usedCount rfl rfl dX7_restore_32 rfl (ev_X6_usedCount e5) rfl rfl (Nat.le_of_ble_eq_true rfl) (by decide) rfl rfl (Or.inl rfl) rfl ?_
    have hf := Option.some.inj hf
    subst hf
    exact g_ireturn dX7_restore_35 rfl ⟨rfl, rfl⟩
  · rw [if_pos c1] at hf
    refine g_bipush (q := 9) (v := (-7)) dX7_restore_7 rfl rfl ?_
    have hf := Option.some.inj hf
    subst hf
    exact g_ireturn dX7_restore_9 rfl ⟨rfl, rfl⟩
def f_X7_createArray_L33 (w1 : Int32) (K : List Int32 → Option (Int32 × List Int32 × List Int32)) : Nat → Int32 → List Int32 → Option (Int32 × List Int32 × List Int32)
  | 0, _, _ => none
  | fu + 1, v3, x_e => (if 16 ≤ v3 then K  x_e else (tst x_e ((w1 * 16) + v3) 0).bind fun z7 => f_X7_createArray_L33 w1 K fu (v3 + 1) z7)
def f_X7_createArray (a0 : Int32) (a1 : Int32) (x_e : List Int32) (x_l : List Int32) : Option (Int32 × List Int32 × List Int32) := (if (f_X7_isIndex a0 4) = 0 then some ((-2), x_e, x_l) else (if a1 ≤ 16 then (if 0 ≤ a1 then (tst x_l a0 a1).bind fun z4 => f_X7_createArray_L33 a0 (fun k9 => some (1, k9, z4)) tFU 0 x_e else some ((-14), x_e, x_l)) else some ((-2), x_e, x_l)))
set_option maxRecDepth 20000 in
set_option maxHeartbeats 4000000 in
theorem ev_X7_createArray_L33 {l : Launch} {E : tEn} {cr : Value} {tl : tHp}  {x_hs : Int32} {s_n : Int32} {s_sp : Int64} {s_sb : Int64} {s_sc : Int32} {s_f : List Int64} {s_st : List Int32} {v_n : Int32} {v_sp : Int64} {v_sb : Int64} {v_sc : Int32} {v_f : List Int64} {v_st : List Int32} {h_k : Int32} {h_s : List Int32} {h_c : List Int64} {g_k : Int32} {g_v : Int32} {g_p : List Int32} {g_a : List Int32} {g_t : List Int32} {c_k : Int32} {c_t : List Int32} {c_p : List Int32} {i_l : Int32} {i_n : Int32} {i_f : Int64} {i_p : Int32} {i_o : Int32} {i_b : List Int32} {w_l : Int32} {w_s : List Int32} {x_l : List Int32} {w1 : Int32} {K : List Int32 → Option (Int32 × List Int32 × List Int32)} (hK : ∀  (x_e : List Int32) (res : Int32 × List Int32 × List Int32), K x_e = some res → tG l E RX7 cX7_createArray 4 (some .int) false 2 (fun r h' => r = some (.int res.1) ∧ h' = encX x_hs s_n s_sp s_sb s_sc s_f s_st v_n v_sp v_sb v_sc v_f v_st h_k h_s h_c g_k g_v g_p g_a g_t c_k c_t c_p i_l i_n i_f i_p i_o i_b w_l w_s (res.2.1) (res.2.2) cr tl) 0 0 57 [] [] (encX x_hs s_n s_sp s_sb s_sc s_f s_st v_n v_sp v_sb v_sc v_f v_st h_k h_s h_c g_k g_v g_p g_a g_t c_k c_t c_p i_l i_n i_f i_p i_o i_b w_l w_s x_e x_l cr tl)) :
    ∀ (fu : Nat) (v3 : Int32) (x_e : List Int32) (res : Int32 × List Int32 × List Int32), f_X7_createArray_L33 w1 K fu v3 x_e = some res → tG l E RX7 cX7_createArray 4 (some .int) false 2 (fun r h' => r = some (.int res.1) ∧ h' = encX x_hs s_n s_sp s_sb s_sc s_f s_st v_n v_sp v_sb v_sc v_f v_st h_k h_s h_c g_k g_v g_p g_a g_t c_k c_t c_p i_l i_n i_f i_p i_o i_b w_l w_s (res.2.1) (res.2.2) cr tl) 0 0 33 [(0, .ref 0), (1, .int w1), (3, .int v3)] [] (encX x_hs s_n s_sp s_sb s_sc s_f s_st v_n v_sp v_sb v_sc v_f v_st h_k h_s h_c g_k g_v g_p g_a g_t c_k c_t c_p i_l i_n i_f i_p i_o i_b w_l w_s x_e x_l cr tl) := by
  intro fu
  induction fu with
  | zero => intro v3 x_e res hf; exact nomatch (show none = some res from hf)
  | succ fu ih =>
    intro v3 x_e res hf
    rw [f_X7_createArray_L33] at hf
    refine g_iload_n 2 (q := 34) dX7_createArray_33 rfl rfl ?_
    refine g_bipush (q := 36) (v := 16) dX7_createArray_34 rfl rfl ?_
    refine g_icmp_ge (t := 57) (q := 39) dX7_createArray_36 (by decide) rfl (fun c6 => ?_) (fun c6 => ?_)
    · rw [if_pos c6] at hf
      refine g_ls [] rfl ?_
      exact hK _ _ hf
    · rw [if_neg c6] at hf
      refine g_aload_n 0 (q := 40) dX7_createArray_39 rfl rfl ?_
      refine g_get (q := 43) fl_X7_58 dX7_createArray_40 rfl rfl rfl ?_
      refine g_iload_n 1 (q := 44) dX7_createArray_43 rfl rfl ?_
      refine g_bipush (q := 46) (v := 16) dX7_createArray_44 rfl rfl ?_
      refine g_imul (q := 47) dX7_createArray_46 rfl ?_
      refine g_iload_n 2 (q := 48) dX7_createArray_47 rfl rfl ?_
      refine g_iadd (q := 49) dX7_createArray_48 rfl ?_
      refine g_iconst (q := 50) (v := 0) dX7_createArray_49 rfl rfl ?_
      obtain ⟨z7, e8, hf⟩ := Option.bind_eq_some_iff.mp hf
      refine g_iastore (q := 51) (h' := encX x_hs s_n s_sp s_sb s_sc s_f s_st v_n v_sp v_sb v_sc v_f v_st h_k h_s h_c g_k g_v g_p g_a g_t c_k c_t c_p i_l i_n i_f i_p i_o i_b w_l w_s z7 x_l cr tl) dX7_createArray_50 rfl rfl e8 rfl ?_
      refine g_iinc 2 (q := 54) (v := (v3 + 1)) (L' := [(0, .ref 0), (1, .int w1), (3, .int (v3 + 1))]) dX7_createArray_51 rfl rfl rfl (by decide) rfl ?_
      refine g_goto (t := 33) dX7_createArray_54 (by decide) ?_
      refine g_ls [0, 1, 2] rfl ?_
      exact ih _ _ _ hf
set_option maxRecDepth 20000 in
set_option maxHeartbeats 4000000 in
theorem ev_X7_createArray {l : Launch} {E : tEn} {cr : Value} {tl : tHp} {x_hs : Int32} {s_n : Int32} {s_sp : Int64} {s_sb : Int64} {s_sc : Int32} {s_f : List Int64} {s_st : List Int32} {v_n : Int32} {v_sp : Int64} {v_sb : Int64} {v_sc : Int32} {v_f : List Int64} {v_st : List Int32} {h_k : Int32} {h_s : List Int32} {h_c : List Int64} {g_k : Int32} {g_v : Int32} {g_p : List Int32} {g_a : List Int32} {g_t : List Int32} {c_k : Int32} {c_t : List Int32} {c_p : List Int32} {i_l : Int32} {i_n : Int32} {i_f : Int64} {i_p : Int32} {i_o : Int32} {i_b : List Int32} {w_l : Int32} {w_s : List Int32} {x_e : List Int32} {x_l : List Int32} {a0 : Int32} {a1 : Int32} {res : Int32 × List Int32 × List Int32} (hf : f_X7_createArray a0 a1 x_e x_l = some res) : tEv l E yX7_createArray cX7_createArray 4 (some .int) 2 0 0 [.ref 0, .int a0, .int a1] (encX x_hs s_n s_sp s_sb s_sc s_f s_st v_n v_sp v_sb v_sc v_f v_st h_k h_s h_c g_k g_v g_p g_a g_t c_k c_t c_p i_l i_n i_f i_p i_o i_b w_l w_s x_e x_l cr tl) (fun r h' => r = some (.int res.1) ∧ h' = encX x_hs s_n s_sp s_sb s_sc s_f s_st v_n v_sp v_sb v_sc v_f v_st h_k h_s h_c g_k g_v g_p g_a g_t c_k c_t c_p i_l i_n i_f i_p i_o i_b w_l w_s (res.2.1) (res.2.2) cr tl) := by
  refine tEv.of (own := RX7) (ini := false) (L := [(0, .ref 0), (1, .int a0), (2, .int a1)]) (by decide +kernel) rfl (fun h9 => nomatch h9) rfl (Nat.le_of_ble_eq_true rfl) ?_
  rw [f_X7_createArray] at hf
  refine g_iload_n 1 (q := 1) dX7_createArray_0 rfl rfl ?_
  refine g_iconst (q := 2) (v := 4) dX7_createArray_1 rfl rfl ?_
  refine g_callS (k2 := 0) (n2 := 0) (q := 5) (as := [.int a0, .int 4]) (st := []) (st1 := [.int (f_X7_isIndex a0 4)]) tm_X7_isIndex ml_X7_140 ts_X7_isIndex dX7_createArray_2 rfl ev_X7_isIndex rfl rfl (Nat.le_of_ble_eq_true rfl) (by decide) rfl rfl (Or.inl rfl) rfl ?_
  refine g_if_eq (t := 14) (q := 8) dX7_createArray_5 (by decide) rfl (fun c1 => ?_) (fun c1 => ?_)
  · rw [if_pos c1] at hf
    refine g_bipush (q := 16) (v := (-2)) dX7_createArray_14 rfl rfl ?_
    have hf := Option.some.inj hf
    subst hf
    exact g_ireturn dX7_createArray_16 rfl ⟨rfl, rfl⟩
  · rw [if_neg c1] at hf
    refine g_iload_n 2 (q := 9) dX7_createArray_8 rfl rfl ?_
    refine g_bipush (q := 11) (v := 16) dX7_createArray_9 rfl rfl ?_
    refine g_icmp_le (t := 17) (q := 14) dX7_createArray_11 (by decide) rfl (fun c2 => ?_) (fun c2 => ?_)
    · rw [if_pos c2] at hf
      refine g_iload_n 2 (q := 18) dX7_createArray_17 rfl rfl ?_
      refine g_if_ge (t := 24) (q := 21) dX7_createArray_18 (by decide) rfl (fun c3 => ?_) (fun c3 => ?_)
      · rw [if_pos c3] at hf
        refine g_aload_n 0 (q := 25) dX7_createArray_24 rfl rfl ?_
        refine g_get (q := 28) fl_X7_62 dX7_createArray_25 rfl rfl rfl ?_
        refine g_iload_n 1 (q := 29) dX7_createArray_28 rfl rfl ?_
        refine g_iload_n 2 (q := 30) dX7_createArray_29 rfl rfl ?_
        obtain ⟨z4, e5, hf⟩ := Option.bind_eq_some_iff.mp hf
        refine g_iastore (q := 31) (h' := encX x_hs s_n s_sp s_sb s_sc s_f s_st v_n v_sp v_sb v_sc v_f v_st h_k h_s h_c g_k g_v g_p g_a g_t c_k c_t c_p i_l i_n i_f i_p i_o i_b w_l w_s x_e z4 cr tl) dX7_createArray_30 rfl rfl e5 rfl ?_
        refine g_iconst (q := 32) (v := 0) dX7_createArray_31 rfl rfl ?_
        refine g_istore_n (q := 33) (L' := [(0, .ref 0), (1, .int a0), (2, .int a1), (3, .int 0)]) dX7_createArray_32 rfl (by decide) rfl ?_
        refine g_ls [0, 1, 3] rfl ?_
        refine ev_X7_createArray_L33 (fun k9 res hf => ?_) tFU _ _ res hf
        refine g_iconst (q := 58) (v := 1) dX7_createArray_57 rfl rfl ?_
        have hf := Option.some.inj hf
        subst hf
        exact g_ireturn dX7_createArray_58 rfl ⟨rfl, rfl⟩
      · rw [if_neg c3] at hf
        refine g_bipush (q := 23) (v := (-14)) dX7_createArray_21 rfl rfl ?_
        have hf := Option.some.inj hf
        subst hf
        exact g_ireturn dX7_createArray_23 rfl ⟨rfl, rfl⟩
    · rw [if_neg c2] at hf
      refine g_bipush (q := 16) (v := (-2)) dX7_createArray_14 rfl rfl ?_
      have hf := Option.some.inj hf
      subst hf
      exact g_ireturn dX7_createArray_16 rfl ⟨rfl, rfl⟩
def f_X7_setElement (a0 : Int32) (a1 : Int32) (a2 : Int32) (x_e : List Int32) (x_l : List Int32) : Option (Int32 × List Int32) := (if (f_X7_isIndex a0 4) = 0 then some ((-2), x_e) else (tld x_l a0).bind fun r2 => (if r2 = (-1) then some ((-11), x_e) else (tld x_l a0).bind fun r5 => (if (f_X7_isIndex a1 r5) = 0 then some ((-13), x_e) else (tst x_e ((a0 * 16) + a1) a2).bind fun z8 => some (1, z8))))
set_option maxRecDepth 20000 in
set_option maxHeartbeats 4000000 in
theorem ev_X7_setElement {l : Launch} {E : tEn} {cr : Value} {tl : tHp} {x_hs : Int32} {s_n : Int32} {s_sp : Int64} {s_sb : Int64} {s_sc : Int32} {s_f : List Int64} {s_st : List Int32} {v_n : Int32} {v_sp : Int64} {v_sb : Int64} {v_sc : Int32} {v_f : List Int64} {v_st : List Int32} {h_k : Int32} {h_s : List Int32} {h_c : List Int64} {g_k : Int32} {g_v : Int32} {g_p : List Int32} {g_a : List Int32} {g_t : List Int32} {c_k : Int32} {c_t : List Int32} {c_p : List Int32} {i_l : Int32} {i_n : Int32} {i_f : Int64} {i_p : Int32} {i_o : Int32} {i_b : List Int32} {w_l : Int32} {w_s : List Int32} {x_e : List Int32} {x_l : List Int32} {a0 : Int32} {a1 : Int32} {a2 : Int32} {res : Int32 × List Int32} (hf : f_X7_setElement a0 a1 a2 x_e x_l = some res) : tEv l E yX7_setElement cX7_setElement 4 (some .int) 2 0 0 [.ref 0, .int a0, .int a1, .int a2] (encX x_hs s_n s_sp s_sb s_sc s_f s_st v_n v_sp v_sb v_sc v_f v_st h_k h_s h_c g_k g_v g_p g_a g_t c_k c_t c_p i_l i_n i_f i_p i_o i_b w_l w_s x_e x_l cr tl) (fun r h' => r = some (.int res.1) ∧ h' = encX x_hs s_n s_sp s_sb s_sc s_f s_st v_n v_sp v_sb v_sc v_f v_st h_k h_s h_c g_k g_v g_p g_a g_t c_k c_t c_p i_l i_n i_f i_p i_o i_b w_l w_s (res.2) x_l cr tl) := by
  refine tEv.of (own := RX7) (ini := false) (L := [(0, .ref 0), (1, .int a0), (2, .int a1), (3, .int a2)]) (by decide +kernel) rfl (fun h9 => nomatch h9) rfl (Nat.le_of_ble_eq_true rfl) ?_
  rw [f_X7_setElement] at hf
  refine g_iload_n 1 (q := 1) dX7_setElement_0 rfl rfl ?_
  refine g_iconst (q := 2) (v := 4) dX7_setElement_1 rfl rfl ?_
  refine g_callS (k2 := 0) (n2 := 0) (q := 5) (as := [.int a0, .int 4]) (st := []) (st1 := [.int (f_X7_isIndex a0 4)]) tm_X7_isIndex ml_X7_140 ts_X7_isIndex dX7_setElement_2 rfl ev_X7_isIndex rfl rfl (Nat.le_of_ble_eq_true rfl) (by decide) rfl rfl (Or.inl rfl) rfl ?_
  refine g_if_ne (t := 11) (q := 8) dX7_setElement_5 (by decide) rfl (fun c1 => ?_) (fun c1 => ?_)
  · rw [if_neg c1] at hf
    refine g_aload_n 0 (q := 12) dX7_setElement_11 rfl rfl ?_
    refine g_get (q := 15) fl_X7_62 dX7_setElement_12 rfl rfl rfl ?_
    refine g_iload_n 1 (q := 16) dX7_setElement_15 rfl rfl ?_
    obtain ⟨r2, e3, hf⟩ := Option.bind_eq_some_iff.mp hf
    refine g_iaload (q := 17) dX7_setElement_16 rfl rfl e3 ?_
    refine g_iconst (q := 18) (v := (-1)) dX7_setElement_17 rfl rfl ?_
    refine g_icmp_ne (t := 24) (q := 21) dX7_setElement_18 (by decide) rfl (fun c4 => ?_) (fun c4 => ?_)
    · rw [if_neg c4] at hf
      refine g_iload_n 2 (q := 25) dX7_setElement_24 rfl rfl ?_
      refine g_aload_n 0 (q := 26) dX7_setElement_25 rfl rfl ?_
      refine g_get (q := 29) fl_X7_62 dX7_setElement_26 rfl rfl rfl ?_
      refine g_iload_n 1 (q := 30) dX7_setElement_29 rfl rfl ?_
      obtain ⟨r5, e6, hf⟩ := Option.bind_eq_some_iff.mp hf
      refine g_iaload (q := 31) dX7_setElement_30 rfl rfl e6 ?_
      refine g_callS (k2 := 0) (n2 := 0) (q := 34) (as := [.int a1, .int r5]) (st := []) (st1 := [.int (f_X7_isIndex a1 r5)]) tm_X7_isIndex ml_X7_140 ts_X7_isIndex dX7_setElement_31 rfl ev_X7_isIndex rfl rfl (Nat.le_of_ble_eq_true rfl) (by decide) rfl rfl (Or.inl rfl) rfl ?_
      refine g_if_ne (t := 40) (q := 37) dX7_setElement_34 (by decide) rfl (fun c7 => ?_) (fun c7 => ?_)
      · rw [if_neg c7] at hf
        refine g_aload_n 0 (q := 41) dX7_setElement_40 rfl rfl ?_
        refine g_get (q := 44) fl_X7_58 dX7_setElement_41 rfl rfl rfl ?_
        refine g_iload_n 1 (q := 45) dX7_setElement_44 rfl rfl ?_
        refine g_bipush (q := 47) (v := 16) dX7_setElement_45 rfl rfl ?_
        refine g_imul (q := 48) dX7_setElement_47 rfl ?_
        refine g_iload_n 2 (q := 49) dX7_setElement_48 rfl rfl ?_
        refine g_iadd (q := 50) dX7_setElement_49 rfl ?_
        refine g_iload_n 3 (q := 51) dX7_setElement_50 rfl rfl ?_
        obtain ⟨z8, e9, hf⟩ := Option.bind_eq_some_iff.mp hf
        refine g_iastore (q := 52) (h' := encX x_hs s_n s_sp s_sb s_sc s_f s_st v_n v_sp v_sb v_sc v_f v_st h_k h_s h_c g_k g_v g_p g_a g_t c_k c_t c_p i_l i_n i_f i_p i_o i_b w_l w_s z8 x_l cr tl) dX7_setElement_51 rfl rfl e9 rfl ?_
        refine g_iconst (q := 53) (v := 1) dX7_setElement_52 rfl rfl ?_
        have hf := Option.some.inj hf
        subst hf
        exact g_ireturn dX7_setElement_53 rfl ⟨rfl, rfl⟩
      · rw [if_pos c7] at hf
        refine g_bipush (q := 39) (v := (-13)) dX7_setElement_37 rfl rfl ?_
        have hf := Option.some.inj hf
        subst hf
        exact g_ireturn dX7_setElement_39 rfl ⟨rfl, rfl⟩
    · rw [if_pos c4] at hf
      refine g_bipush (q := 23) (v := (-11)) dX7_setElement_21 rfl rfl ?_
      have hf := Option.some.inj hf
      subst hf
      exact g_ireturn dX7_setElement_23 rfl ⟨rfl, rfl⟩
  · rw [if_pos c1] at hf
    refine g_bipush (q := 10) (v := (-2)) dX7_setElement_8 rfl rfl ?_
    have hf := Option.some.inj hf
    subst hf
    exact g_ireturn dX7_setElement_10 rfl ⟨rfl, rfl⟩
def f_X7_element (a0 : Int32) (a1 : Int32) (x_e : List Int32) (x_l : List Int32) : Option (Int64) := (if (f_X7_isIndex a0 4) = 0 then some (-9223372036854775808) else (tld x_l a0).bind fun r2 => (if (f_X7_isIndex a1 r2) = 0 then some (-9223372036854775808) else (tld x_e ((a0 * 16) + a1)).bind fun r5 => some (Int32.toInt64 r5)))
set_option maxRecDepth 20000 in
set_option maxHeartbeats 4000000 in
theorem ev_X7_element {l : Launch} {E : tEn} {cr : Value} {tl : tHp} {x_hs : Int32} {s_n : Int32} {s_sp : Int64} {s_sb : Int64} {s_sc : Int32} {s_f : List Int64} {s_st : List Int32} {v_n : Int32} {v_sp : Int64} {v_sb : Int64} {v_sc : Int32} {v_f : List Int64} {v_st : List Int32} {h_k : Int32} {h_s : List Int32} {h_c : List Int64} {g_k : Int32} {g_v : Int32} {g_p : List Int32} {g_a : List Int32} {g_t : List Int32} {c_k : Int32} {c_t : List Int32} {c_p : List Int32} {i_l : Int32} {i_n : Int32} {i_f : Int64} {i_p : Int32} {i_o : Int32} {i_b : List Int32} {w_l : Int32} {w_s : List Int32} {x_e : List Int32} {x_l : List Int32} {a0 : Int32} {a1 : Int32} {res : Int64} (hf : f_X7_element a0 a1 x_e x_l = some res) : tEv l E yX7_element cX7_element 3 (some .long) 2 0 0 [.ref 0, .int a0, .int a1] (encX x_hs s_n s_sp s_sb s_sc s_f s_st v_n v_sp v_sb v_sc v_f v_st h_k h_s h_c g_k g_v g_p g_a g_t c_k c_t c_p i_l i_n i_f i_p i_o i_b w_l w_s x_e x_l cr tl) (fun r h' => r = some (.long res) ∧ h' = encX x_hs s_n s_sp s_sb s_sc s_f s_st v_n v_sp v_sb v_sc v_f v_st h_k h_s h_c g_k g_v g_p g_a g_t c_k c_t c_p i_l i_n i_f i_p i_o i_b w_l w_s x_e x_l cr tl) := by
  refine tEv.of (own := RX7) (ini := false) (L := [(0, .ref 0), (1, .int a0), (2, .int a1)]) (by decide +kernel) rfl (fun h9 => nomatch h9) rfl (Nat.le_of_ble_eq_true rfl) ?_
  rw [f_X7_element] at hf
  refine g_iload_n 1 (q := 1) dX7_element_0 rfl rfl ?_
  refine g_iconst (q := 2) (v := 4) dX7_element_1 rfl rfl ?_
  refine g_callS (k2 := 0) (n2 := 0) (q := 5) (as := [.int a0, .int 4]) (st := []) (st1 := [.int (f_X7_isIndex a0 4)]) tm_X7_isIndex ml_X7_140 ts_X7_isIndex dX7_element_2 rfl ev_X7_isIndex rfl rfl (Nat.le_of_ble_eq_true rfl) (by decide) rfl rfl (Or.inl rfl) rfl ?_
  refine g_if_eq (t := 21) (q := 8) dX7_element_5 (by decide) rfl (fun c1 => ?_) (fun c1 => ?_)
  · rw [if_pos c1] at hf
    refine g_ldc2_w (q := 24) kc_X7_281 dX7_element_21 rfl ?_
    have hf := Option.some.inj hf
    subst hf
    exact g_lreturn dX7_element_24 rfl ⟨rfl, rfl⟩
  · rw [if_neg c1] at hf
    refine g_iload_n 2 (q := 9) dX7_element_8 rfl rfl ?_
    refine g_aload_n 0 (q := 10) dX7_element_9 rfl rfl ?_
    refine g_get (q := 13) fl_X7_62 dX7_element_10 rfl rfl rfl ?_
    refine g_iload_n 1 (q := 14) dX7_element_13 rfl rfl ?_
    obtain ⟨r2, e3, hf⟩ := Option.bind_eq_some_iff.mp hf
    refine g_iaload (q := 15) dX7_element_14 rfl rfl e3 ?_
    refine g_callS (k2 := 0) (n2 := 0) (q := 18) (as := [.int a1, .int r2]) (st := []) (st1 := [.int (f_X7_isIndex a1 r2)]) tm_X7_isIndex ml_X7_140 ts_X7_isIndex dX7_element_15 rfl ev_X7_isIndex rfl rfl (Nat.le_of_ble_eq_true rfl) (by decide) rfl rfl (Or.inl rfl) rfl ?_
    refine g_if_ne (t := 25) (q := 21) dX7_element_18 (by decide) rfl (fun c4 => ?_) (fun c4 => ?_)
    · rw [if_neg c4] at hf
      refine g_aload_n 0 (q := 26) dX7_element_25 rfl rfl ?_
      refine g_get (q := 29) fl_X7_58 dX7_element_26 rfl rfl rfl ?_
      refine g_iload_n 1 (q := 30) dX7_element_29 rfl rfl ?_
      refine g_bipush (q := 32) (v := 16) dX7_element_30 rfl rfl ?_
      refine g_imul (q := 33) dX7_element_32 rfl ?_
      refine g_iload_n 2 (q := 34) dX7_element_33 rfl rfl ?_
      refine g_iadd (q := 35) dX7_element_34 rfl ?_
      obtain ⟨r5, e6, hf⟩ := Option.bind_eq_some_iff.mp hf
      refine g_iaload (q := 36) dX7_element_35 rfl rfl e6 ?_
      refine g_i2l (q := 37) dX7_element_36 rfl ?_
      have hf := Option.some.inj hf
      subst hf
      exact g_lreturn dX7_element_37 rfl ⟨rfl, rfl⟩
    · rw [if_pos c4] at hf
      refine g_ldc2_w (q := 24) kc_X7_281 dX7_element_21 rfl ?_
      have hf := Option.some.inj hf
      subst hf
      exact g_lreturn dX7_element_24 rfl ⟨rfl, rfl⟩
def f_X7_compare_L39 (w1 : Int32) (g_k : Int32) (g_v : Int32) (g_p : List Int32) (g_a : List Int32) (x_e : List Int32) (x_l : List Int32) (K : Option (Int32 × Int32 × Int32 × List Int32 × List Int32)) : Nat → Int32 → Option (Int32 × Int32 × Int32 × List Int32 × List Int32)
  | 0, _ => none
  | fu + 1, v4 => (tld x_l w1).bind fun r8 => (if r8 ≤ v4 then K else (tld x_e ((w1 * 16) + v4)).bind fun r11 => (f_X3_primeAt v4 g_k g_p).bind fun r13 => (if r11 = r13 then f_X7_compare_L39 w1 g_k g_v g_p g_a x_e x_l K fu (v4 + 1) else some (v4, g_k, g_v, g_p, g_a)))
def f_X7_compare (a0 : Int32) (a1 : Int32) (s_n : Int32) (s_f : List Int64) (g_k : Int32) (g_v : Int32) (g_p : List Int32) (g_a : List Int32) (x_e : List Int32) (x_l : List Int32) : Option (Int32 × Int32 × Int32 × List Int32 × List Int32) := (if (f_X7_isIndex a0 4) = 0 then some ((-2), g_k, g_v, g_p, g_a) else (f_X7_drawGraph a1 s_n s_f g_k g_v g_p g_a).bind fun r2 => (if r2.1 = 0 then (tld x_l a0).bind fun r5 => (if r5 = (-1) then some ((-11), r2.2.1, r2.2.2.1, r2.2.2.2.1, r2.2.2.2.2) else f_X7_compare_L39 a0 (r2.2.1) (r2.2.2.1) (r2.2.2.2.1) (r2.2.2.2.2) x_e x_l (some ((-1), r2.2.1, r2.2.2.1, r2.2.2.2.1, r2.2.2.2.2)) tFU 0) else some (r2.1, r2.2.1, r2.2.2.1, r2.2.2.2.1, r2.2.2.2.2)))
set_option maxRecDepth 20000 in
set_option maxHeartbeats 4000000 in
theorem ev_X7_compare_L39 {l : Launch} {E : tEn} {cr : Value} {tl : tHp}  {x_hs : Int32} {s_n : Int32} {s_sp : Int64} {s_sb : Int64} {s_sc : Int32} {s_f : List Int64} {s_st : List Int32} {v_n : Int32} {v_sp : Int64} {v_sb : Int64} {v_sc : Int32} {v_f : List Int64} {v_st : List Int32} {h_k : Int32} {h_s : List Int32} {h_c : List Int64} {g_k : Int32} {g_v : Int32} {g_p : List Int32} {g_a : List Int32} {g_t : List Int32} {c_k : Int32} {c_t : List Int32} {c_p : List Int32} {i_l : Int32} {i_n : Int32} {i_f : Int64} {i_p : Int32} {i_o : Int32} {i_b : List Int32} {w_l : Int32} {w_s : List Int32} {x_e : List Int32} {x_l : List Int32} {w1 : Int32} {K : Option (Int32 × Int32 × Int32 × List Int32 × List Int32)} (hK : ∀   (res : Int32 × Int32 × Int32 × List Int32 × List Int32), K  = some res → tG l E RX7 cX7_compare 5 (some .int) false 6 (fun r h' => r = some (.int res.1) ∧ h' = encX x_hs s_n s_sp s_sb s_sc s_f s_st v_n v_sp v_sb v_sc v_f v_st h_k h_s h_c (res.2.1) (res.2.2.1) (res.2.2.2.1) (res.2.2.2.2) g_t c_k c_t c_p i_l i_n i_f i_p i_o i_b w_l w_s x_e x_l cr tl) 0 0 83 [] [] (encX x_hs s_n s_sp s_sb s_sc s_f s_st v_n v_sp v_sb v_sc v_f v_st h_k h_s h_c g_k g_v g_p g_a g_t c_k c_t c_p i_l i_n i_f i_p i_o i_b w_l w_s x_e x_l cr tl)) :
    ∀ (fu : Nat) (v4 : Int32) (res : Int32 × Int32 × Int32 × List Int32 × List Int32), f_X7_compare_L39 w1 g_k g_v g_p g_a x_e x_l K fu v4 = some res → tG l E RX7 cX7_compare 5 (some .int) false 6 (fun r h' => r = some (.int res.1) ∧ h' = encX x_hs s_n s_sp s_sb s_sc s_f s_st v_n v_sp v_sb v_sc v_f v_st h_k h_s h_c (res.2.1) (res.2.2.1) (res.2.2.2.1) (res.2.2.2.2) g_t c_k c_t c_p i_l i_n i_f i_p i_o i_b w_l w_s x_e x_l cr tl) 0 0 39 [(0, .ref 0), (1, .int w1), (4, .int v4)] [] (encX x_hs s_n s_sp s_sb s_sc s_f s_st v_n v_sp v_sb v_sc v_f v_st h_k h_s h_c g_k g_v g_p g_a g_t c_k c_t c_p i_l i_n i_f i_p i_o i_b w_l w_s x_e x_l cr tl) := by
  intro fu
  induction fu with
  | zero => intro v4 res hf; exact nomatch (show none = some res from hf)
  | succ fu ih =>
    intro v4 res hf
    rw [f_X7_compare_L39] at hf
    refine g_iload 2 (q := 41) dX7_compare_39 rfl rfl ?_
    refine g_aload_n 0 (q := 42) dX7_compare_41 rfl rfl ?_
    refine g_get (q := 45) fl_X7_62 dX7_compare_42 rfl rfl rfl ?_
    refine g_iload_n 1 (q := 46) dX7_compare_45 rfl rfl ?_
    obtain ⟨r8, e9, hf⟩ := Option.bind_eq_some_iff.mp hf
    refine g_iaload (q := 47) dX7_compare_46 rfl rfl e9 ?_
    refine g_icmp_ge (t := 83) (q := 50) dX7_compare_47 (by decide) rfl (fun c10 => ?_) (fun c10 => ?_)
    · rw [if_pos c10] at hf
      refine g_ls [] rfl ?_
      exact hK _ hf
    · rw [if_neg c10] at hf
      refine g_aload_n 0 (q := 51) dX7_compare_50 rfl rfl ?_
      refine g_get (q := 54) fl_X7_58 dX7_compare_51 rfl rfl rfl ?_
      refine g_iload_n 1 (q := 55) dX7_compare_54 rfl rfl ?_
      refine g_bipush (q := 57) (v := 16) dX7_compare_55 rfl rfl ?_
      refine g_imul (q := 58) dX7_compare_57 rfl ?_
      refine g_iload 2 (q := 60) dX7_compare_58 rfl rfl ?_
      refine g_iadd (q := 61) dX7_compare_60 rfl ?_
      obtain ⟨r11, e12, hf⟩ := Option.bind_eq_some_iff.mp hf
      refine g_iaload (q := 62) dX7_compare_61 rfl rfl e12 ?_
      refine g_aload_n 0 (q := 63) dX7_compare_62 rfl rfl ?_
      refine g_get (q := 66) fl_X7_33 dX7_compare_63 rfl rfl rfl ?_
      refine g_iload 2 (q := 68) dX7_compare_66 rfl rfl ?_
      obtain ⟨r13, e14, hf⟩ := Option.bind_eq_some_iff.mp hf
      refine g_callV (a := 10) (k2 := 0) (n2 := 0) (q := 71) (as := [.int v4]) (st := [.int r11]) (st1 := [.int r13, .int r11]) tm_X3_primeAt ml_X7_131 ti_X3_primeAt rfl rfl dX7_compare_68 rfl (ev_X3_primeAt e14) rfl rfl (Nat.le_of_ble_eq_true rfl) (by decide) rfl rfl (Or.inl rfl) rfl ?_
      refine g_icmp_eq (t := 77) (q := 74) dX7_compare_71 (by decide) rfl (fun c15 => ?_) (fun c15 => ?_)
      · rw [if_pos c15] at hf
        refine g_iinc 2 (q := 80) (v := (v4 + 1)) (L' := [(0, .ref 0), (1, .int w1), (4, .int (v4 + 1))]) dX7_compare_77 rfl rfl rfl (by decide) rfl ?_
        refine g_goto (t := 39) dX7_compare_80 (by decide) ?_
        refine g_ls [0, 1, 2] rfl ?_
        exact ih _ _ hf
      · rw [if_neg c15] at hf
        refine g_iload 2 (q := 76) dX7_compare_74 rfl rfl ?_
        have hf := Option.some.inj hf
        subst hf
        exact g_ireturn dX7_compare_76 rfl ⟨rfl, rfl⟩
set_option maxRecDepth 20000 in
set_option maxHeartbeats 4000000 in
theorem ev_X7_compare {l : Launch} {E : tEn} {cr : Value} {tl : tHp} {x_hs : Int32} {s_n : Int32} {s_sp : Int64} {s_sb : Int64} {s_sc : Int32} {s_f : List Int64} {s_st : List Int32} {v_n : Int32} {v_sp : Int64} {v_sb : Int64} {v_sc : Int32} {v_f : List Int64} {v_st : List Int32} {h_k : Int32} {h_s : List Int32} {h_c : List Int64} {g_k : Int32} {g_v : Int32} {g_p : List Int32} {g_a : List Int32} {g_t : List Int32} {c_k : Int32} {c_t : List Int32} {c_p : List Int32} {i_l : Int32} {i_n : Int32} {i_f : Int64} {i_p : Int32} {i_o : Int32} {i_b : List Int32} {w_l : Int32} {w_s : List Int32} {x_e : List Int32} {x_l : List Int32} {a0 : Int32} {a1 : Int32} {res : Int32 × Int32 × Int32 × List Int32 × List Int32} (hf : f_X7_compare a0 a1 s_n s_f g_k g_v g_p g_a x_e x_l = some res) : tEv l E yX7_compare cX7_compare 5 (some .int) 6 0 0 [.ref 0, .int a0, .int a1] (encX x_hs s_n s_sp s_sb s_sc s_f s_st v_n v_sp v_sb v_sc v_f v_st h_k h_s h_c g_k g_v g_p g_a g_t c_k c_t c_p i_l i_n i_f i_p i_o i_b w_l w_s x_e x_l cr tl) (fun r h' => r = some (.int res.1) ∧ h' = encX x_hs s_n s_sp s_sb s_sc s_f s_st v_n v_sp v_sb v_sc v_f v_st h_k h_s h_c (res.2.1) (res.2.2.1) (res.2.2.2.1) (res.2.2.2.2) g_t c_k c_t c_p i_l i_n i_f i_p i_o i_b w_l w_s x_e x_l cr tl) := by
  refine tEv.of (own := RX7) (ini := false) (L := [(0, .ref 0), (1, .int a0), (2, .int a1)]) (by decide +kernel) rfl (fun h9 => nomatch h9) rfl (Nat.le_of_ble_eq_true rfl) ?_
  rw [f_X7_compare] at hf
  refine g_iload_n 1 (q := 1) dX7_compare_0 rfl rfl ?_
  refine g_iconst (q := 2) (v := 4) dX7_compare_1 rfl rfl ?_
  refine g_callS (k2 := 0) (n2 := 0) (q := 5) (as := [.int a0, .int 4]) (st := []) (st1 := [.int (f_X7_isIndex a0 4)]) tm_X7_isIndex ml_X7_140 ts_X7_isIndex dX7_compare_2 rfl ev_X7_isIndex rfl rfl (Nat.le_of_ble_eq_true rfl) (by decide) rfl rfl (Or.inl rfl) rfl ?_
  refine g_if_ne (t := 11) (q := 8) dX7_compare_5 (by decide) rfl (fun c1 => ?_) (fun c1 => ?_)
  · rw [if_neg c1] at hf
    refine g_aload_n 0 (q := 12) dX7_compare_11 rfl rfl ?_
    refine g_iload_n 2 (q := 13) dX7_compare_12 rfl rfl ?_
    obtain ⟨r2, e3, hf⟩ := Option.bind_eq_some_iff.mp hf
    refine g_callV (a := 0) (k2 := 0) (n2 := 0) (q := 16) (as := [.int a1]) (st := []) (st1 := [.int r2.1]) tm_X7_drawGraph ml_X7_125 ti_X7_drawGraph rfl rfl dX7_compare_13 rfl (ev_X7_drawGraph e3) rfl rfl (Nat.le_of_ble_eq_true rfl) (by decide) rfl rfl (Or.inl (encX_len.trans encX_len.symm)) rfl ?_
    refine g_istore_n (q := 17) (L' := [(0, .ref 0), (1, .int a0), (2, .int a1), (3, .int r2.1)]) dX7_compare_16 rfl (by decide) rfl ?_
    refine g_iload_n 3 (q := 18) dX7_compare_17 rfl rfl ?_
    refine g_if_eq (t := 23) (q := 21) dX7_compare_18 (by decide) rfl (fun c4 => ?_) (fun c4 => ?_)
    · rw [if_pos c4] at hf
      refine g_aload_n 0 (q := 24) dX7_compare_23 rfl rfl ?_
      refine g_get (q := 27) fl_X7_62 dX7_compare_24 rfl rfl rfl ?_
      refine g_iload_n 1 (q := 28) dX7_compare_27 rfl rfl ?_
      obtain ⟨r5, e6, hf⟩ := Option.bind_eq_some_iff.mp hf
      refine g_iaload (q := 29) dX7_compare_28 rfl rfl e6 ?_
      refine g_iconst (q := 30) (v := (-1)) dX7_compare_29 rfl rfl ?_
      refine g_icmp_ne (t := 36) (q := 33) dX7_compare_30 (by decide) rfl (fun c7 => ?_) (fun c7 => ?_)
      · rw [if_neg c7] at hf
        refine g_iconst (q := 37) (v := 0) dX7_compare_36 rfl rfl ?_
        refine g_istore (q := 39) (L' := [(0, .ref 0), (1, .int a0), (2, .int a1), (3, .int r2.1), (4, .int 0)]) dX7_compare_37 rfl (by decide) rfl ?_
        refine g_ls [0, 1, 4] rfl ?_
        refine ev_X7_compare_L39 (fun  res hf => ?_) tFU _ res hf
        refine g_iconst (q := 84) (v := (-1)) dX7_compare_83 rfl rfl ?_
        have hf := Option.some.inj hf
        subst hf
        exact g_ireturn dX7_compare_84 rfl ⟨rfl, rfl⟩
      · rw [if_pos c7] at hf
        refine g_bipush (q := 35) (v := (-11)) dX7_compare_33 rfl rfl ?_
        have hf := Option.some.inj hf
        subst hf
        exact g_ireturn dX7_compare_35 rfl ⟨rfl, rfl⟩
    · rw [if_neg c4] at hf
      refine g_iload_n 3 (q := 22) dX7_compare_21 rfl rfl ?_
      have hf := Option.some.inj hf
      subst hf
      exact g_ireturn dX7_compare_22 rfl ⟨rfl, rfl⟩
  · rw [if_pos c1] at hf
    refine g_bipush (q := 10) (v := (-2)) dX7_compare_8 rfl rfl ?_
    have hf := Option.some.inj hf
    subst hf
    exact g_ireturn dX7_compare_10 rfl ⟨rfl, rfl⟩
def f_X7_usedSlots  (s_f : List Int64) : Option (Int32) := (f_X6_usedCount s_f).bind fun r1 => some r1
set_option maxRecDepth 20000 in
set_option maxHeartbeats 4000000 in
theorem ev_X7_usedSlots {l : Launch} {E : tEn} {cr : Value} {tl : tHp} {x_hs : Int32} {s_n : Int32} {s_sp : Int64} {s_sb : Int64} {s_sc : Int32} {s_f : List Int64} {s_st : List Int32} {v_n : Int32} {v_sp : Int64} {v_sb : Int64} {v_sc : Int32} {v_f : List Int64} {v_st : List Int32} {h_k : Int32} {h_s : List Int32} {h_c : List Int64} {g_k : Int32} {g_v : Int32} {g_p : List Int32} {g_a : List Int32} {g_t : List Int32} {c_k : Int32} {c_t : List Int32} {c_p : List Int32} {i_l : Int32} {i_n : Int32} {i_f : Int64} {i_p : Int32} {i_o : Int32} {i_b : List Int32} {w_l : Int32} {w_s : List Int32} {x_e : List Int32} {x_l : List Int32}  {res : Int32} (hf : f_X7_usedSlots s_f = some res) : tEv l E yX7_usedSlots cX7_usedSlots 1 (some .int) 5 0 0 [.ref 0] (encX x_hs s_n s_sp s_sb s_sc s_f s_st v_n v_sp v_sb v_sc v_f v_st h_k h_s h_c g_k g_v g_p g_a g_t c_k c_t c_p i_l i_n i_f i_p i_o i_b w_l w_s x_e x_l cr tl) (fun r h' => r = some (.int res) ∧ h' = encX x_hs s_n s_sp s_sb s_sc s_f s_st v_n v_sp v_sb v_sc v_f v_st h_k h_s h_c g_k g_v g_p g_a g_t c_k c_t c_p i_l i_n i_f i_p i_o i_b w_l w_s x_e x_l cr tl) := by
  refine tEv.of (own := RX7) (ini := false) (L := [(0, .ref 0)]) (by decide +kernel) rfl (fun h9 => nomatch h9) rfl (Nat.le_of_ble_eq_true rfl) ?_
  rw [f_X7_usedSlots] at hf
  refine g_aload_n 0 (q := 1) dX7_usedSlots_0 rfl rfl ?_
  refine g_get (q := 4) fl_X7_10 dX7_usedSlots_1 rfl rfl rfl ?_
  obtain ⟨r1, e2, hf⟩ := Option.bind_eq_some_iff.mp hf
  refine g_callV (a := 1) (k2 := 0) (n2 := 0) (q := 7) (as := []) (st := []) (st1 := [.int r1]) tm_X6_usedCount ml_X7_108 ti_X6_usedCount rfl rfl dX7_usedSlots_4 rfl (ev_X6_usedCount e2) rfl rfl (Nat.le_of_ble_eq_true rfl) (by decide) rfl rfl (Or.inl rfl) rfl ?_
  have hf := Option.some.inj hf
  subst hf
  exact g_ireturn dX7_usedSlots_7 rfl ⟨rfl, rfl⟩
def f_X7_undoable  (h_k : Int32) : Int32 := h_k
set_option maxRecDepth 20000 in
set_option maxHeartbeats 4000000 in
theorem ev_X7_undoable {l : Launch} {E : tEn} {cr : Value} {tl : tHp} {x_hs : Int32} {s_n : Int32} {s_sp : Int64} {s_sb : Int64} {s_sc : Int32} {s_f : List Int64} {s_st : List Int32} {v_n : Int32} {v_sp : Int64} {v_sb : Int64} {v_sc : Int32} {v_f : List Int64} {v_st : List Int32} {h_k : Int32} {h_s : List Int32} {h_c : List Int64} {g_k : Int32} {g_v : Int32} {g_p : List Int32} {g_a : List Int32} {g_t : List Int32} {c_k : Int32} {c_t : List Int32} {c_p : List Int32} {i_l : Int32} {i_n : Int32} {i_f : Int64} {i_p : Int32} {i_o : Int32} {i_b : List Int32} {w_l : Int32} {w_s : List Int32} {x_e : List Int32} {x_l : List Int32}  : tEv l E yX7_undoable cX7_undoable 1 (some .int) 1 0 0 [.ref 0] (encX x_hs s_n s_sp s_sb s_sc s_f s_st v_n v_sp v_sb v_sc v_f v_st h_k h_s h_c g_k g_v g_p g_a g_t c_k c_t c_p i_l i_n i_f i_p i_o i_b w_l w_s x_e x_l cr tl) (fun r h' => r = some (.int (f_X7_undoable h_k)) ∧ h' = encX x_hs s_n s_sp s_sb s_sc s_f s_st v_n v_sp v_sb v_sc v_f v_st h_k h_s h_c g_k g_v g_p g_a g_t c_k c_t c_p i_l i_n i_f i_p i_o i_b w_l w_s x_e x_l cr tl) := by
  refine tEv.of (own := RX7) (ini := false) (L := [(0, .ref 0)]) (by decide +kernel) rfl (fun h9 => nomatch h9) rfl (Nat.le_of_ble_eq_true rfl) ?_
  obtain ⟨res, hf⟩ : ∃ z, f_X7_undoable h_k = z := ⟨_, rfl⟩
  rw [hf]
  rw [f_X7_undoable] at hf
  refine g_aload_n 0 (q := 1) dX7_undoable_0 rfl rfl ?_
  refine g_get (q := 4) fl_X7_26 dX7_undoable_1 rfl rfl rfl ?_
  refine g_get (q := 7) fl_X7_270 dX7_undoable_4 rfl rfl rfl ?_
  subst hf
  exact g_ireturn dX7_undoable_7 rfl ⟨rfl, rfl⟩
def f_X0_tableAt (a0 : Int32) (k_k : Int32) (k_e : List Int64) : Option (Int64) := (if (f_X7_isIndex a0 k_k) = 0 then some (-1) else (tld k_e a0).bind fun r2 => some (tlushr r2 7))
set_option maxRecDepth 20000 in
set_option maxHeartbeats 4000000 in
theorem ev_X0_tableAt {l : Launch} {E : tEn} {cr : Value} {x_hs : Int32} {s_n : Int32} {s_sp : Int64} {s_sb : Int64} {s_sc : Int32} {s_f : List Int64} {s_st : List Int32} {v_n : Int32} {v_sp : Int64} {v_sb : Int64} {v_sc : Int32} {v_f : List Int64} {v_st : List Int32} {h_k : Int32} {h_s : List Int32} {h_c : List Int64} {g_k : Int32} {g_v : Int32} {g_p : List Int32} {g_a : List Int32} {g_t : List Int32} {c_k : Int32} {c_t : List Int32} {c_p : List Int32} {i_l : Int32} {i_n : Int32} {i_f : Int64} {i_p : Int32} {i_o : Int32} {i_b : List Int32} {w_l : Int32} {w_s : List Int32} {x_e : List Int32} {x_l : List Int32} {k_k : Int32} {k_e : List Int64} {k_s : List Int32} {a0 : Int32} {res : Int64} (hf : f_X0_tableAt a0 k_k k_e = some res) : tEv l E yX0_tableAt cX0_tableAt 2 (some .long) 2 0 0 [.ref 23, .int a0] (encX x_hs s_n s_sp s_sb s_sc s_f s_st v_n v_sp v_sb v_sc v_f v_st h_k h_s h_c g_k g_v g_p g_a g_t c_k c_t c_p i_l i_n i_f i_p i_o i_b w_l w_s x_e x_l cr (tlC k_k k_e k_s)) (fun r h' => r = some (.long res) ∧ h' = encX x_hs s_n s_sp s_sb s_sc s_f s_st v_n v_sp v_sb v_sc v_f v_st h_k h_s h_c g_k g_v g_p g_a g_t c_k c_t c_p i_l i_n i_f i_p i_o i_b w_l w_s x_e x_l cr (tlC k_k k_e k_s)) := by
  refine tEv.of (own := RX0) (ini := false) (L := [(0, .ref 23), (1, .int a0)]) (by decide +kernel) rfl (fun h9 => nomatch h9) rfl (Nat.le_of_ble_eq_true rfl) ?_
  rw [f_X0_tableAt] at hf
  refine g_iload_n 1 (q := 1) dX0_tableAt_0 rfl rfl ?_
  refine g_aload_n 0 (q := 2) dX0_tableAt_1 rfl rfl ?_
  refine g_get (q := 5) fl_X0_15 dX0_tableAt_2 rfl rfl rfl ?_
  refine g_callS (k2 := 0) (n2 := 0) (q := 8) (as := [.int a0, .int k_k]) (st := []) (st1 := [.int (f_X7_isIndex a0 k_k)]) tm_X7_isIndex ml_X0_32 ts_X7_isIndex dX0_tableAt_5 rfl ev_X7_isIndex rfl rfl (Nat.le_of_ble_eq_true rfl) (by decide) rfl rfl (Or.inl rfl) rfl ?_
  refine g_if_eq (t := 23) (q := 11) dX0_tableAt_8 (by decide) rfl (fun c1 => ?_) (fun c1 => ?_)
  · rw [if_pos c1] at hf
    refine g_ldc2_w (q := 26) kc_X0_36 dX0_tableAt_23 rfl ?_
    have hf := Option.some.inj hf
    subst hf
    exact g_lreturn dX0_tableAt_26 rfl ⟨rfl, rfl⟩
  · rw [if_neg c1] at hf
    refine g_aload_n 0 (q := 12) dX0_tableAt_11 rfl rfl ?_
    refine g_get (q := 15) fl_X0_11 dX0_tableAt_12 rfl rfl rfl ?_
    refine g_iload_n 1 (q := 16) dX0_tableAt_15 rfl rfl ?_
    obtain ⟨r2, e3, hf⟩ := Option.bind_eq_some_iff.mp hf
    refine g_laload (q := 17) dX0_tableAt_16 rfl rfl e3 ?_
    refine g_bipush (q := 19) (v := 7) dX0_tableAt_17 rfl rfl ?_
    refine g_lushr (q := 20) dX0_tableAt_19 rfl ?_
    refine g_goto (t := 26) dX0_tableAt_20 (by decide) ?_
    have hf := Option.some.inj hf
    subst hf
    exact g_lreturn dX0_tableAt_26 rfl ⟨rfl, rfl⟩
def f_X0_supportAt (a0 : Int32) (k_k : Int32) (k_e : List Int64) : Option (Int32) := (if (f_X7_isIndex a0 k_k) = 0 then some (-1) else (tld k_e a0).bind fun r2 => some ((Int64.toInt32 (tlushr r2 2)) &&& 31))
set_option maxRecDepth 20000 in
set_option maxHeartbeats 4000000 in
theorem ev_X0_supportAt {l : Launch} {E : tEn} {cr : Value} {x_hs : Int32} {s_n : Int32} {s_sp : Int64} {s_sb : Int64} {s_sc : Int32} {s_f : List Int64} {s_st : List Int32} {v_n : Int32} {v_sp : Int64} {v_sb : Int64} {v_sc : Int32} {v_f : List Int64} {v_st : List Int32} {h_k : Int32} {h_s : List Int32} {h_c : List Int64} {g_k : Int32} {g_v : Int32} {g_p : List Int32} {g_a : List Int32} {g_t : List Int32} {c_k : Int32} {c_t : List Int32} {c_p : List Int32} {i_l : Int32} {i_n : Int32} {i_f : Int64} {i_p : Int32} {i_o : Int32} {i_b : List Int32} {w_l : Int32} {w_s : List Int32} {x_e : List Int32} {x_l : List Int32} {k_k : Int32} {k_e : List Int64} {k_s : List Int32} {a0 : Int32} {res : Int32} (hf : f_X0_supportAt a0 k_k k_e = some res) : tEv l E yX0_supportAt cX0_supportAt 2 (some .int) 2 0 0 [.ref 23, .int a0] (encX x_hs s_n s_sp s_sb s_sc s_f s_st v_n v_sp v_sb v_sc v_f v_st h_k h_s h_c g_k g_v g_p g_a g_t c_k c_t c_p i_l i_n i_f i_p i_o i_b w_l w_s x_e x_l cr (tlC k_k k_e k_s)) (fun r h' => r = some (.int res) ∧ h' = encX x_hs s_n s_sp s_sb s_sc s_f s_st v_n v_sp v_sb v_sc v_f v_st h_k h_s h_c g_k g_v g_p g_a g_t c_k c_t c_p i_l i_n i_f i_p i_o i_b w_l w_s x_e x_l cr (tlC k_k k_e k_s)) := by
  refine tEv.of (own := RX0) (ini := false) (L := [(0, .ref 23), (1, .int a0)]) (by decide +kernel) rfl (fun h9 => nomatch h9) rfl (Nat.le_of_ble_eq_true rfl) ?_
  rw [f_X0_supportAt] at hf
  refine g_iload_n 1 (q := 1) dX0_supportAt_0 rfl rfl ?_
  refine g_aload_n 0 (q := 2) dX0_supportAt_1 rfl rfl ?_
  refine g_get (q := 5) fl_X0_15 dX0_supportAt_2 rfl rfl rfl ?_
  refine g_callS (k2 := 0) (n2 := 0) (q := 8) (as := [.int a0, .int k_k]) (st := []) (st1 := [.int (f_X7_isIndex a0 k_k)]) tm_X7_isIndex ml_X0_32 ts_X7_isIndex dX0_supportAt_5 rfl ev_X7_isIndex rfl rfl (Nat.le_of_ble_eq_true rfl) (by decide) rfl rfl (Or.inl rfl) rfl ?_
  refine g_if_eq (t := 26) (q := 11) dX0_supportAt_8 (by decide) rfl (fun c1 => ?_) (fun c1 => ?_)
  · rw [if_pos c1] at hf
    refine g_iconst (q := 27) (v := (-1)) dX0_supportAt_26 rfl rfl ?_
    have hf := Option.some.inj hf
    subst hf
    exact g_ireturn dX0_supportAt_27 rfl ⟨rfl, rfl⟩
  · rw [if_neg c1] at hf
    refine g_aload_n 0 (q := 12) dX0_supportAt_11 rfl rfl ?_
    refine g_get (q := 15) fl_X0_11 dX0_supportAt_12 rfl rfl rfl ?_
    refine g_iload_n 1 (q := 16) dX0_supportAt_15 rfl rfl ?_
    obtain ⟨r2, e3, hf⟩ := Option.bind_eq_some_iff.mp hf
    refine g_laload (q := 17) dX0_supportAt_16 rfl rfl e3 ?_
    refine g_iconst (q := 18) (v := 2) dX0_supportAt_17 rfl rfl ?_
    refine g_lushr (q := 19) dX0_supportAt_18 rfl ?_
    refine g_l2i (q := 20) dX0_supportAt_19 rfl ?_
    refine g_bipush (q := 22) (v := 31) dX0_supportAt_20 rfl rfl ?_
    refine g_iand (q := 23) dX0_supportAt_22 rfl ?_
    refine g_goto (t := 27) dX0_supportAt_23 (by decide) ?_
    have hf := Option.some.inj hf
    subst hf
    exact g_ireturn dX0_supportAt_27 rfl ⟨rfl, rfl⟩
def f_X7_isExtension (a0 : Int32) (s_n : Int32) (s_sp : Int64) (s_sb : Int64) (k_k : Int32) (k_e : List Int64) : Option (Int32) := (f_X0_tableAt a0 k_k k_e).bind fun r1 => (f_X0_supportAt a0 k_k k_e).bind fun r3 => (if (f_X7_isPoint r3 s_n) = 0 then some 0 else (if (lg_cmp ((r1 ^^^ s_sb) &&& s_sp) 0) = 0 then some 1 else some 0))
set_option maxRecDepth 20000 in
set_option maxHeartbeats 4000000 in
theorem ev_X7_isExtension {l : Launch} {E : tEn} {cr : Value} {x_hs : Int32} {s_n : Int32} {s_sp : Int64} {s_sb : Int64} {s_sc : Int32} {s_f : List Int64} {s_st : List Int32} {v_n : Int32} {v_sp : Int64} {v_sb : Int64} {v_sc : Int32} {v_f : List Int64} {v_st : List Int32} {h_k : Int32} {h_s : List Int32} {h_c : List Int64} {g_k : Int32} {g_v : Int32} {g_p : List Int32} {g_a : List Int32} {g_t : List Int32} {c_k : Int32} {c_t : List Int32} {c_p : List Int32} {i_l : Int32} {i_n : Int32} {i_f : Int64} {i_p : Int32} {i_o : Int32} {i_b : List Int32} {w_l : Int32} {w_s : List Int32} {x_e : List Int32} {x_l : List Int32} {k_k : Int32} {k_e : List Int64} {k_s : List Int32} {a0 : Int32} {res : Int32} (hf : f_X7_isExtension a0 s_n s_sp s_sb k_k k_e = some res) : tEv l E yX7_isExtension cX7_isExtension 5 (some .boolean) 3 0 0 [.ref 0, .ref 23, .int a0] (encX x_hs s_n s_sp s_sb s_sc s_f s_st v_n v_sp v_sb v_sc v_f v_st h_k h_s h_c g_k g_v g_p g_a g_t c_k c_t c_p i_l i_n i_f i_p i_o i_b w_l w_s x_e x_l cr (tlC k_k k_e k_s)) (fun r h' => r = some (.int res) ∧ h' = encX x_hs s_n s_sp s_sb s_sc s_f s_st v_n v_sp v_sb v_sc v_f v_st h_k h_s h_c g_k g_v g_p g_a g_t c_k c_t c_p i_l i_n i_f i_p i_o i_b w_l w_s x_e x_l cr (tlC k_k k_e k_s)) := by
  refine tEv.of (own := RX7) (ini := false) (L := [(0, .ref 0), (1, .ref 23), (2, .int a0)]) (by decide +kernel) rfl (fun h9 => nomatch h9) rfl (Nat.le_of_ble_eq_true rfl) ?_
  rw [f_X7_isExtension] at hf
  refine g_aload_n 1 (q := 1) dX7_isExtension_0 rfl rfl ?_
  refine g_iload_n 2 (q := 2) dX7_isExtension_1 rfl rfl ?_
  obtain ⟨r1, e2, hf⟩ := Option.bind_eq_some_iff.mp hf
  refine g_callV (a := 23) (k2 := 0) (n2 := 0) (q := 5) (as := [.int a0]) (st := []) (st1 := [.long r1]) tm_X0_tableAt ml_X7_250 ti_X0_tableAt rfl rfl dX7_isExtension_2 rfl (ev_X0_tableAt e2) rfl rfl (Nat.le_of_ble_eq_true rfl) (by decide) rfl rfl (Or.inl rfl) rfl ?_
  refine g_aload_n 0 (q := 6) dX7_isExtension_5 rfl rfl ?_
  refine g_get (q := 9) fl_X7_10 dX7_isExtension_6 rfl rfl rfl ?_
  refine g_get (q := 12) fl_X7_231 dX7_isExtension_9 rfl rfl rfl ?_
  refine g_lxor (q := 13) dX7_isExtension_12 rfl ?_
  refine g_aload_n 0 (q := 14) dX7_isExtension_13 rfl rfl ?_
  refine g_get (q := 17) fl_X7_10 dX7_isExtension_14 rfl rfl rfl ?_
  refine g_get (q := 20) fl_X7_227 dX7_isExtension_17 rfl rfl rfl ?_
  refine g_land (q := 21) dX7_isExtension_20 rfl ?_
  refine g_lstore_n (q := 22) (L' := [(0, .ref 0), (1, .ref 23), (2, .int a0), (3, .long ((r1 ^^^ s_sb) &&& s_sp))]) dX7_isExtension_21 rfl (by decide) rfl ?_
  refine g_aload_n 0 (q := 23) dX7_isExtension_22 rfl rfl ?_
  refine g_aload_n 1 (q := 24) dX7_isExtension_23 rfl rfl ?_
  refine g_iload_n 2 (q := 25) dX7_isExtension_24 rfl rfl ?_
  obtain ⟨r3, e4, hf⟩ := Option.bind_eq_some_iff.mp hf
  refine g_callV (a := 23) (k2 := 0) (n2 := 0) (q := 28) (as := [.int a0]) (st := [.ref 0]) (st1 := [.int r3, .ref 0]) tm_X0_supportAt ml_X7_253 ti_X0_supportAt rfl rfl dX7_isExtension_25 rfl (ev_X0_supportAt e4) rfl rfl (Nat.le_of_ble_eq_true rfl) (by decide) rfl rfl (Or.inl rfl) rfl ?_
  refine g_callV (a := 0) (k2 := 0) (n2 := 0) (q := 31) (as := [.int r3]) (st := []) (st1 := [.int (f_X7_isPoint r3 s_n)]) tm_X7_isPoint ml_X7_112 ti_X7_isPoint rfl rfl dX7_isExtension_28 rfl ev_X7_isPoint rfl rfl (Nat.le_of_ble_eq_true rfl) (by decide) rfl rfl (Or.inl rfl) rfl ?_
  refine g_if_eq (t := 44) (q := 34) dX7_isExtension_31 (by decide) rfl (fun c5 => ?_) (fun c5 => ?_)
  · rw [if_pos c5] at hf
    refine g_iconst (q := 45) (v := 0) dX7_isExtension_44 rfl rfl ?_
    have hf := Option.some.inj hf
    subst hf
    exact g_zreturn (Or.inl rfl) dX7_isExtension_45 rfl ⟨rfl, rfl⟩
  · rw [if_neg c5] at hf
    refine g_lload_n 3 (q := 35) dX7_isExtension_34 rfl rfl ?_
    refine g_lconst (q := 36) (v := 0) dX7_isExtension_35 rfl rfl ?_
    refine g_lcmp (q := 37) dX7_isExtension_36 rfl ?_
    refine g_if_ne (t := 44) (q := 40) dX7_isExtension_37 (by decide) rfl (fun c6 => ?_) (fun c6 => ?_)
    · rw [if_neg c6] at hf
      refine g_iconst (q := 45) (v := 0) dX7_isExtension_44 rfl rfl ?_
      have hf := Option.some.inj hf
      subst hf
      exact g_zreturn (Or.inl rfl) dX7_isExtension_45 rfl ⟨rfl, rfl⟩
    · rw [if_pos c6] at hf
      refine g_iconst (q := 41) (v := 1) dX7_isExtension_40 rfl rfl ?_
      refine g_goto (t := 45) dX7_isExtension_41 (by decide) ?_
      have hf := Option.some.inj hf
      subst hf
      exact g_zreturn (Or.inr rfl) dX7_isExtension_45 rfl ⟨rfl, rfl⟩
def f_X0_rootAt (a0 : Int32) (k_k : Int32) (k_e : List Int64) : Option (Int32) := (if (f_X7_isIndex a0 k_k) = 0 then some (-1) else (tld k_e a0).bind fun r2 => some ((Int64.toInt32 r2) &&& 3))
set_option maxRecDepth 20000 in
set_option maxHeartbeats 4000000 in
theorem ev_X0_rootAt {l : Launch} {E : tEn} {cr : Value} {x_hs : Int32} {s_n : Int32} {s_sp : Int64} {s_sb : Int64} {s_sc : Int32} {s_f : List Int64} {s_st : List Int32} {v_n : Int32} {v_sp : Int64} {v_sb : Int64} {v_sc : Int32} {v_f : List Int64} {v_st : List Int32} {h_k : Int32} {h_s : List Int32} {h_c : List Int64} {g_k : Int32} {g_v : Int32} {g_p : List Int32} {g_a : List Int32} {g_t : List Int32} {c_k : Int32} {c_t : List Int32} {c_p : List Int32} {i_l : Int32} {i_n : Int32} {i_f : Int64} {i_p : Int32} {i_o : Int32} {i_b : List Int32} {w_l : Int32} {w_s : List Int32} {x_e : List Int32} {x_l : List Int32} {k_k : Int32} {k_e : List Int64} {k_s : List Int32} {a0 : Int32} {res : Int32} (hf : f_X0_rootAt a0 k_k k_e = some res) : tEv l E yX0_rootAt cX0_rootAt 2 (some .int) 2 0 0 [.ref 23, .int a0] (encX x_hs s_n s_sp s_sb s_sc s_f s_st v_n v_sp v_sb v_sc v_f v_st h_k h_s h_c g_k g_v g_p g_a g_t c_k c_t c_p i_l i_n i_f i_p i_o i_b w_l w_s x_e x_l cr (tlC k_k k_e k_s)) (fun r h' => r = some (.int res) ∧ h' = encX x_hs s_n s_sp s_sb s_sc s_f s_st v_n v_sp v_sb v_sc v_f v_st h_k h_s h_c g_k g_v g_p g_a g_t c_k c_t c_p i_l i_n i_f i_p i_o i_b w_l w_s x_e x_l cr (tlC k_k k_e k_s)) := by
  refine tEv.of (own := RX0) (ini := false) (L := [(0, .ref 23), (1, .int a0)]) (by decide +kernel) rfl (fun h9 => nomatch h9) rfl (Nat.le_of_ble_eq_true rfl) ?_
  rw [f_X0_rootAt] at hf
  refine g_iload_n 1 (q := 1) dX0_rootAt_0 rfl rfl ?_
  refine g_aload_n 0 (q := 2) dX0_rootAt_1 rfl rfl ?_
  refine g_get (q := 5) fl_X0_15 dX0_rootAt_2 rfl rfl rfl ?_
  refine g_callS (k2 := 0) (n2 := 0) (q := 8) (as := [.int a0, .int k_k]) (st := []) (st1 := [.int (f_X7_isIndex a0 k_k)]) tm_X7_isIndex ml_X0_32 ts_X7_isIndex dX0_rootAt_5 rfl ev_X7_isIndex rfl rfl (Nat.le_of_ble_eq_true rfl) (by decide) rfl rfl (Or.inl rfl) rfl ?_
  refine g_if_eq (t := 23) (q := 11) dX0_rootAt_8 (by decide) rfl (fun c1 => ?_) (fun c1 => ?_)
  · rw [if_pos c1] at hf
    refine g_iconst (q := 24) (v := (-1)) dX0_rootAt_23 rfl rfl ?_
    have hf := Option.some.inj hf
    subst hf
    exact g_ireturn dX0_rootAt_24 rfl ⟨rfl, rfl⟩
  · rw [if_neg c1] at hf
    refine g_aload_n 0 (q := 12) dX0_rootAt_11 rfl rfl ?_
    refine g_get (q := 15) fl_X0_11 dX0_rootAt_12 rfl rfl rfl ?_
    refine g_iload_n 1 (q := 16) dX0_rootAt_15 rfl rfl ?_
    obtain ⟨r2, e3, hf⟩ := Option.bind_eq_some_iff.mp hf
    refine g_laload (q := 17) dX0_rootAt_16 rfl rfl e3 ?_
    refine g_l2i (q := 18) dX0_rootAt_17 rfl ?_
    refine g_iconst (q := 19) (v := 3) dX0_rootAt_18 rfl rfl ?_
    refine g_iand (q := 20) dX0_rootAt_19 rfl ?_
    refine g_goto (t := 24) dX0_rootAt_20 (by decide) ?_
    have hf := Option.some.inj hf
    subst hf
    exact g_ireturn dX0_rootAt_24 rfl ⟨rfl, rfl⟩
def f_X0_enter (a0 : Int64) (a1 : Int32) (a2 : Int32) (k_k : Int32) (k_e : List Int64) : Option (Int32 × List Int64) := (if 839 ≤ k_k then some (k_k, k_e) else (tst k_e k_k (((tlshl a0 7) ||| (tlshl (Int32.toInt64 a1) 2)) ||| (Int32.toInt64 a2))).bind fun z2 => some ((k_k + 1), z2))
set_option maxRecDepth 20000 in
set_option maxHeartbeats 4000000 in
theorem ev_X0_enter {l : Launch} {E : tEn} {cr : Value} {x_hs : Int32} {s_n : Int32} {s_sp : Int64} {s_sb : Int64} {s_sc : Int32} {s_f : List Int64} {s_st : List Int32} {v_n : Int32} {v_sp : Int64} {v_sb : Int64} {v_sc : Int32} {v_f : List Int64} {v_st : List Int32} {h_k : Int32} {h_s : List Int32} {h_c : List Int64} {g_k : Int32} {g_v : Int32} {g_p : List Int32} {g_a : List Int32} {g_t : List Int32} {c_k : Int32} {c_t : List Int32} {c_p : List Int32} {i_l : Int32} {i_n : Int32} {i_f : Int64} {i_p : Int32} {i_o : Int32} {i_b : List Int32} {w_l : Int32} {w_s : List Int32} {x_e : List Int32} {x_l : List Int32} {k_k : Int32} {k_e : List Int64} {k_s : List Int32} {a0 : Int64} {a1 : Int32} {a2 : Int32} {res : Int32 × List Int64} (hf : f_X0_enter a0 a1 a2 k_k k_e = some res) : tEv l E yX0_enter cX0_enter 5 none 1 0 0 [.ref 23, .long a0, .int a1, .int a2] (encX x_hs s_n s_sp s_sb s_sc s_f s_st v_n v_sp v_sb v_sc v_f v_st h_k h_s h_c g_k g_v g_p g_a g_t c_k c_t c_p i_l i_n i_f i_p i_o i_b w_l w_s x_e x_l cr (tlC k_k k_e k_s)) (fun r h' => r = none ∧ h' = encX x_hs s_n s_sp s_sb s_sc s_f s_st v_n v_sp v_sb v_sc v_f v_st h_k h_s h_c g_k g_v g_p g_a g_t c_k c_t c_p i_l i_n i_f i_p i_o i_b w_l w_s x_e x_l cr (tlC (res.1) (res.2) k_s)) := by
  refine tEv.of (own := RX0) (ini := false) (L := [(0, .ref 23), (1, .long a0), (3, .int a1), (4, .int a2)]) (by decide +kernel) rfl (fun h9 => nomatch h9) rfl (Nat.le_of_ble_eq_true rfl) ?_
  rw [f_X0_enter] at hf
  refine g_aload_n 0 (q := 1) dX0_enter_0 rfl rfl ?_
  refine g_get (q := 4) fl_X0_15 dX0_enter_1 rfl rfl rfl ?_
  refine g_sipush (q := 7) (v := 839) dX0_enter_4 rfl rfl ?_
  refine g_icmp_ge (t := 42) (q := 10) dX0_enter_7 (by decide) rfl (fun c1 => ?_) (fun c1 => ?_)
  · rw [if_pos c1] at hf
    have hf := Option.some.inj hf
    subst hf
    exact g_return dX0_enter_42 rfl ⟨rfl, rfl⟩
  · rw [if_neg c1] at hf
    refine g_aload_n 0 (q := 11) dX0_enter_10 rfl rfl ?_
    refine g_get (q := 14) fl_X0_11 dX0_enter_11 rfl rfl rfl ?_
    refine g_aload_n 0 (q := 15) dX0_enter_14 rfl rfl ?_
    refine g_get (q := 18) fl_X0_15 dX0_enter_15 rfl rfl rfl ?_
    refine g_lload_n 1 (q := 19) dX0_enter_18 rfl rfl ?_
    refine g_bipush (q := 21) (v := 7) dX0_enter_19 rfl rfl ?_
    refine g_lshl (q := 22) dX0_enter_21 rfl ?_
    refine g_iload_n 2 (q := 23) dX0_enter_22 rfl rfl ?_
    refine g_i2l (q := 24) dX0_enter_23 rfl ?_
    refine g_iconst (q := 25) (v := 2) dX0_enter_24 rfl rfl ?_
    refine g_lshl (q := 26) dX0_enter_25 rfl ?_
    refine g_lor (q := 27) dX0_enter_26 rfl ?_
    refine g_iload 3 (q := 29) dX0_enter_27 rfl rfl ?_
    refine g_i2l (q := 30) dX0_enter_29 rfl ?_
    refine g_lor (q := 31) dX0_enter_30 rfl ?_
    obtain ⟨z2, e3, hf⟩ := Option.bind_eq_some_iff.mp hf
    refine g_lastore (q := 32) (h' := encX x_hs s_n s_sp s_sb s_sc s_f s_st v_n v_sp v_sb v_sc v_f v_st h_k h_s h_c g_k g_v g_p g_a g_t c_k c_t c_p i_l i_n i_f i_p i_o i_b w_l w_s x_e x_l cr (tlC k_k z2 k_s)) dX0_enter_31 rfl rfl e3 rfl ?_
    refine g_aload_n 0 (q := 33) dX0_enter_32 rfl rfl ?_
    refine g_dup (q := 34) dX0_enter_33 rfl rfl ?_
    refine g_get (q := 37) fl_X0_15 dX0_enter_34 rfl rfl rfl ?_
    refine g_iconst (q := 38) (v := 1) dX0_enter_37 rfl rfl ?_
    refine g_iadd (q := 39) dX0_enter_38 rfl ?_
    refine g_put (q := 42) (h' := encX x_hs s_n s_sp s_sb s_sc s_f s_st v_n v_sp v_sb v_sc v_f v_st h_k h_s h_c g_k g_v g_p g_a g_t c_k c_t c_p i_l i_n i_f i_p i_o i_b w_l w_s x_e x_l cr (tlC (k_k + 1) z2 k_s)) fp_X0_15 dX0_enter_39 rfl rfl (Nat.le_of_ble_eq_true rfl) (fun _ => ⟨rfl, rfl⟩) rfl ?_
    have hf := Option.some.inj hf
    subst hf
    exact g_return dX0_enter_42 rfl ⟨rfl, rfl⟩
def f_X0_enterJoined (a0 : Int64) (a1 : Int32) (a2 : Int64) (a3 : Int32) (k_k : Int32) (k_e : List Int64) : Option (Int32 × List Int64) := (if a1 = 1 then (if a1 = 2 then some (k_k, k_e) else (f_X0_enter (a0 ||| a2) a3 2 k_k k_e).bind fun r3 => some (r3.1, r3.2)) else (f_X0_enter (a0 &&& a2) a3 1 k_k k_e).bind fun r5 => (if a1 = 2 then some (r5.1, r5.2) else (f_X0_enter (a0 ||| a2) a3 2 (r5.1) (r5.2)).bind fun r8 => some (r8.1, r8.2)))
set_option maxRecDepth 20000 in
set_option maxHeartbeats 4000000 in
theorem ev_X0_enterJoined {l : Launch} {E : tEn} {cr : Value} {x_hs : Int32} {s_n : Int32} {s_sp : Int64} {s_sb : Int64} {s_sc : Int32} {s_f : List Int64} {s_st : List Int32} {v_n : Int32} {v_sp : Int64} {v_sb : Int64} {v_sc : Int32} {v_f : List Int64} {v_st : List Int32} {h_k : Int32} {h_s : List Int32} {h_c : List Int64} {g_k : Int32} {g_v : Int32} {g_p : List Int32} {g_a : List Int32} {g_t : List Int32} {c_k : Int32} {c_t : List Int32} {c_p : List Int32} {i_l : Int32} {i_n : Int32} {i_f : Int64} {i_p : Int32} {i_o : Int32} {i_b : List Int32} {w_l : Int32} {w_s : List Int32} {x_e : List Int32} {x_l : List Int32} {k_k : Int32} {k_e : List Int64} {k_s : List Int32} {a0 : Int64} {a1 : Int32} {a2 : Int64} {a3 : Int32} {res : Int32 × List Int64} (hf : f_X0_enterJoined a0 a1 a2 a3 k_k k_e = some res) : tEv l E yX0_enterJoined cX0_enterJoined 7 none 2 0 0 [.ref 23, .long a0, .int a1, .long a2, .int a3] (encX x_hs s_n s_sp s_sb s_sc s_f s_st v_n v_sp v_sb v_sc v_f v_st h_k h_s h_c g_k g_v g_p g_a g_t c_k c_t c_p i_l i_n i_f i_p i_o i_b w_l w_s x_e x_l cr (tlC k_k k_e k_s)) (fun r h' => r = none ∧ h' = encX x_hs s_n s_sp s_sb s_sc s_f s_st v_n v_sp v_sb v_sc v_f v_st h_k h_s h_c g_k g_v g_p g_a g_t c_k c_t c_p i_l i_n i_f i_p i_o i_b w_l w_s x_e x_l cr (tlC (res.1) (res.2) k_s)) := by
  refine tEv.of (own := RX0) (ini := false) (L := [(0, .ref 23), (1, .long a0), (3, .int a1), (4, .long a2), (6, .int a3)]) (by decide +kernel) rfl (fun h9 => nomatch h9) rfl (Nat.le_of_ble_eq_true rfl) ?_
  rw [f_X0_enterJoined] at hf
  refine g_iload_n 2 (q := 1) dX0_enterJoined_0 rfl rfl ?_
  refine g_iconst (q := 2) (v := 1) dX0_enterJoined_1 rfl rfl ?_
  refine g_icmp_eq (t := 16) (q := 5) dX0_enterJoined_2 (by decide) rfl (fun c1 => ?_) (fun c1 => ?_)
  · rw [if_pos c1] at hf
    refine g_iload_n 2 (q := 17) dX0_enterJoined_16 rfl rfl ?_
    refine g_iconst (q := 18) (v := 2) dX0_enterJoined_17 rfl rfl ?_
    refine g_icmp_eq (t := 32) (q := 21) dX0_enterJoined_18 (by decide) rfl (fun c2 => ?_) (fun c2 => ?_)
    · rw [if_pos c2] at hf
      have hf := Option.some.inj hf
      subst hf
      exact g_return dX0_enterJoined_32 rfl ⟨rfl, rfl⟩
    · rw [if_neg c2] at hf
      refine g_aload_n 0 (q := 22) dX0_enterJoined_21 rfl rfl ?_
      refine g_lload_n 1 (q := 23) dX0_enterJoined_22 rfl rfl ?_
      refine g_lload 3 (q := 25) dX0_enterJoined_23 rfl rfl ?_
      refine g_lor (q := 26) dX0_enterJoined_25 rfl ?_
      refine g_iload 4 (q := 28) dX0_enterJoined_26 rfl rfl ?_
      refine g_iconst (q := 29) (v := 2) dX0_enterJoined_28 rfl rfl ?_
      obtain ⟨r3, e4, hf⟩ := Option.bind_eq_some_iff.mp hf
      refine g_callV (a := 23) (k2 := 0) (n2 := 0) (q := 32) (as := [.long (a0 ||| a2), .int a3, .int 2]) (st := []) (st1 := []) tm_X0_enter ml_X0_19 ti_X0_enter rfl rfl dX0_enterJoined_29 rfl (ev_X0_enter e4) rfl rfl (Nat.le_of_ble_eq_true rfl) (by decide) rfl rfl (Or.inl (encC_len.trans encC_len.symm)) rfl ?_
      have hf := Option.some.inj hf
      subst hf
      exact g_return dX0_enterJoined_32 rfl ⟨rfl, rfl⟩
  · rw [if_neg c1] at hf
    refine g_aload_n 0 (q := 6) dX0_enterJoined_5 rfl rfl ?_
    refine g_lload_n 1 (q := 7) dX0_enterJoined_6 rfl rfl ?_
    refine g_lload 3 (q := 9) dX0_enterJoined_7 rfl rfl ?_
    refine g_land (q := 10) dX0_enterJoined_9 rfl ?_
    refine g_iload 4 (q := 12) dX0_enterJoined_10 rfl rfl ?_
    refine g_iconst (q := 13) (v := 1) dX0_enterJoined_12 rfl rfl ?_
    obtain ⟨r5, e6, hf⟩ := Option.bind_eq_some_iff.mp hf
    refine g_callV (a := 23) (k2 := 0) (n2 := 0) (q := 16) (as := [.long (a0 &&& a2), .int a3, .int 1]) (st := []) (st1 := []) tm_X0_enter ml_X0_19 ti_X0_enter rfl rfl dX0_enterJoined_13 rfl (ev_X0_enter e6) rfl rfl (Nat.le_of_ble_eq_true rfl) (by decide) rfl rfl (Or.inl (encC_len.trans encC_len.symm)) rfl ?_
    refine g_iload_n 2 (q := 17) dX0_enterJoined_16 rfl rfl ?_
    refine g_iconst (q := 18) (v := 2) dX0_enterJoined_17 rfl rfl ?_
    refine g_icmp_eq (t := 32) (q := 21) dX0_enterJoined_18 (by decide) rfl (fun c7 => ?_) (fun c7 => ?_)
    · rw [if_pos c7] at hf
      have hf := Option.some.inj hf
      subst hf
      exact g_return dX0_enterJoined_32 rfl ⟨rfl, rfl⟩
    · rw [if_neg c7] at hf
      refine g_aload_n 0 (q := 22) dX0_enterJoined_21 rfl rfl ?_
      refine g_lload_n 1 (q := 23) dX0_enterJoined_22 rfl rfl ?_
      refine g_lload 3 (q := 25) dX0_enterJoined_23 rfl rfl ?_
      refine g_lor (q := 26) dX0_enterJoined_25 rfl ?_
      refine g_iload 4 (q := 28) dX0_enterJoined_26 rfl rfl ?_
      refine g_iconst (q := 29) (v := 2) dX0_enterJoined_28 rfl rfl ?_
      obtain ⟨r8, e9, hf⟩ := Option.bind_eq_some_iff.mp hf
      refine g_callV (a := 23) (k2 := 0) (n2 := 0) (q := 32) (as := [.long (a0 ||| a2), .int a3, .int 2]) (st := []) (st1 := []) tm_X0_enter ml_X0_19 ti_X0_enter rfl rfl dX0_enterJoined_29 rfl (ev_X0_enter e9) rfl rfl (Nat.le_of_ble_eq_true rfl) (by decide) rfl rfl (Or.inl (encC_len.trans encC_len.symm)) rfl ?_
      have hf := Option.some.inj hf
      subst hf
      exact g_return dX0_enterJoined_32 rfl ⟨rfl, rfl⟩
def f_X0_enterSplit_L20 (w1 : Int32) (w2 : Int32) (w4 : Int32) (k_s : List Int32) (K : Int32 → List Int64 → Option (Int32 × List Int64)) : Nat → Int32 → Int32 → List Int64 → Option (Int32 × List Int64)
  | 0, _, _, _ => none
  | fu + 1, v5, k_k, k_e => (tld k_s (w2 + 1)).bind fun r8 => (if r8 ≤ v5 then K  k_k k_e else (f_X0_tableAt w4 k_k k_e).bind fun r11 => (f_X0_rootAt w4 k_k k_e).bind fun r13 => (f_X0_tableAt v5 k_k k_e).bind fun r15 => (f_X0_enterJoined r11 r13 r15 (w1 ||| w2) k_k k_e).bind fun r17 => f_X0_enterSplit_L20 w1 w2 w4 k_s K fu (v5 + 1) (r17.1) (r17.2))
def f_X0_enterSplit_L5 (w1 : Int32) (w2 : Int32) (k_s : List Int32) (K : Int32 → List Int64 → Option (Int32 × List Int64)) : Nat → Int32 → Int32 → List Int64 → Option (Int32 × List Int64)
  | 0, _, _, _ => none
  | fu + 1, v4, k_k, k_e => (tld k_s (w1 + 1)).bind fun r3 => (if r3 ≤ v4 then K  k_k k_e else (tld k_s w2).bind fun r6 => f_X0_enterSplit_L20 w1 w2 v4 k_s (fun k19 k20 => f_X0_enterSplit_L5 w1 w2 k_s K fu (v4 + 1) k19 k20) tFU r6 k_k k_e)
def f_X0_enterSplit (a0 : Int32) (a1 : Int32) (k_k : Int32) (k_e : List Int64) (k_s : List Int32) : Option (Int32 × List Int64) := (tld k_s a0).bind fun r1 => f_X0_enterSplit_L5 a0 a1 k_s (fun k21 k22 => some (k21, k22)) tFU r1 k_k k_e
set_option maxRecDepth 20000 in
set_option maxHeartbeats 4000000 in
theorem ev_X0_enterSplit_L20 {l : Launch} {E : tEn} {cr : Value}  {x_hs : Int32} {s_n : Int32} {s_sp : Int64} {s_sb : Int64} {s_sc : Int32} {s_f : List Int64} {s_st : List Int32} {v_n : Int32} {v_sp : Int64} {v_sb : Int64} {v_sc : Int32} {v_f : List Int64} {v_st : List Int32} {h_k : Int32} {h_s : List Int32} {h_c : List Int64} {g_k : Int32} {g_v : Int32} {g_p : List Int32} {g_a : List Int32} {g_t : List Int32} {c_k : Int32} {c_t : List Int32} {c_p : List Int32} {i_l : Int32} {i_n : Int32} {i_f : Int64} {i_p : Int32} {i_o : Int32} {i_b : List Int32} {w_l : Int32} {w_s : List Int32} {x_e : List Int32} {x_l : List Int32} {k_s : List Int32} {w1 : Int32} {w2 : Int32} {w4 : Int32} {K : Int32 → List Int64 → Option (Int32 × List Int64)} (hK : ∀  (k_k : Int32) (k_e : List Int64) (res : Int32 × List Int64), K k_k k_e = some res → tG l E RX0 cX0_enterSplit 6 none false 3 (fun r h' => r = none ∧ h' = encX x_hs s_n s_sp s_sb s_sc s_f s_st v_n v_sp v_sb v_sc v_f v_st h_k h_s h_c g_k g_v g_p g_a g_t c_k c_t c_p i_l i_n i_f i_p i_o i_b w_l w_s x_e x_l cr (tlC (res.1) (res.2) k_s)) 0 0 61 [(0, .ref 23), (1, .int w1), (2, .int w2), (3, .ref 25), (4, .int w4)] [] (encX x_hs s_n s_sp s_sb s_sc s_f s_st v_n v_sp v_sb v_sc v_f v_st h_k h_s h_c g_k g_v g_p g_a g_t c_k c_t c_p i_l i_n i_f i_p i_o i_b w_l w_s x_e x_l cr (tlC k_k k_e k_s))) :
    ∀ (fu : Nat) (v5 : Int32) (k_k : Int32) (k_e : List Int64) (res : Int32 × List Int64), f_X0_enterSplit_L20 w1 w2 w4 k_s K fu v5 k_k k_e = some res → tG l E RX0 cX0_enterSplit 6 none false 3 (fun r h' => r = none ∧ h' = encX x_hs s_n s_sp s_sb s_sc s_f s_st v_n v_sp v_sb v_sc v_f v_st h_k h_s h_c g_k g_v g_p g_a g_t c_k c_t c_p i_l i_n i_f i_p i_o i_b w_l w_s x_e x_l cr (tlC (res.1) (res.2) k_s)) 0 0 20 [(0, .ref 23), (1, .int w1), (2, .int w2), (3, .ref 25), (4, .int w4), (5, .int v5)] [] (encX x_hs s_n s_sp s_sb s_sc s_f s_st v_n v_sp v_sb v_sc v_f v_st h_k h_s h_c g_k g_v g_p g_a g_t c_k c_t c_p i_l i_n i_f i_p i_o i_b w_l w_s x_e x_l cr (tlC k_k k_e k_s)) := by
  intro fu
  induction fu with
  | zero => intro v5 k_k k_e res hf; exact nomatch (show none = some res from hf)
  | succ fu ih =>
    intro v5 k_k k_e res hf
    rw [f_X0_enterSplit_L20] at hf
    refine g_iload 5 (q := 22) dX0_enterSplit_20 rfl rfl ?_
    refine g_aload_n 3 (q := 23) dX0_enterSplit_22 rfl rfl ?_
    refine g_iload_n 2 (q := 24) dX0_enterSplit_23 rfl rfl ?_
    refine g_iconst (q := 25) (v := 1) dX0_enterSplit_24 rfl rfl ?_
    refine g_iadd (q := 26) dX0_enterSplit_25 rfl ?_
    obtain ⟨r8, e9, hf⟩ := Option.bind_eq_some_iff.mp hf
    refine g_iaload (q := 27) dX0_enterSplit_26 rfl rfl e9 ?_
    refine g_icmp_ge (t := 61) (q := 30) dX0_enterSplit_27 (by decide) rfl (fun c10 => ?_) (fun c10 => ?_)
    · rw [if_pos c10] at hf
      refine g_ls [0, 1, 2, 3, 4] rfl ?_
      exact hK _ _ _ hf
    · rw [if_neg c10] at hf
      refine g_aload_n 0 (q := 31) dX0_enterSplit_30 rfl rfl ?_
      refine g_aload_n 0 (q := 32) dX0_enterSplit_31 rfl rfl ?_
      refine g_iload 4 (q := 34) dX0_enterSplit_32 rfl rfl ?_
      obtain ⟨r11, e12, hf⟩ := Option.bind_eq_some_iff.mp hf
      refine g_callV (a := 23) (k2 := 0) (n2 := 0) (q := 37) (as := [.int w4]) (st := [.ref 23]) (st1 := [.long r11, .ref 23]) tm_X0_tableAt ml_X0_52 ti_X0_tableAt rfl rfl dX0_enterSplit_34 rfl (ev_X0_tableAt e12) rfl rfl (Nat.le_of_ble_eq_true rfl) (by decide) rfl rfl (Or.inl rfl) rfl ?_
      refine g_aload_n 0 (q := 38) dX0_enterSplit_37 rfl rfl ?_
      refine g_iload 4 (q := 40) dX0_enterSplit_38 rfl rfl ?_
      obtain ⟨r13, e14, hf⟩ := Option.bind_eq_some_iff.mp hf
      refine g_callV (a := 23) (k2 := 0) (n2 := 0) (q := 43) (as := [.int w4]) (st := [.long r11, .ref 23]) (st1 := [.int r13, .long r11, .ref 23]) tm_X0_rootAt ml_X0_56 ti_X0_rootAt rfl rfl dX0_enterSplit_40 rfl (ev_X0_rootAt e14) rfl rfl (Nat.le_of_ble_eq_true rfl) (by decide) rfl rfl (Or.inl rfl) rfl ?_
      refine g_aload_n 0 (q := 44) dX0_enterSplit_43 rfl rfl ?_
      refine g_iload 5 (q := 46) dX0_enterSplit_44 rfl rfl ?_
      obtain ⟨r15, e16, hf⟩ := Option.bind_eq_some_iff.mp hf
      refine g_callV (a := 23) (k2 := 0) (n2 := 0) (q := 49) (as := [.int v5]) (st := [.int r13, .long r11, .ref 23]) (st1 := [.long r15, .int r13, .long r11, .ref 23]) tm_X0_tableAt ml_X0_52 ti_X0_tableAt rfl rfl dX0_enterSplit_46 rfl (ev_X0_tableAt e16) rfl rfl (Nat.le_of_ble_eq_true rfl) (by decide) rfl rfl (Or.inl rfl) rfl ?_
      refine g_iload_n 1 (q := 50) dX0_enterSplit_49 rfl rfl ?_
      refine g_iload_n 2 (q := 51) dX0_enterSplit_50 rfl rfl ?_
      refine g_ior (q := 52) dX0_enterSplit_51 rfl ?_
      obtain ⟨r17, e18, hf⟩ := Option.bind_eq_some_iff.mp hf
      refine g_callV (a := 23) (k2 := 0) (n2 := 0) (q := 55) (as := [.long r11, .int r13, .long r15, .int (w1 ||| w2)]) (st := []) (st1 := []) tm_X0_enterJoined ml_X0_59 ti_X0_enterJoined rfl rfl dX0_enterSplit_52 rfl (ev_X0_enterJoined e18) rfl rfl (Nat.le_of_ble_eq_true rfl) (by decide) rfl rfl (Or.inl (encC_len.trans encC_len.symm)) rfl ?_
      refine g_iinc 5 (q := 58) (v := (v5 + 1)) (L' := [(0, .ref 23), (1, .int w1), (2, .int w2), (3, .ref 25), (4, .int w4), (5, .int (v5 + 1))]) dX0_enterSplit_55 rfl rfl rfl (by decide) rfl ?_
      refine g_goto (t := 20) dX0_enterSplit_58 (by decide) ?_
      refine g_ls [0, 1, 2, 3, 4, 5] rfl ?_
      exact ih _ _ _ _ hf
set_option maxRecDepth 20000 in
set_option maxHeartbeats 4000000 in
theorem ev_X0_enterSplit_L5 {l : Launch} {E : tEn} {cr : Value}  {x_hs : Int32} {s_n : Int32} {s_sp : Int64} {s_sb : Int64} {s_sc : Int32} {s_f : List Int64} {s_st : List Int32} {v_n : Int32} {v_sp : Int64} {v_sb : Int64} {v_sc : Int32} {v_f : List Int64} {v_st : List Int32} {h_k : Int32} {h_s : List Int32} {h_c : List Int64} {g_k : Int32} {g_v : Int32} {g_p : List Int32} {g_a : List Int32} {g_t : List Int32} {c_k : Int32} {c_t : List Int32} {c_p : List Int32} {i_l : Int32} {i_n : Int32} {i_f : Int64} {i_p : Int32} {i_o : Int32} {i_b : List Int32} {w_l : Int32} {w_s : List Int32} {x_e : List Int32} {x_l : List Int32} {k_s : List Int32} {w1 : Int32} {w2 : Int32} {K : Int32 → List Int64 → Option (Int32 × List Int64)} (hK : ∀  (k_k : Int32) (k_e : List Int64) (res : Int32 × List Int64), K k_k k_e = some res → tG l E RX0 cX0_enterSplit 6 none false 3 (fun r h' => r = none ∧ h' = encX x_hs s_n s_sp s_sb s_sc s_f s_st v_n v_sp v_sb v_sc v_f v_st h_k h_s h_c g_k g_v g_p g_a g_t c_k c_t c_p i_l i_n i_f i_p i_o i_b w_l w_s x_e x_l cr (tlC (res.1) (res.2) k_s)) 0 0 67 [] [] (encX x_hs s_n s_sp s_sb s_sc s_f s_st v_n v_sp v_sb v_sc v_f v_st h_k h_s h_c g_k g_v g_p g_a g_t c_k c_t c_p i_l i_n i_f i_p i_o i_b w_l w_s x_e x_l cr (tlC k_k k_e k_s))) :
    ∀ (fu : Nat) (v4 : Int32) (k_k : Int32) (k_e : List Int64) (res : Int32 × List Int64), f_X0_enterSplit_L5 w1 w2 k_s K fu v4 k_k k_e = some res → tG l E RX0 cX0_enterSplit 6 none false 3 (fun r h' => r = none ∧ h' = encX x_hs s_n s_sp s_sb s_sc s_f s_st v_n v_sp v_sb v_sc v_f v_st h_k h_s h_c g_k g_v g_p g_a g_t c_k c_t c_p i_l i_n i_f i_p i_o i_b w_l w_s x_e x_l cr (tlC (res.1) (res.2) k_s)) 0 0 5 [(0, .ref 23), (1, .int w1), (2, .int w2), (3, .ref 25), (4, .int v4)] [] (encX x_hs s_n s_sp s_sb s_sc s_f s_st v_n v_sp v_sb v_sc v_f v_st h_k h_s h_c g_k g_v g_p g_a g_t c_k c_t c_p i_l i_n i_f i_p i_o i_b w_l w_s x_e x_l cr (tlC k_k k_e k_s)) := by
  intro fu
  induction fu with
  | zero => intro v4 k_k k_e res hf; exact nomatch (show none = some res from hf)
  | succ fu ih =>
    intro v4 k_k k_e res hf
    rw [f_X0_enterSplit_L5] at hf
    refine g_iload 4 (q := 7) dX0_enterSplit_5 rfl rfl ?_
    refine g_aload_n 3 (q := 8) dX0_enterSplit_7 rfl rfl ?_
    refine g_iload_n 1 (q := 9) dX0_enterSplit_8 rfl rfl ?_
    refine g_iconst (q := 10) (v := 1) dX0_enterSplit_9 rfl rfl ?_
    refine g_iadd (q := 11) dX0_enterSplit_10 rfl ?_
    obtain ⟨r3, e4, hf⟩ := Option.bind_eq_some_iff.mp hf
    refine g_iaload (q := 12) dX0_enterSplit_11 rfl rfl e4 ?_
    refine g_icmp_ge (t := 67) (q := 15) dX0_enterSplit_12 (by decide) rfl (fun c5 => ?_) (fun c5 => ?_)
    · rw [if_pos c5] at hf
      refine g_ls [] rfl ?_
      exact hK _ _ _ hf
    · rw [if_neg c5] at hf
      refine g_aload_n 3 (q := 16) dX0_enterSplit_15 rfl rfl ?_
      refine g_iload_n 2 (q := 17) dX0_enterSplit_16 rfl rfl ?_
      obtain ⟨r6, e7, hf⟩ := Option.bind_eq_some_iff.mp hf
      refine g_iaload (q := 18) dX0_enterSplit_17 rfl rfl e7 ?_
      refine g_istore (q := 20) (L' := [(0, .ref 23), (1, .int w1), (2, .int w2), (3, .ref 25), (4, .int v4), (5, .int r6)]) dX0_enterSplit_18 rfl (by decide) rfl ?_
      refine g_ls [0, 1, 2, 3, 4, 5] rfl ?_
      refine ev_X0_enterSplit_L20 (fun k19 k20 res hf => ?_) tFU _ _ _ res hf
      refine g_iinc 4 (q := 64) (v := (v4 + 1)) (L' := [(0, .ref 23), (1, .int w1), (2, .int w2), (3, .ref 25), (4, .int (v4 + 1))]) dX0_enterSplit_61 rfl rfl rfl (by decide) rfl ?_
      refine g_goto (t := 5) dX0_enterSplit_64 (by decide) ?_
      refine g_ls [0, 1, 2, 3, 4] rfl ?_
      exact ih _ _ _ _ hf
set_option maxRecDepth 20000 in
set_option maxHeartbeats 4000000 in
theorem ev_X0_enterSplit {l : Launch} {E : tEn} {cr : Value} {x_hs : Int32} {s_n : Int32} {s_sp : Int64} {s_sb : Int64} {s_sc : Int32} {s_f : List Int64} {s_st : List Int32} {v_n : Int32} {v_sp : Int64} {v_sb : Int64} {v_sc : Int32} {v_f : List Int64} {v_st : List Int32} {h_k : Int32} {h_s : List Int32} {h_c : List Int64} {g_k : Int32} {g_v : Int32} {g_p : List Int32} {g_a : List Int32} {g_t : List Int32} {c_k : Int32} {c_t : List Int32} {c_p : List Int32} {i_l : Int32} {i_n : Int32} {i_f : Int64} {i_p : Int32} {i_o : Int32} {i_b : List Int32} {w_l : Int32} {w_s : List Int32} {x_e : List Int32} {x_l : List Int32} {k_k : Int32} {k_e : List Int64} {k_s : List Int32} {a0 : Int32} {a1 : Int32} {res : Int32 × List Int64} (hf : f_X0_enterSplit a0 a1 k_k k_e k_s = some res) : tEv l E yX0_enterSplit cX0_enterSplit 6 none 3 0 0 [.ref 23, .int a0, .int a1, .ref 25] (encX x_hs s_n s_sp s_sb s_sc s_f s_st v_n v_sp v_sb v_sc v_f v_st h_k h_s h_c g_k g_v g_p g_a g_t c_k c_t c_p i_l i_n i_f i_p i_o i_b w_l w_s x_e x_l cr (tlC k_k k_e k_s)) (fun r h' => r = none ∧ h' = encX x_hs s_n s_sp s_sb s_sc s_f s_st v_n v_sp v_sb v_sc v_f v_st h_k h_s h_c g_k g_v g_p g_a g_t c_k c_t c_p i_l i_n i_f i_p i_o i_b w_l w_s x_e x_l cr (tlC (res.1) (res.2) k_s)) := by
  refine tEv.of (own := RX0) (ini := false) (L := [(0, .ref 23), (1, .int a0), (2, .int a1), (3, .ref 25)]) (by decide +kernel) rfl (fun h9 => nomatch h9) rfl (Nat.le_of_ble_eq_true rfl) ?_
  rw [f_X0_enterSplit] at hf
  refine g_aload_n 3 (q := 1) dX0_enterSplit_0 rfl rfl ?_
  refine g_iload_n 1 (q := 2) dX0_enterSplit_1 rfl rfl ?_
  obtain ⟨r1, e2, hf⟩ := Option.bind_eq_some_iff.mp hf
  refine g_iaload (q := 3) dX0_enterSplit_2 rfl rfl e2 ?_
  refine g_istore (q := 5) (L' := [(0, .ref 23), (1, .int a0), (2, .int a1), (3, .ref 25), (4, .int r1)]) dX0_enterSplit_3 rfl (by decide) rfl ?_
  refine g_ls [0, 1, 2, 3, 4] rfl ?_
  refine ev_X0_enterSplit_L5 (fun k21 k22 res hf => ?_) tFU _ _ _ res hf
  have hf := Option.some.inj hf
  subst hf
  exact g_return dX0_enterSplit_67 rfl ⟨rfl, rfl⟩
def f_X0_enterAll_L33 (w1 : Int32) (w3 : Int32) (k_s : List Int32) (K : Int32 → List Int64 → Option (Int32 × List Int64)) : Nat → Int32 → Int32 → List Int64 → Option (Int32 × List Int64)
  | 0, _, _, _ => none
  | fu + 1, v4, k_k, k_e => (if w1 ≤ v4 then K  k_k k_e else (if (v4 &&& (w1 ^^^ (-1))) = 0 then (if (f_X7_hasVariable v4 w3) = 0 then f_X0_enterAll_L33 w1 w3 k_s K fu (v4 + 1) k_k k_e else (f_X0_enterSplit v4 (w1 &&& (v4 ^^^ (-1))) k_k k_e k_s).bind fun r8 => f_X0_enterAll_L33 w1 w3 k_s K fu (v4 + 1) (r8.1) (r8.2)) else f_X0_enterAll_L33 w1 w3 k_s K fu (v4 + 1) k_k k_e))
def f_X0_enterAll (a0 : Int32) (k_k : Int32) (k_e : List Int64) (k_s : List Int32) : Option (Int32 × List Int64) := (f_X7_lowestVariable a0).bind fun r1 => (if r1 = (-1) then some (k_k, k_e) else (if a0 = ((1 : Int32) <<< (r1 &&& 31)) then (tld tVT r1).bind fun r12 => (f_X0_enter r12 a0 0 k_k k_e).bind fun r14 => some (r14.1, r14.2) else f_X0_enterAll_L33 a0 r1 k_s (fun k10 k11 => some (k10, k11)) tFU 1 k_k k_e))
set_option maxRecDepth 20000 in
set_option maxHeartbeats 4000000 in
theorem ev_X0_enterAll_L33 {l : Launch} {E : tEn} {cr : Value}  {x_hs : Int32} {s_n : Int32} {s_sp : Int64} {s_sb : Int64} {s_sc : Int32} {s_f : List Int64} {s_st : List Int32} {v_n : Int32} {v_sp : Int64} {v_sb : Int64} {v_sc : Int32} {v_f : List Int64} {v_st : List Int32} {h_k : Int32} {h_s : List Int32} {h_c : List Int64} {g_k : Int32} {g_v : Int32} {g_p : List Int32} {g_a : List Int32} {g_t : List Int32} {c_k : Int32} {c_t : List Int32} {c_p : List Int32} {i_l : Int32} {i_n : Int32} {i_f : Int64} {i_p : Int32} {i_o : Int32} {i_b : List Int32} {w_l : Int32} {w_s : List Int32} {x_e : List Int32} {x_l : List Int32} {k_s : List Int32} {w1 : Int32} {w3 : Int32} {K : Int32 → List Int64 → Option (Int32 × List Int64)} (hK : ∀  (k_k : Int32) (k_e : List Int64) (res : Int32 × List Int64), K k_k k_e = some res → tG l E RX0 cX0_enterAll 5 none false 4 (fun r h' => r = none ∧ h' = encX x_hs s_n s_sp s_sb s_sc s_f s_st v_n v_sp v_sb v_sc v_f v_st h_k h_s h_c g_k g_v g_p g_a g_t c_k c_t c_p i_l i_n i_f i_p i_o i_b w_l w_s x_e x_l cr (tlC (res.1) (res.2) k_s)) 0 0 76 [] [] (encX x_hs s_n s_sp s_sb s_sc s_f s_st v_n v_sp v_sb v_sc v_f v_st h_k h_s h_c g_k g_v g_p g_a g_t c_k c_t c_p i_l i_n i_f i_p i_o i_b w_l w_s x_e x_l cr (tlC k_k k_e k_s))) :
    ∀ (fu : Nat) (v4 : Int32) (k_k : Int32) (k_e : List Int64) (res : Int32 × List Int64), f_X0_enterAll_L33 w1 w3 k_s K fu v4 k_k k_e = some res → tG l E RX0 cX0_enterAll 5 none false 4 (fun r h' => r = none ∧ h' = encX x_hs s_n s_sp s_sb s_sc s_f s_st v_n v_sp v_sb v_sc v_f v_st h_k h_s h_c g_k g_v g_p g_a g_t c_k c_t c_p i_l i_n i_f i_p i_o i_b w_l w_s x_e x_l cr (tlC (res.1) (res.2) k_s)) 0 0 33 [(0, .ref 23), (1, .int w1), (2, .ref 25), (3, .int w3), (4, .int v4)] [] (encX x_hs s_n s_sp s_sb s_sc s_f s_st v_n v_sp v_sb v_sc v_f v_st h_k h_s h_c g_k g_v g_p g_a g_t c_k c_t c_p i_l i_n i_f i_p i_o i_b w_l w_s x_e x_l cr (tlC k_k k_e k_s)) := by
  intro fu
  induction fu with
  | zero => intro v4 k_k k_e res hf; exact nomatch (show none = some res from hf)
  | succ fu ih =>
    intro v4 k_k k_e res hf
    rw [f_X0_enterAll_L33] at hf
    refine g_iload 4 (q := 35) dX0_enterAll_33 rfl rfl ?_
    refine g_iload_n 1 (q := 36) dX0_enterAll_35 rfl rfl ?_
    refine g_icmp_ge (t := 76) (q := 39) dX0_enterAll_36 (by decide) rfl (fun c5 => ?_) (fun c5 => ?_)
    · rw [if_pos c5] at hf
      refine g_ls [] rfl ?_
      exact hK _ _ _ hf
    · rw [if_neg c5] at hf
      refine g_iload 4 (q := 41) dX0_enterAll_39 rfl rfl ?_
      refine g_iload_n 1 (q := 42) dX0_enterAll_41 rfl rfl ?_
      refine g_iconst (q := 43) (v := (-1)) dX0_enterAll_42 rfl rfl ?_
      refine g_ixor (q := 44) dX0_enterAll_43 rfl ?_
      refine g_iand (q := 45) dX0_enterAll_44 rfl ?_
      refine g_if_ne (t := 70) (q := 48) dX0_enterAll_45 (by decide) rfl (fun c6 => ?_) (fun c6 => ?_)
      · rw [if_neg c6] at hf
        refine g_iinc 4 (q := 73) (v := (v4 + 1)) (L' := [(0, .ref 23), (1, .int w1), (2, .ref 25), (3, .int w3), (4, .int (v4 + 1))]) dX0_enterAll_70 rfl rfl rfl (by decide) rfl ?_
        refine g_goto (t := 33) dX0_enterAll_73 (by decide) ?_
        refine g_ls [0, 1, 2, 3, 4] rfl ?_
        exact ih _ _ _ _ hf
      · rw [if_pos c6] at hf
        refine g_iload 4 (q := 50) dX0_enterAll_48 rfl rfl ?_
        refine g_iload_n 3 (q := 51) dX0_enterAll_50 rfl rfl ?_
        refine g_callS (k2 := 0) (n2 := 0) (q := 54) (as := [.int v4, .int w3]) (st := []) (st1 := [.int (f_X7_hasVariable v4 w3)]) tm_X7_hasVariable ml_X0_45 ts_X7_hasVariable dX0_enterAll_51 rfl ev_X7_hasVariable rfl rfl (Nat.le_of_ble_eq_true rfl) (by decide) rfl rfl (Or.inl rfl) rfl ?_
        refine g_if_eq (t := 70) (q := 57) dX0_enterAll_54 (by decide) rfl (fun c7 => ?_) (fun c7 => ?_)
        · rw [if_pos c7] at hf
          refine g_iinc 4 (q := 73) (v := (v4 + 1)) (L' := [(0, .ref 23), (1, .int w1), (2, .ref 25), (3, .int w3), (4, .int (v4 + 1))]) dX0_enterAll_70 rfl rfl rfl (by decide) rfl ?_
          refine g_goto (t := 33) dX0_enterAll_73 (by decide) ?_
          refine g_ls [0, 1, 2, 3, 4] rfl ?_
          exact ih _ _ _ _ hf
        · rw [if_neg c7] at hf
          refine g_aload_n 0 (q := 58) dX0_enterAll_57 rfl rfl ?_
          refine g_iload 4 (q := 60) dX0_enterAll_58 rfl rfl ?_
          refine g_iload_n 1 (q := 61) dX0_enterAll_60 rfl rfl ?_
          refine g_iload 4 (q := 63) dX0_enterAll_61 rfl rfl ?_
          refine g_iconst (q := 64) (v := (-1)) dX0_enterAll_63 rfl rfl ?_
          refine g_ixor (q := 65) dX0_enterAll_64 rfl ?_
          refine g_iand (q := 66) dX0_enterAll_65 rfl ?_
          refine g_aload_n 2 (q := 67) dX0_enterAll_66 rfl rfl ?_
          obtain ⟨r8, e9, hf⟩ := Option.bind_eq_some_iff.mp hf
          refine g_callV (a := 23) (k2 := 0) (n2 := 0) (q := 70) (as := [.int v4, .int (w1 &&& (v4 ^^^ (-1))), .ref 25]) (st := []) (st1 := []) tm_X0_enterSplit ml_X0_48 ti_X0_enterSplit rfl rfl dX0_enterAll_67 rfl (ev_X0_enterSplit e9) rfl rfl (Nat.le_of_ble_eq_true rfl) (by decide) rfl rfl (Or.inl (encC_len.trans encC_len.symm)) rfl ?_
          refine g_iinc 4 (q := 73) (v := (v4 + 1)) (L' := [(0, .ref 23), (1, .int w1), (2, .ref 25), (3, .int w3), (4, .int (v4 + 1))]) dX0_enterAll_70 rfl rfl rfl (by decide) rfl ?_
          refine g_goto (t := 33) dX0_enterAll_73 (by decide) ?_
          refine g_ls [0, 1, 2, 3, 4] rfl ?_
          exact ih _ _ _ _ hf
set_option maxRecDepth 20000 in
set_option maxHeartbeats 4000000 in
theorem ev_X0_enterAll {l : Launch} {E : tEn} {cr : Value} {x_hs : Int32} {s_n : Int32} {s_sp : Int64} {s_sb : Int64} {s_sc : Int32} {s_f : List Int64} {s_st : List Int32} {v_n : Int32} {v_sp : Int64} {v_sb : Int64} {v_sc : Int32} {v_f : List Int64} {v_st : List Int32} {h_k : Int32} {h_s : List Int32} {h_c : List Int64} {g_k : Int32} {g_v : Int32} {g_p : List Int32} {g_a : List Int32} {g_t : List Int32} {c_k : Int32} {c_t : List Int32} {c_p : List Int32} {i_l : Int32} {i_n : Int32} {i_f : Int64} {i_p : Int32} {i_o : Int32} {i_b : List Int32} {w_l : Int32} {w_s : List Int32} {x_e : List Int32} {x_l : List Int32} {k_k : Int32} {k_e : List Int64} {k_s : List Int32} {a0 : Int32} {res : Int32 × List Int64} (hf : f_X0_enterAll a0 k_k k_e k_s = some res) : tEv l E yX0_enterAll cX0_enterAll 5 none 4 0 0 [.ref 23, .int a0, .ref 25] (encX x_hs s_n s_sp s_sb s_sc s_f s_st v_n v_sp v_sb v_sc v_f v_st h_k h_s h_c g_k g_v g_p g_a g_t c_k c_t c_p i_l i_n i_f i_p i_o i_b w_l w_s x_e x_l cr (tlC k_k k_e k_s)) (fun r h' => r = none ∧ h' = encX x_hs s_n s_sp s_sb s_sc s_f s_st v_n v_sp v_sb v_sc v_f v_st h_k h_s h_c g_k g_v g_p g_a g_t c_k c_t c_p i_l i_n i_f i_p i_o i_b w_l w_s x_e x_l cr (tlC (res.1) (res.2) k_s)) := by
  refine tEv.of (own := RX0) (ini := false) (L := [(0, .ref 23), (1, .int a0), (2, .ref 25)]) (by decide +kernel) rfl (fun h9 => nomatch h9) rfl (Nat.le_of_ble_eq_true rfl) ?_
  rw [f_X0_enterAll] at hf
  refine g_iload_n 1 (q := 1) dX0_enterAll_0 rfl rfl ?_
  obtain ⟨r1, e2, hf⟩ := Option.bind_eq_some_iff.mp hf
  refine g_callS (k2 := 0) (n2 := 0) (q := 4) (as := [.int a0]) (st := []) (st1 := [.int r1]) tm_X7_lowestVariable ml_X0_38 ts_X7_lowestVariable dX0_enterAll_1 rfl (ev_X7_lowestVariable e2) rfl rfl (Nat.le_of_ble_eq_true rfl) (by decide) rfl rfl (Or.inl rfl) rfl ?_
  refine g_istore_n (q := 5) (L' := [(0, .ref 23), (1, .int a0), (2, .ref 25), (3, .int r1)]) dX0_enterAll_4 rfl (by decide) rfl ?_
  refine g_iload_n 3 (q := 6) dX0_enterAll_5 rfl rfl ?_
  refine g_iconst (q := 7) (v := (-1)) dX0_enterAll_6 rfl rfl ?_
  refine g_icmp_ne (t := 11) (q := 10) dX0_enterAll_7 (by decide) rfl (fun c3 => ?_) (fun c3 => ?_)
  · rw [if_neg c3] at hf
    refine g_iload_n 1 (q := 12) dX0_enterAll_11 rfl rfl ?_
    refine g_iconst (q := 13) (v := 1) dX0_enterAll_12 rfl rfl ?_
    refine g_iload_n 3 (q := 14) dX0_enterAll_13 rfl rfl ?_
    refine g_ishl (q := 15) dX0_enterAll_14 rfl ?_
    refine g_icmp_ne (t := 30) (q := 18) dX0_enterAll_15 (by decide) rfl (fun c4 => ?_) (fun c4 => ?_)
    · rw [if_neg c4] at hf
      refine g_iconst (q := 31) (v := 1) dX0_enterAll_30 rfl rfl ?_
      refine g_istore (q := 33) (L' := [(0, .ref 23), (1, .int a0), (2, .ref 25), (3, .int r1), (4, .int 1)]) dX0_enterAll_31 rfl (by decide) rfl ?_
      refine g_ls [0, 1, 2, 3, 4] rfl ?_
      refine ev_X0_enterAll_L33 (fun k10 k11 res hf => ?_) tFU _ _ _ res hf
      have hf := Option.some.inj hf
      subst hf
      exact g_return dX0_enterAll_76 rfl ⟨rfl, rfl⟩
    · rw [if_pos c4] at hf
      refine g_aload_n 0 (q := 19) dX0_enterAll_18 rfl rfl ?_
      refine g_getsV (q := 22) sl_X0_42 dX0_enterAll_19 rfl ?_
      refine g_iload_n 3 (q := 23) dX0_enterAll_22 rfl rfl ?_
      obtain ⟨r12, e13, hf⟩ := Option.bind_eq_some_iff.mp hf
      refine g_laloadV (q := 24) dX0_enterAll_23 rfl e13 ?_
      refine g_iload_n 1 (q := 25) dX0_enterAll_24 rfl rfl ?_
      refine g_iconst (q := 26) (v := 0) dX0_enterAll_25 rfl rfl ?_
      obtain ⟨r14, e15, hf⟩ := Option.bind_eq_some_iff.mp hf
      refine g_callV (a := 23) (k2 := 0) (n2 := 0) (q := 29) (as := [.long r12, .int a0, .int 0]) (st := []) (st1 := []) tm_X0_enter ml_X0_19 ti_X0_enter rfl rfl dX0_enterAll_26 rfl (ev_X0_enter e15) rfl rfl (Nat.le_of_ble_eq_true rfl) (by decide) rfl rfl (Or.inl (encC_len.trans encC_len.symm)) rfl ?_
      have hf := Option.some.inj hf
      subst hf
      exact g_return dX0_enterAll_29 rfl ⟨rfl, rfl⟩
  · rw [if_pos c3] at hf
    have hf := Option.some.inj hf
    subst hf
    exact g_return dX0_enterAll_10 rfl ⟨rfl, rfl⟩
def f_X0_sink_L27 (w2 : Int32) (w3 : Int64) (K : Int32 → List Int64 → Option (List Int64)) : Nat → Int32 → List Int64 → Option (List Int64)
  | 0, _, _ => none
  | fu + 1, v5, k_e => (if v5 < w2 then K v5 k_e else (tld k_e (v5 - w2)).bind fun r6 => (if (lg_cmp r6 w3) ≤ 0 then K v5 k_e else (tld k_e (v5 - w2)).bind fun r9 => (tst k_e v5 r9).bind fun z11 => f_X0_sink_L27 w2 w3 K fu (v5 - w2) z11))
def f_X0_sink (a0 : Int32) (a1 : Int32) (k_k : Int32) (k_e : List Int64) : Option (List Int64) := (if a1 < 1 then some k_e else (if (f_X7_isIndex a0 k_k) = 0 then some k_e else (tld k_e a0).bind fun r3 => f_X0_sink_L27 a1 r3 (fun y13 k14 => (tst k14 y13 r3).bind fun z15 => some z15) tFU a0 k_e))
set_option maxRecDepth 20000 in
set_option maxHeartbeats 4000000 in
theorem ev_X0_sink_L27 {l : Launch} {E : tEn} {cr : Value}  {x_hs : Int32} {s_n : Int32} {s_sp : Int64} {s_sb : Int64} {s_sc : Int32} {s_f : List Int64} {s_st : List Int32} {v_n : Int32} {v_sp : Int64} {v_sb : Int64} {v_sc : Int32} {v_f : List Int64} {v_st : List Int32} {h_k : Int32} {h_s : List Int32} {h_c : List Int64} {g_k : Int32} {g_v : Int32} {g_p : List Int32} {g_a : List Int32} {g_t : List Int32} {c_k : Int32} {c_t : List Int32} {c_p : List Int32} {i_l : Int32} {i_n : Int32} {i_f : Int64} {i_p : Int32} {i_o : Int32} {i_b : List Int32} {w_l : Int32} {w_s : List Int32} {x_e : List Int32} {x_l : List Int32} {k_k : Int32} {k_s : List Int32} {w2 : Int32} {w3 : Int64} {K : Int32 → List Int64 → Option (List Int64)} (hK : ∀ (v5 : Int32) (k_e : List Int64) (res : List Int64), K v5 k_e = some res → tG l E RX0 cX0_sink 6 none false 2 (fun r h' => r = none ∧ h' = encX x_hs s_n s_sp s_sb s_sc s_f s_st v_n v_sp v_sb v_sc v_f v_st h_k h_s h_c g_k g_v g_p g_a g_t c_k c_t c_p i_l i_n i_f i_p i_o i_b w_l w_s x_e x_l cr (tlC k_k res k_s)) 0 0 72 [(0, .ref 23), (3, .long w3), (5, .int v5)] [] (encX x_hs s_n s_sp s_sb s_sc s_f s_st v_n v_sp v_sb v_sc v_f v_st h_k h_s h_c g_k g_v g_p g_a g_t c_k c_t c_p i_l i_n i_f i_p i_o i_b w_l w_s x_e x_l cr (tlC k_k k_e k_s))) :
    ∀ (fu : Nat) (v5 : Int32) (k_e : List Int64) (res : List Int64), f_X0_sink_L27 w2 w3 K fu v5 k_e = some res → tG l E RX0 cX0_sink 6 none false 2 (fun r h' => r = none ∧ h' = encX x_hs s_n s_sp s_sb s_sc s_f s_st v_n v_sp v_sb v_sc v_f v_st h_k h_s h_c g_k g_v g_p g_a g_t c_k c_t c_p i_l i_n i_f i_p i_o i_b w_l w_s x_e x_l cr (tlC k_k res k_s)) 0 0 27 [(0, .ref 23), (2, .int w2), (3, .long w3), (5, .int v5)] [] (encX x_hs s_n s_sp s_sb s_sc s_f s_st v_n v_sp v_sb v_sc v_f v_st h_k h_s h_c g_k g_v g_p g_a g_t c_k c_t c_p i_l i_n i_f i_p i_o i_b w_l w_s x_e x_l cr (tlC k_k k_e k_s)) := by
  intro fu
  induction fu with
  | zero => intro v5 k_e res hf; exact nomatch (show none = some res from hf)
  | succ fu ih =>
    intro v5 k_e res hf
    rw [f_X0_sink_L27] at hf
    refine g_iload 3 (q := 29) dX0_sink_27 rfl rfl ?_
    refine g_iload_n 1 (q := 30) dX0_sink_29 rfl rfl ?_
    refine g_icmp_lt (t := 72) (q := 33) dX0_sink_30 (by decide) rfl (fun c5 => ?_) (fun c5 => ?_)
    · rw [if_pos c5] at hf
      refine g_ls [0, 2, 3] rfl ?_
      exact hK _ _ _ hf
    · rw [if_neg c5] at hf
      refine g_aload_n 0 (q := 34) dX0_sink_33 rfl rfl ?_
      refine g_get (q := 37) fl_X0_11 dX0_sink_34 rfl rfl rfl ?_
      refine g_iload 3 (q := 39) dX0_sink_37 rfl rfl ?_
      refine g_iload_n 1 (q := 40) dX0_sink_39 rfl rfl ?_
      refine g_isub (q := 41) dX0_sink_40 rfl ?_
      obtain ⟨r6, e7, hf⟩ := Option.bind_eq_some_iff.mp hf
      refine g_laload (q := 42) dX0_sink_41 rfl rfl e7 ?_
      refine g_lload_n 2 (q := 43) dX0_sink_42 rfl rfl ?_
      refine g_lcmp (q := 44) dX0_sink_43 rfl ?_
      refine g_if_le (t := 72) (q := 47) dX0_sink_44 (by decide) rfl (fun c8 => ?_) (fun c8 => ?_)
      · rw [if_pos c8] at hf
        refine g_ls [0, 2, 3] rfl ?_
        exact hK _ _ _ hf
      · rw [if_neg c8] at hf
        refine g_aload_n 0 (q := 48) dX0_sink_47 rfl rfl ?_
        refine g_get (q := 51) fl_X0_11 dX0_sink_48 rfl rfl rfl ?_
        refine g_iload 3 (q := 53) dX0_sink_51 rfl rfl ?_
        refine g_aload_n 0 (q := 54) dX0_sink_53 rfl rfl ?_
        refine g_get (q := 57) fl_X0_11 dX0_sink_54 rfl rfl rfl ?_
        refine g_iload 3 (q := 59) dX0_sink_57 rfl rfl ?_
        refine g_iload_n 1 (q := 60) dX0_sink_59 rfl rfl ?_
        refine g_isub (q := 61) dX0_sink_60 rfl ?_
        obtain ⟨r9, e10, hf⟩ := Option.bind_eq_some_iff.mp hf
        refine g_laload (q := 62) dX0_sink_61 rfl rfl e10 ?_
        obtain ⟨z11, e12, hf⟩ := Option.bind_eq_some_iff.mp hf
        refine g_lastore (q := 63) (h' := encX x_hs s_n s_sp s_sb s_sc s_f s_st v_n v_sp v_sb v_sc v_f v_st h_k h_s h_c g_k g_v g_p g_a g_t c_k c_t c_p i_l i_n i_f i_p i_o i_b w_l w_s x_e x_l cr (tlC k_k z11 k_s)) dX0_sink_62 rfl rfl e12 rfl ?_
        refine g_iload 3 (q := 65) dX0_sink_63 rfl rfl ?_
        refine g_iload_n 1 (q := 66) dX0_sink_65 rfl rfl ?_
        refine g_isub (q := 67) dX0_sink_66 rfl ?_
        refine g_istore (q := 69) (L' := [(0, .ref 23), (2, .int w2), (3, .long w3), (5, .int (v5 - w2))]) dX0_sink_67 rfl (by decide) rfl ?_
        refine g_goto (t := 27) dX0_sink_69 (by decide) ?_
        refine g_ls [0, 1, 2, 3] rfl ?_
        exact ih _ _ _ hf
set_option maxRecDepth 20000 in
set_option maxHeartbeats 4000000 in
theorem ev_X0_sink {l : Launch} {E : tEn} {cr : Value} {x_hs : Int32} {s_n : Int32} {s_sp : Int64} {s_sb : Int64} {s_sc : Int32} {s_f : List Int64} {s_st : List Int32} {v_n : Int32} {v_sp : Int64} {v_sb : Int64} {v_sc : Int32} {v_f : List Int64} {v_st : List Int32} {h_k : Int32} {h_s : List Int32} {h_c : List Int64} {g_k : Int32} {g_v : Int32} {g_p : List Int32} {g_a : List Int32} {g_t : List Int32} {c_k : Int32} {c_t : List Int32} {c_p : List Int32} {i_l : Int32} {i_n : Int32} {i_f : Int64} {i_p : Int32} {i_o : Int32} {i_b : List Int32} {w_l : Int32} {w_s : List Int32} {x_e : List Int32} {x_l : List Int32} {k_k : Int32} {k_e : List Int64} {k_s : List Int32} {a0 : Int32} {a1 : Int32} {res : List Int64} (hf : f_X0_sink a0 a1 k_k k_e = some res) : tEv l E yX0_sink cX0_sink 6 none 2 0 0 [.ref 23, .int a0, .int a1] (encX x_hs s_n s_sp s_sb s_sc s_f s_st v_n v_sp v_sb v_sc v_f v_st h_k h_s h_c g_k g_v g_p g_a g_t c_k c_t c_p i_l i_n i_f i_p i_o i_b w_l w_s x_e x_l cr (tlC k_k k_e k_s)) (fun r h' => r = none ∧ h' = encX x_hs s_n s_sp s_sb s_sc s_f s_st v_n v_sp v_sb v_sc v_f v_st h_k h_s h_c g_k g_v g_p g_a g_t c_k c_t c_p i_l i_n i_f i_p i_o i_b w_l w_s x_e x_l cr (tlC k_k res k_s)) := by
  refine tEv.of (own := RX0) (ini := false) (L := [(0, .ref 23), (1, .int a0), (2, .int a1)]) (by decide +kernel) rfl (fun h9 => nomatch h9) rfl (Nat.le_of_ble_eq_true rfl) ?_
  rw [f_X0_sink] at hf
  refine g_iload_n 2 (q := 1) dX0_sink_0 rfl rfl ?_
  refine g_iconst (q := 2) (v := 1) dX0_sink_1 rfl rfl ?_
  refine g_icmp_lt (t := 16) (q := 5) dX0_sink_2 (by decide) rfl (fun c1 => ?_) (fun c1 => ?_)
  · rw [if_pos c1] at hf
    have hf := Option.some.inj hf
    subst hf
    exact g_return dX0_sink_16 rfl ⟨rfl, rfl⟩
  · rw [if_neg c1] at hf
    refine g_iload_n 1 (q := 6) dX0_sink_5 rfl rfl ?_
    refine g_aload_n 0 (q := 7) dX0_sink_6 rfl rfl ?_
    refine g_get (q := 10) fl_X0_15 dX0_sink_7 rfl rfl rfl ?_
    refine g_callS (k2 := 0) (n2 := 0) (q := 13) (as := [.int a0, .int k_k]) (st := []) (st1 := [.int (f_X7_isIndex a0 k_k)]) tm_X7_isIndex ml_X0_32 ts_X7_isIndex dX0_sink_10 rfl ev_X7_isIndex rfl rfl (Nat.le_of_ble_eq_true rfl) (by decide) rfl rfl (Or.inl rfl) rfl ?_
    refine g_if_ne (t := 17) (q := 16) dX0_sink_13 (by decide) rfl (fun c2 => ?_) (fun c2 => ?_)
    · rw [if_neg c2] at hf
      refine g_aload_n 0 (q := 18) dX0_sink_17 rfl rfl ?_
      refine g_get (q := 21) fl_X0_11 dX0_sink_18 rfl rfl rfl ?_
      refine g_iload_n 1 (q := 22) dX0_sink_21 rfl rfl ?_
      obtain ⟨r3, e4, hf⟩ := Option.bind_eq_some_iff.mp hf
      refine g_laload (q := 23) dX0_sink_22 rfl rfl e4 ?_
      refine g_lstore_n (q := 24) (L' := [(0, .ref 23), (1, .int a0), (2, .int a1), (3, .long r3)]) dX0_sink_23 rfl (by decide) rfl ?_
      refine g_iload_n 1 (q := 25) dX0_sink_24 rfl rfl ?_
      refine g_istore (q := 27) (L' := [(0, .ref 23), (1, .int a0), (2, .int a1), (3, .long r3), (5, .int a0)]) dX0_sink_25 rfl (by decide) rfl ?_
      refine g_ls [0, 2, 3, 4] rfl ?_
      refine ev_X0_sink_L27 (fun y13 k14 res hf => ?_) tFU _ _ res hf
      refine g_aload_n 0 (q := 73) dX0_sink_72 rfl rfl ?_
      refine g_get (q := 76) fl_X0_11 dX0_sink_73 rfl rfl rfl ?_
      refine g_iload 2 (q := 78) dX0_sink_76 rfl rfl ?_
      refine g_lload_n 1 (q := 79) dX0_sink_78 rfl rfl ?_
      obtain ⟨z15, e16, hf⟩ := Option.bind_eq_some_iff.mp hf
      refine g_lastore (q := 80) (h' := encX x_hs s_n s_sp s_sb s_sc s_f s_st v_n v_sp v_sb v_sc v_f v_st h_k h_s h_c g_k g_v g_p g_a g_t c_k c_t c_p i_l i_n i_f i_p i_o i_b w_l w_s x_e x_l cr (tlC k_k z15 k_s)) dX0_sink_79 rfl rfl e16 rfl ?_
      have hf := Option.some.inj hf
      subst hf
      exact g_return dX0_sink_80 rfl ⟨rfl, rfl⟩
    · rw [if_pos c2] at hf
      have hf := Option.some.inj hf
      subst hf
      exact g_return dX0_sink_16 rfl ⟨rfl, rfl⟩
def f_X0_sort_L23 (w4 : Int32) (k_k : Int32) (K : List Int64 → Option (List Int64)) : Nat → Int32 → List Int64 → Option (List Int64)
  | 0, _, _ => none
  | fu + 1, v5, k_e => (if k_k ≤ v5 then K  k_e else (f_X0_sink v5 w4 k_k k_e).bind fun r5 => f_X0_sort_L23 w4 k_k K fu (v5 + 1) r5)
def f_X0_sort_L9 (w2 : Int32) (k_k : Int32) (K : List Int64 → Option (List Int64)) : Nat → Int32 → List Int64 → Option (List Int64)
  | 0, _, _ => none
  | fu + 1, v3, k_e => (if w2 ≤ v3 then K  k_e else (tld tGA v3).bind fun r2 => f_X0_sort_L23 r2 k_k (fun k7 => f_X0_sort_L9 w2 k_k K fu (v3 + 1) k7) tFU r2 k_e)
def f_X0_sort  (k_k : Int32) (k_e : List Int64) : Option (List Int64) := f_X0_sort_L9 7 k_k (fun k8 => some k8) tFU 0 k_e
set_option maxRecDepth 20000 in
set_option maxHeartbeats 4000000 in
theorem ev_X0_sort_L23 {l : Launch} {E : tEn} {cr : Value}  {x_hs : Int32} {s_n : Int32} {s_sp : Int64} {s_sb : Int64} {s_sc : Int32} {s_f : List Int64} {s_st : List Int32} {v_n : Int32} {v_sp : Int64} {v_sb : Int64} {v_sc : Int32} {v_f : List Int64} {v_st : List Int32} {h_k : Int32} {h_s : List Int32} {h_c : List Int64} {g_k : Int32} {g_v : Int32} {g_p : List Int32} {g_a : List Int32} {g_t : List Int32} {c_k : Int32} {c_t : List Int32} {c_p : List Int32} {i_l : Int32} {i_n : Int32} {i_f : Int64} {i_p : Int32} {i_o : Int32} {i_b : List Int32} {w_l : Int32} {w_s : List Int32} {x_e : List Int32} {x_l : List Int32} {k_k : Int32} {k_s : List Int32} {w2 : Int32} {w3 : Int32} {w4 : Int32} {K : List Int64 → Option (List Int64)} (hK : ∀  (k_e : List Int64) (res : List Int64), K k_e = some res → tG l E RX0 cX0_sort 6 none false 3 (fun r h' => r = none ∧ h' = encX x_hs s_n s_sp s_sb s_sc s_f s_st v_n v_sp v_sb v_sc v_f v_st h_k h_s h_c g_k g_v g_p g_a g_t c_k c_t c_p i_l i_n i_f i_p i_o i_b w_l w_s x_e x_l cr (tlC k_k res k_s)) 0 0 46 [(0, .ref 23), (1, .retAddr 1), (2, .int w2), (3, .int w3)] [] (encX x_hs s_n s_sp s_sb s_sc s_f s_st v_n v_sp v_sb v_sc v_f v_st h_k h_s h_c g_k g_v g_p g_a g_t c_k c_t c_p i_l i_n i_f i_p i_o i_b w_l w_s x_e x_l cr (tlC k_k k_e k_s))) :
    ∀ (fu : Nat) (v5 : Int32) (k_e : List Int64) (res : List Int64), f_X0_sort_L23 w4 k_k K fu v5 k_e = some res → tG l E RX0 cX0_sort 6 none false 3 (fun r h' => r = none ∧ h' = encX x_hs s_n s_sp s_sb s_sc s_f s_st v_n v_sp v_sb v_sc v_f v_st h_k h_s h_c g_k g_v g_p g_a g_t c_k c_t c_p i_l i_n i_f i_p i_o i_b w_l w_s x_e x_l cr (tlC k_k res k_s)) 0 0 23 [(0, .ref 23), (1, .retAddr 1), (2, .int w2), (3, .int w3), (4, .int w4), (5, .int v5)] [] (encX x_hs s_n s_sp s_sb s_sc s_f s_st v_n v_sp v_sb v_sc v_f v_st h_k h_s h_c g_k g_v g_p g_a g_t c_k c_t c_p i_l i_n i_f i_p i_o i_b w_l w_s x_e x_l cr (tlC k_k k_e k_s)) := by
  intro fu
  induction fu with
  | zero => intro v5 k_e res hf; exact nomatch (show none = some res from hf)
  | succ fu ih =>
    intro v5 k_e res hf
    rw [f_X0_sort_L23] at hf
    refine g_iload 5 (q := 25) dX0_sort_23 rfl rfl ?_
    refine g_aload_n 0 (q := 26) dX0_sort_25 rfl rfl ?_
    refine g_get (q := 29) fl_X0_15 dX0_sort_26 rfl rfl rfl ?_
    refine g_icmp_ge (t := 46) (q := 32) dX0_sort_29 (by decide) rfl (fun c4 => ?_) (fun c4 => ?_)
    · rw [if_pos c4] at hf
      refine g_ls [0, 1, 2, 3] rfl ?_
      exact hK _ _ hf
    · rw [if_neg c4] at hf
      refine g_aload_n 0 (q := 33) dX0_sort_32 rfl rfl ?_
      refine g_iload 5 (q := 35) dX0_sort_33 rfl rfl ?_
      refine g_iload 4 (q := 37) dX0_sort_35 rfl rfl ?_
      obtain ⟨r5, e6, hf⟩ := Option.bind_eq_some_iff.mp hf
      refine g_callV (a := 23) (k2 := 0) (n2 := 0) (q := 40) (as := [.int v5, .int w4]) (st := []) (st1 := []) tm_X0_sink ml_X0_67 ti_X0_sink rfl rfl dX0_sort_37 rfl (ev_X0_sink e6) rfl rfl (Nat.le_of_ble_eq_true rfl) (by decide) rfl rfl (Or.inl (encC_len.trans encC_len.symm)) rfl ?_
      refine g_iinc 5 (q := 43) (v := (v5 + 1)) (L' := [(0, .ref 23), (1, .retAddr 1), (2, .int w2), (3, .int w3), (4, .int w4), (5, .int (v5 + 1))]) dX0_sort_40 rfl rfl rfl (by decide) rfl ?_
      refine g_goto (t := 23) dX0_sort_43 (by decide) ?_
      refine g_ls [0, 1, 2, 3, 4, 5] rfl ?_
      exact ih _ _ _ hf
set_option maxRecDepth 20000 in
set_option maxHeartbeats 4000000 in
theorem ev_X0_sort_L9 {l : Launch} {E : tEn} {cr : Value}  {x_hs : Int32} {s_n : Int32} {s_sp : Int64} {s_sb : Int64} {s_sc : Int32} {s_f : List Int64} {s_st : List Int32} {v_n : Int32} {v_sp : Int64} {v_sb : Int64} {v_sc : Int32} {v_f : List Int64} {v_st : List Int32} {h_k : Int32} {h_s : List Int32} {h_c : List Int64} {g_k : Int32} {g_v : Int32} {g_p : List Int32} {g_a : List Int32} {g_t : List Int32} {c_k : Int32} {c_t : List Int32} {c_p : List Int32} {i_l : Int32} {i_n : Int32} {i_f : Int64} {i_p : Int32} {i_o : Int32} {i_b : List Int32} {w_l : Int32} {w_s : List Int32} {x_e : List Int32} {x_l : List Int32} {k_k : Int32} {k_s : List Int32} {w2 : Int32} {K : List Int64 → Option (List Int64)} (hK : ∀  (k_e : List Int64) (res : List Int64), K k_e = some res → tG l E RX0 cX0_sort 6 none false 3 (fun r h' => r = none ∧ h' = encX x_hs s_n s_sp s_sb s_sc s_f s_st v_n v_sp v_sb v_sc v_f v_st h_k h_s h_c g_k g_v g_p g_a g_t c_k c_t c_p i_l i_n i_f i_p i_o i_b w_l w_s x_e x_l cr (tlC k_k res k_s)) 0 0 52 [] [] (encX x_hs s_n s_sp s_sb s_sc s_f s_st v_n v_sp v_sb v_sc v_f v_st h_k h_s h_c g_k g_v g_p g_a g_t c_k c_t c_p i_l i_n i_f i_p i_o i_b w_l w_s x_e x_l cr (tlC k_k k_e k_s))) :
    ∀ (fu : Nat) (v3 : Int32) (k_e : List Int64) (res : List Int64), f_X0_sort_L9 w2 k_k K fu v3 k_e = some res → tG l E RX0 cX0_sort 6 none false 3 (fun r h' => r = none ∧ h' = encX x_hs s_n s_sp s_sb s_sc s_f s_st v_n v_sp v_sb v_sc v_f v_st h_k h_s h_c g_k g_v g_p g_a g_t c_k c_t c_p i_l i_n i_f i_p i_o i_b w_l w_s x_e x_l cr (tlC k_k res k_s)) 0 0 9 [(0, .ref 23), (1, .retAddr 1), (2, .int w2), (3, .int v3)] [] (encX x_hs s_n s_sp s_sb s_sc s_f s_st v_n v_sp v_sb v_sc v_f v_st h_k h_s h_c g_k g_v g_p g_a g_t c_k c_t c_p i_l i_n i_f i_p i_o i_b w_l w_s x_e x_l cr (tlC k_k k_e k_s)) := by
  intro fu
  induction fu with
  | zero => intro v3 k_e res hf; exact nomatch (show none = some res from hf)
  | succ fu ih =>
    intro v3 k_e res hf
    rw [f_X0_sort_L9] at hf
    refine g_iload_n 3 (q := 10) dX0_sort_9 rfl rfl ?_
    refine g_iload_n 2 (q := 11) dX0_sort_10 rfl rfl ?_
    refine g_icmp_ge (t := 52) (q := 14) dX0_sort_11 (by decide) rfl (fun c1 => ?_) (fun c1 => ?_)
    · rw [if_pos c1] at hf
      refine g_ls [] rfl ?_
      exact hK _ _ hf
    · rw [if_neg c1] at hf
      refine g_aloadS_n 1 (q := 15) dX0_sort_14 rfl rfl ?_
      refine g_iload_n 3 (q := 16) dX0_sort_15 rfl rfl ?_
      obtain ⟨r2, e3, hf⟩ := Option.bind_eq_some_iff.mp hf
      refine g_ialoadG (q := 17) dX0_sort_16 rfl e3 ?_
      refine g_istore (q := 19) (L' := [(0, .ref 23), (1, .retAddr 1), (2, .int w2), (3, .int v3), (4, .int r2)]) dX0_sort_17 rfl (by decide) rfl ?_
      refine g_iload 4 (q := 21) dX0_sort_19 rfl rfl ?_
      refine g_istore (q := 23) (L' := [(0, .ref 23), (1, .retAddr 1), (2, .int w2), (3, .int v3), (4, .int r2), (5, .int r2)]) dX0_sort_21 rfl (by decide) rfl ?_
      refine g_ls [0, 1, 2, 3, 4, 5] rfl ?_
      refine ev_X0_sort_L23 (fun k7 res hf => ?_) tFU _ _ res hf
      refine g_iinc 3 (q := 49) (v := (v3 + 1)) (L' := [(0, .ref 23), (1, .retAddr 1), (2, .int w2), (3, .int (v3 + 1))]) dX0_sort_46 rfl rfl rfl (by decide) rfl ?_
      refine g_goto (t := 9) dX0_sort_49 (by decide) ?_
      refine g_ls [0, 1, 2, 3] rfl ?_
      exact ih _ _ _ hf
set_option maxRecDepth 20000 in
set_option maxHeartbeats 4000000 in
theorem ev_X0_sort {l : Launch} {E : tEn} {cr : Value} {x_hs : Int32} {s_n : Int32} {s_sp : Int64} {s_sb : Int64} {s_sc : Int32} {s_f : List Int64} {s_st : List Int32} {v_n : Int32} {v_sp : Int64} {v_sb : Int64} {v_sc : Int32} {v_f : List Int64} {v_st : List Int32} {h_k : Int32} {h_s : List Int32} {h_c : List Int64} {g_k : Int32} {g_v : Int32} {g_p : List Int32} {g_a : List Int32} {g_t : List Int32} {c_k : Int32} {c_t : List Int32} {c_p : List Int32} {i_l : Int32} {i_n : Int32} {i_f : Int64} {i_p : Int32} {i_o : Int32} {i_b : List Int32} {w_l : Int32} {w_s : List Int32} {x_e : List Int32} {x_l : List Int32} {k_k : Int32} {k_e : List Int64} {k_s : List Int32}  {res : List Int64} (hf : f_X0_sort k_k k_e = some res) : tEv l E yX0_sort cX0_sort 6 none 3 0 0 [.ref 23] (encX x_hs s_n s_sp s_sb s_sc s_f s_st v_n v_sp v_sb v_sc v_f v_st h_k h_s h_c g_k g_v g_p g_a g_t c_k c_t c_p i_l i_n i_f i_p i_o i_b w_l w_s x_e x_l cr (tlC k_k k_e k_s)) (fun r h' => r = none ∧ h' = encX x_hs s_n s_sp s_sb s_sc s_f s_st v_n v_sp v_sb v_sc v_f v_st h_k h_s h_c g_k g_v g_p g_a g_t c_k c_t c_p i_l i_n i_f i_p i_o i_b w_l w_s x_e x_l cr (tlC k_k res k_s)) := by
  refine tEv.of (own := RX0) (ini := false) (L := [(0, .ref 23)]) (by decide +kernel) rfl (fun h9 => nomatch h9) rfl (Nat.le_of_ble_eq_true rfl) ?_
  rw [f_X0_sort] at hf
  refine g_getsG (q := 3) sl_X0_63 dX0_sort_0 rfl ?_
  refine g_astoreS_n (q := 4) (L' := [(0, .ref 23), (1, .retAddr 1)]) dX0_sort_3 rfl (by decide) rfl ?_
  refine g_aloadS_n 1 (q := 5) dX0_sort_4 rfl rfl ?_
  refine g_alenG (q := 6) dX0_sort_5 rfl ?_
  refine g_istore_n (q := 7) (L' := [(0, .ref 23), (1, .retAddr 1), (2, .int 7)]) dX0_sort_6 rfl (by decide) rfl ?_
  refine g_iconst (q := 8) (v := 0) dX0_sort_7 rfl rfl ?_
  refine g_istore_n (q := 9) (L' := [(0, .ref 23), (1, .retAddr 1), (2, .int 7), (3, .int 0)]) dX0_sort_8 rfl (by decide) rfl ?_
  refine g_ls [0, 1, 2, 3] rfl ?_
  refine ev_X0_sort_L9 (fun k8 res hf => ?_) tFU _ _ res hf
  have hf := Option.some.inj hf
  subst hf
  exact g_return dX0_sort_52 rfl ⟨rfl, rfl⟩
