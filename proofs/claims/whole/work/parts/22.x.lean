/-! written by wip/whole/main.py out of the bytecode: a pure function for each method, and its contract -/
def f_X7_parent (a0 : Int32) (a1 : Int32) (s_n : Int32) (s_f : List Int64) (g_k : Int32) (g_v : Int32) (g_p : List Int32) (g_a : List Int32) (g_t : List Int32) (c_k : Int32) (c_t : List Int32) (c_p : List Int32) : Option (Int32 × Int32 × Int32 × List Int32 × List Int32 × List Int32 × Int32 × List Int32 × List Int32) := (f_X7_growCotree a0 s_n s_f g_k g_v g_p g_a g_t c_k c_t c_p).bind fun r1 => (if r1.1 = 0 then (if (f_X1_has a1 (r1.2.2.2.2.2.2.1)) = 0 then some ((-1), r1.2.1, r1.2.2.1, r1.2.2.2.1, r1.2.2.2.2.1, r1.2.2.2.2.2.1, r1.2.2.2.2.2.2.1, r1.2.2.2.2.2.2.2.1, r1.2.2.2.2.2.2.2.2) else (tld (r1.2.2.2.2.2.2.2.2) a1).bind fun r5 => some (r5, r1.2.1, r1.2.2.1, r1.2.2.2.1, r1.2.2.2.2.1, r1.2.2.2.2.2.1, r1.2.2.2.2.2.2.1, r1.2.2.2.2.2.2.2.1, r1.2.2.2.2.2.2.2.2)) else some (r1.1, r1.2.1, r1.2.2.1, r1.2.2.2.1, r1.2.2.2.2.1, r1.2.2.2.2.2.1, r1.2.2.2.2.2.2.1, r1.2.2.2.2.2.2.2.1, r1.2.2.2.2.2.2.2.2))
set_option maxRecDepth 20000 in
set_option maxHeartbeats 4000000 in
theorem ev_X7_parent {l : Launch} {E : tEn} {cr : Value} {tl : tHp} {x_hs : Int32} {s_n : Int32} {s_sp : Int64} {s_sb : Int64} {s_sc : Int32} {s_f : List Int64} {s_st : List Int32} {v_n : Int32} {v_sp : Int64} {v_sb : Int64} {v_sc : Int32} {v_f : List Int64} {v_st : List Int32} {h_k : Int32} {h_s : List Int32} {h_c : List Int64} {g_k : Int32} {g_v : Int32} {g_p : List Int32} {g_a : List Int32} {g_t : List Int32} {c_k : Int32} {c_t : List Int32} {c_p : List Int32} {i_l : Int32} {i_n : Int32} {i_f : Int64} {i_p : Int32} {i_o : Int32} {i_b : List Int32} {w_l : Int32} {w_s : List Int32} {x_e : List Int32} {x_l : List Int32} {a0 : Int32} {a1 : Int32} {res : Int32 × Int32 × Int32 × List Int32 × List Int32 × List Int32 × Int32 × List Int32 × List Int32} (hf : f_X7_parent a0 a1 s_n s_f g_k g_v g_p g_a g_t c_k c_t c_p = some res) : tEv l E yX7_parent cX7_parent 4 (some .int) 26 0 0 [.ref 0, .int a0, .int a1] (encX x_hs s_n s_sp s_sb s_sc s_f s_st v_n v_sp v_sb v_sc v_f v_st h_k h_s h_c g_k g_v g_p g_a g_t c_k c_t c_p i_l i_n i_f i_p i_o i_b w_l w_s x_e x_l cr tl) (fun r h' => r = some (.int res.1) ∧ h' = encX x_hs s_n s_sp s_sb s_sc s_f s_st v_n v_sp v_sb v_sc v_f v_st h_k h_s h_c (res.2.1) (res.2.2.1) (res.2.2.2.1) (res.2.2.2.2.1) (res.2.2.2.2.2.1) (res.2.2.2.2.2.2.1) (res.2.2.2.2.2.2.2.1) (res.2.2.2.2.2.2.2.2) i_l i_n i_f i_p i_o i_b w_l w_s x_e x_l cr tl) := by
  refine tEv.of (own := RX7) (ini := false) (L := [(0, .ref 0), (1, .int a0), (2, .int a1)]) (by decide +kernel) rfl (fun h9 => nomatch h9) rfl (Nat.le_of_ble_eq_true rfl) ?_
  rw [f_X7_parent] at hf
  refine g_aload_n 0 (q := 1) dX7_parent_0 rfl rfl ?_
  refine g_iload_n 1 (q := 2) dX7_parent_1 rfl rfl ?_
  obtain ⟨r1, e2, hf⟩ := Option.bind_eq_some_iff.mp hf
  refine g_callV (a := 0) (k2 := 0) (n2 := 0) (q := 5) (as := [.int a0]) (st := []) (st1 := [.int r1.1]) tm_X7_growCotree ml_X7_158 ti_X7_growCotree rfl rfl dX7_parent_2 rfl (ev_X7_growCotree e2) rfl rfl (Nat.le_of_ble_eq_true rfl) (by decide) rfl rfl (Or.inl (encX_len.trans encX_len.symm)) rfl ?_
  refine g_istore_n (q := 6) (L' := [(0, .ref 0), (1, .int a0), (2, .int a1), (3, .int r1.1)]) dX7_parent_5 rfl (by decide) rfl ?_
  refine g_iload_n 3 (q := 7) dX7_parent_6 rfl rfl ?_
  refine g_if_eq (t := 12) (q := 10) dX7_parent_7 (by decide) rfl (fun c3 => ?_) (fun c3 => ?_)
  · rw [if_pos c3] at hf
    refine g_aload_n 0 (q := 13) dX7_parent_12 rfl rfl ?_
    refine g_get (q := 16) fl_X7_40 dX7_parent_13 rfl rfl rfl ?_
    refine g_iload_n 2 (q := 17) dX7_parent_16 rfl rfl ?_
    refine g_callV (a := 14) (k2 := 0) (n2 := 0) (q := 20) (as := [.int a1]) (st := []) (st1 := [.int (f_X1_has a1 (r1.2.2.2.2.2.2.1))]) tm_X1_has ml_X7_164 ti_X1_has rfl rfl dX7_parent_17 rfl ev_X1_has rfl rfl (Nat.le_of_ble_eq_true rfl) (by decide) rfl rfl (Or.inl rfl) rfl ?_
    refine g_if_eq (t := 35) (q := 23) dX7_parent_20 (by decide) rfl (fun c4 => ?_) (fun c4 => ?_)
    · rw [if_pos c4] at hf
      refine g_iconst (q := 36) (v := (-1)) dX7_parent_35 rfl rfl ?_
      have hf := Option.some.inj hf
      subst hf
      exact g_ireturn dX7_parent_36 rfl ⟨rfl, rfl⟩
    · rw [if_neg c4] at hf
      refine g_aload_n 0 (q := 24) dX7_parent_23 rfl rfl ?_
      refine g_get (q := 27) fl_X7_40 dX7_parent_24 rfl rfl rfl ?_
      refine g_get (q := 30) fl_X7_170 dX7_parent_27 rfl rfl rfl ?_
      refine g_iload_n 2 (q := 31) dX7_parent_30 rfl rfl ?_
      obtain ⟨r5, e6, hf⟩ := Option.bind_eq_some_iff.mp hf
      refine g_iaload (q := 32) dX7_parent_31 rfl rfl e6 ?_
      refine g_goto (t := 36) dX7_parent_32 (by decide) ?_
      have hf := Option.some.inj hf
      subst hf
      exact g_ireturn dX7_parent_36 rfl ⟨rfl, rfl⟩
  · rw [if_neg c3] at hf
    refine g_iload_n 3 (q := 11) dX7_parent_10 rfl rfl ?_
    have hf := Option.some.inj hf
    subst hf
    exact g_ireturn dX7_parent_11 rfl ⟨rfl, rfl⟩
def f_X1_depthOfNode_L4 (c_k : Int32) (c_p : List Int32) (K : Int32 → Option (Int32)) : Nat → Int32 → Int32 → Option (Int32)
  | 0, _, _ => none
  | fu + 1, v2, v3 => (if 9 ≤ v2 then K v2 else (if (f_X1_has v3 c_k) = 0 then K v2 else (tld c_p v3).bind fun r3 => f_X1_depthOfNode_L4 c_k c_p K fu (v2 + 1) r3))
def f_X1_depthOfNode (a0 : Int32) (c_k : Int32) (c_p : List Int32) : Option (Int32) := f_X1_depthOfNode_L4 c_k c_p (fun y5 => some y5) tFU 0 a0
set_option maxRecDepth 20000 in
set_option maxHeartbeats 4000000 in
theorem ev_X1_depthOfNode_L4 {l : Launch} {E : tEn} {cr : Value} {tl : tHp}  {x_hs : Int32} {s_n : Int32} {s_sp : Int64} {s_sb : Int64} {s_sc : Int32} {s_f : List Int64} {s_st : List Int32} {v_n : Int32} {v_sp : Int64} {v_sb : Int64} {v_sc : Int32} {v_f : List Int64} {v_st : List Int32} {h_k : Int32} {h_s : List Int32} {h_c : List Int64} {g_k : Int32} {g_v : Int32} {g_p : List Int32} {g_a : List Int32} {g_t : List Int32} {c_k : Int32} {c_t : List Int32} {c_p : List Int32} {i_l : Int32} {i_n : Int32} {i_f : Int64} {i_p : Int32} {i_o : Int32} {i_b : List Int32} {w_l : Int32} {w_s : List Int32} {x_e : List Int32} {x_l : List Int32}  {K : Int32 → Option (Int32)} (hK : ∀ (v2 : Int32)  (res : Int32), K v2 = some res → tG l E RX1 cX1_depthOfNode 4 (some .int) false 3 (fun r h' => r = some (.int res) ∧ h' = encX x_hs s_n s_sp s_sb s_sc s_f s_st v_n v_sp v_sb v_sc v_f v_st h_k h_s h_c g_k g_v g_p g_a g_t c_k c_t c_p i_l i_n i_f i_p i_o i_b w_l w_s x_e x_l cr tl) 0 0 31 [(2, .int v2)] [] (encX x_hs s_n s_sp s_sb s_sc s_f s_st v_n v_sp v_sb v_sc v_f v_st h_k h_s h_c g_k g_v g_p g_a g_t c_k c_t c_p i_l i_n i_f i_p i_o i_b w_l w_s x_e x_l cr tl)) :
    ∀ (fu : Nat) (v2 : Int32) (v3 : Int32) (res : Int32), f_X1_depthOfNode_L4 c_k c_p K fu v2 v3 = some res → tG l E RX1 cX1_depthOfNode 4 (some .int) false 3 (fun r h' => r = some (.int res) ∧ h' = encX x_hs s_n s_sp s_sb s_sc s_f s_st v_n v_sp v_sb v_sc v_f v_st h_k h_s h_c g_k g_v g_p g_a g_t c_k c_t c_p i_l i_n i_f i_p i_o i_b w_l w_s x_e x_l cr tl) 0 0 4 [(0, .ref 14), (2, .int v2), (3, .int v3)] [] (encX x_hs s_n s_sp s_sb s_sc s_f s_st v_n v_sp v_sb v_sc v_f v_st h_k h_s h_c g_k g_v g_p g_a g_t c_k c_t c_p i_l i_n i_f i_p i_o i_b w_l w_s x_e x_l cr tl) := by
  intro fu
  induction fu with
  | zero => intro v2 v3 res hf; exact nomatch (show none = some res from hf)
  | succ fu ih =>
    intro v2 v3 res hf
    rw [f_X1_depthOfNode_L4] at hf
    refine g_iload_n 1 (q := 5) dX1_depthOfNode_4 rfl rfl ?_
    refine g_bipush (q := 7) (v := 9) dX1_depthOfNode_5 rfl rfl ?_
    refine g_icmp_ge (t := 31) (q := 10) dX1_depthOfNode_7 (by decide) rfl (fun c1 => ?_) (fun c1 => ?_)
    · rw [if_pos c1] at hf
      refine g_ls [1] rfl ?_
      exact hK _ _ hf
    · rw [if_neg c1] at hf
      refine g_aload_n 0 (q := 11) dX1_depthOfNode_10 rfl rfl ?_
      refine g_iload_n 2 (q := 12) dX1_depthOfNode_11 rfl rfl ?_
      refine g_callV (a := 14) (k2 := 0) (n2 := 0) (q := 15) (as := [.int v3]) (st := []) (st1 := [.int (f_X1_has v3 c_k)]) tm_X1_has ml_X1_60 ti_X1_has rfl rfl dX1_depthOfNode_12 rfl ev_X1_has rfl rfl (Nat.le_of_ble_eq_true rfl) (by decide) rfl rfl (Or.inl rfl) rfl ?_
      refine g_if_eq (t := 31) (q := 18) dX1_depthOfNode_15 (by decide) rfl (fun c2 => ?_) (fun c2 => ?_)
      · rw [if_pos c2] at hf
        refine g_ls [1] rfl ?_
        exact hK _ _ hf
      · rw [if_neg c2] at hf
        refine g_iinc 1 (q := 21) (v := (v2 + 1)) (L' := [(0, .ref 14), (2, .int (v2 + 1)), (3, .int v3)]) dX1_depthOfNode_18 rfl rfl rfl (by decide) rfl ?_
        refine g_aload_n 0 (q := 22) dX1_depthOfNode_21 rfl rfl ?_
        refine g_get (q := 25) fl_X1_15 dX1_depthOfNode_22 rfl rfl rfl ?_
        refine g_iload_n 2 (q := 26) dX1_depthOfNode_25 rfl rfl ?_
        obtain ⟨r3, e4, hf⟩ := Option.bind_eq_some_iff.mp hf
        refine g_iaload (q := 27) dX1_depthOfNode_26 rfl rfl e4 ?_
        refine g_istore_n (q := 28) (L' := [(0, .ref 14), (2, .int (v2 + 1)), (3, .int r3)]) dX1_depthOfNode_27 rfl (by decide) rfl ?_
        refine g_goto (t := 4) dX1_depthOfNode_28 (by decide) ?_
        refine g_ls [0, 1, 2] rfl ?_
        exact ih _ _ _ hf
set_option maxRecDepth 20000 in
set_option maxHeartbeats 4000000 in
theorem ev_X1_depthOfNode {l : Launch} {E : tEn} {cr : Value} {tl : tHp} {x_hs : Int32} {s_n : Int32} {s_sp : Int64} {s_sb : Int64} {s_sc : Int32} {s_f : List Int64} {s_st : List Int32} {v_n : Int32} {v_sp : Int64} {v_sb : Int64} {v_sc : Int32} {v_f : List Int64} {v_st : List Int32} {h_k : Int32} {h_s : List Int32} {h_c : List Int64} {g_k : Int32} {g_v : Int32} {g_p : List Int32} {g_a : List Int32} {g_t : List Int32} {c_k : Int32} {c_t : List Int32} {c_p : List Int32} {i_l : Int32} {i_n : Int32} {i_f : Int64} {i_p : Int32} {i_o : Int32} {i_b : List Int32} {w_l : Int32} {w_s : List Int32} {x_e : List Int32} {x_l : List Int32} {a0 : Int32} {res : Int32} (hf : f_X1_depthOfNode a0 c_k c_p = some res) : tEv l E yX1_depthOfNode cX1_depthOfNode 4 (some .int) 3 0 0 [.ref 14, .int a0] (encX x_hs s_n s_sp s_sb s_sc s_f s_st v_n v_sp v_sb v_sc v_f v_st h_k h_s h_c g_k g_v g_p g_a g_t c_k c_t c_p i_l i_n i_f i_p i_o i_b w_l w_s x_e x_l cr tl) (fun r h' => r = some (.int res) ∧ h' = encX x_hs s_n s_sp s_sb s_sc s_f s_st v_n v_sp v_sb v_sc v_f v_st h_k h_s h_c g_k g_v g_p g_a g_t c_k c_t c_p i_l i_n i_f i_p i_o i_b w_l w_s x_e x_l cr tl) := by
  refine tEv.of (own := RX1) (ini := false) (L := [(0, .ref 14), (1, .int a0)]) (by decide +kernel) rfl (fun h9 => nomatch h9) rfl (Nat.le_of_ble_eq_true rfl) ?_
  rw [f_X1_depthOfNode] at hf
  refine g_iconst (q := 1) (v := 0) dX1_depthOfNode_0 rfl rfl ?_
  refine g_istore_n (q := 2) (L' := [(0, .ref 14), (1, .int a0), (2, .int 0)]) dX1_depthOfNode_1 rfl (by decide) rfl ?_
  refine g_iload_n 1 (q := 3) dX1_depthOfNode_2 rfl rfl ?_
  refine g_istore_n (q := 4) (L' := [(0, .ref 14), (1, .int a0), (2, .int 0), (3, .int a0)]) dX1_depthOfNode_3 rfl (by decide) rfl ?_
  refine g_ls [0, 2, 3] rfl ?_
  refine ev_X1_depthOfNode_L4 (fun y5 res hf => ?_) tFU _ _ res hf
  refine g_iload_n 0 (q := 32) dX1_depthOfNode_31 rfl rfl ?_
  have hf := Option.some.inj hf
  subst hf
  exact g_ireturn dX1_depthOfNode_32 rfl ⟨rfl, rfl⟩
def f_X1_depthOfLeaf_L2 (w1 : Int32) (c_k : Int32) (c_t : List Int32) (c_p : List Int32) (K : Option (Int32)) : Nat → Int32 → Option (Int32)
  | 0, _ => none
  | fu + 1, v2 => (if c_k ≤ v2 then K else (tld c_t v2).bind fun r2 => (if r2 = w1 then (f_X1_depthOfNode v2 c_k c_p).bind fun r5 => some r5 else f_X1_depthOfLeaf_L2 w1 c_k c_t c_p K fu (v2 + 1)))
def f_X1_depthOfLeaf (a0 : Int32) (c_k : Int32) (c_t : List Int32) (c_p : List Int32) : Option (Int32) := f_X1_depthOfLeaf_L2 a0 c_k c_t c_p (some (-1)) tFU 0
set_option maxRecDepth 20000 in
set_option maxHeartbeats 4000000 in
theorem ev_X1_depthOfLeaf_L2 {l : Launch} {E : tEn} {cr : Value} {tl : tHp}  {x_hs : Int32} {s_n : Int32} {s_sp : Int64} {s_sb : Int64} {s_sc : Int32} {s_f : List Int64} {s_st : List Int32} {v_n : Int32} {v_sp : Int64} {v_sb : Int64} {v_sc : Int32} {v_f : List Int64} {v_st : List Int32} {h_k : Int32} {h_s : List Int32} {h_c : List Int64} {g_k : Int32} {g_v : Int32} {g_p : List Int32} {g_a : List Int32} {g_t : List Int32} {c_k : Int32} {c_t : List Int32} {c_p : List Int32} {i_l : Int32} {i_n : Int32} {i_f : Int64} {i_p : Int32} {i_o : Int32} {i_b : List Int32} {w_l : Int32} {w_s : List Int32} {x_e : List Int32} {x_l : List Int32} {w1 : Int32} {K : Option (Int32)} (hK : ∀   (res : Int32), K  = some res → tG l E RX1 cX1_depthOfLeaf 3 (some .int) false 4 (fun r h' => r = some (.int res) ∧ h' = encX x_hs s_n s_sp s_sb s_sc s_f s_st v_n v_sp v_sb v_sc v_f v_st h_k h_s h_c g_k g_v g_p g_a g_t c_k c_t c_p i_l i_n i_f i_p i_o i_b w_l w_s x_e x_l cr tl) 0 0 32 [] [] (encX x_hs s_n s_sp s_sb s_sc s_f s_st v_n v_sp v_sb v_sc v_f v_st h_k h_s h_c g_k g_v g_p g_a g_t c_k c_t c_p i_l i_n i_f i_p i_o i_b w_l w_s x_e x_l cr tl)) :
    ∀ (fu : Nat) (v2 : Int32) (res : Int32), f_X1_depthOfLeaf_L2 w1 c_k c_t c_p K fu v2 = some res → tG l E RX1 cX1_depthOfLeaf 3 (some .int) false 4 (fun r h' => r = some (.int res) ∧ h' = encX x_hs s_n s_sp s_sb s_sc s_f s_st v_n v_sp v_sb v_sc v_f v_st h_k h_s h_c g_k g_v g_p g_a g_t c_k c_t c_p i_l i_n i_f i_p i_o i_b w_l w_s x_e x_l cr tl) 0 0 2 [(0, .ref 14), (1, .int w1), (2, .int v2)] [] (encX x_hs s_n s_sp s_sb s_sc s_f s_st v_n v_sp v_sb v_sc v_f v_st h_k h_s h_c g_k g_v g_p g_a g_t c_k c_t c_p i_l i_n i_f i_p i_o i_b w_l w_s x_e x_l cr tl) := by
  intro fu
  induction fu with
  | zero => intro v2 res hf; exact nomatch (show none = some res from hf)
  | succ fu ih =>
    intro v2 res hf
    rw [f_X1_depthOfLeaf_L2] at hf
    refine g_iload_n 2 (q := 3) dX1_depthOfLeaf_2 rfl rfl ?_
    refine g_aload_n 0 (q := 4) dX1_depthOfLeaf_3 rfl rfl ?_
    refine g_get (q := 7) fl_X1_18 dX1_depthOfLeaf_4 rfl rfl rfl ?_
    refine g_icmp_ge (t := 32) (q := 10) dX1_depthOfLeaf_7 (by decide) rfl (fun c1 => ?_) (fun c1 => ?_)
    · rw [if_pos c1] at hf
      refine g_ls [] rfl ?_
      exact hK _ hf
    · rw [if_neg c1] at hf
      refine g_aload_n 0 (q := 11) dX1_depthOfLeaf_10 rfl rfl ?_
      refine g_get (q := 14) fl_X1_11 dX1_depthOfLeaf_11 rfl rfl rfl ?_
      refine g_iload_n 2 (q := 15) dX1_depthOfLeaf_14 rfl rfl ?_
      obtain ⟨r2, e3, hf⟩ := Option.bind_eq_some_iff.mp hf
      refine g_iaload (q := 16) dX1_depthOfLeaf_15 rfl rfl e3 ?_
      refine g_iload_n 1 (q := 17) dX1_depthOfLeaf_16 rfl rfl ?_
      refine g_icmp_ne (t := 26) (q := 20) dX1_depthOfLeaf_17 (by decide) rfl (fun c4 => ?_) (fun c4 => ?_)
      · rw [if_neg c4] at hf
        refine g_iinc 2 (q := 29) (v := (v2 + 1)) (L' := [(0, .ref 14), (1, .int w1), (2, .int (v2 + 1))]) dX1_depthOfLeaf_26 rfl rfl rfl (by decide) rfl ?_
        refine g_goto (t := 2) dX1_depthOfLeaf_29 (by decide) ?_
        refine g_ls [0, 1, 2] rfl ?_
        exact ih _ _ hf
      · rw [if_pos c4] at hf
        refine g_aload_n 0 (q := 21) dX1_depthOfLeaf_20 rfl rfl ?_
        refine g_iload_n 2 (q := 22) dX1_depthOfLeaf_21 rfl rfl ?_
        obtain ⟨r5, e6, hf⟩ := Option.bind_eq_some_iff.mp hf
        refine g_callV (a := 14) (k2 := 0) (n2 := 0) (q := 25) (as := [.int v2]) (st := []) (st1 := [.int r5]) tm_X1_depthOfNode ml_X1_57 ti_X1_depthOfNode rfl rfl dX1_depthOfLeaf_22 rfl (ev_X1_depthOfNode e6) rfl rfl (Nat.le_of_ble_eq_true rfl) (by decide) rfl rfl (Or.inl rfl) rfl ?_
        have hf := Option.some.inj hf
        subst hf
        exact g_ireturn dX1_depthOfLeaf_25 rfl ⟨rfl, rfl⟩
set_option maxRecDepth 20000 in
set_option maxHeartbeats 4000000 in
theorem ev_X1_depthOfLeaf {l : Launch} {E : tEn} {cr : Value} {tl : tHp} {x_hs : Int32} {s_n : Int32} {s_sp : Int64} {s_sb : Int64} {s_sc : Int32} {s_f : List Int64} {s_st : List Int32} {v_n : Int32} {v_sp : Int64} {v_sb : Int64} {v_sc : Int32} {v_f : List Int64} {v_st : List Int32} {h_k : Int32} {h_s : List Int32} {h_c : List Int64} {g_k : Int32} {g_v : Int32} {g_p : List Int32} {g_a : List Int32} {g_t : List Int32} {c_k : Int32} {c_t : List Int32} {c_p : List Int32} {i_l : Int32} {i_n : Int32} {i_f : Int64} {i_p : Int32} {i_o : Int32} {i_b : List Int32} {w_l : Int32} {w_s : List Int32} {x_e : List Int32} {x_l : List Int32} {a0 : Int32} {res : Int32} (hf : f_X1_depthOfLeaf a0 c_k c_t c_p = some res) : tEv l E yX1_depthOfLeaf cX1_depthOfLeaf 3 (some .int) 4 0 0 [.ref 14, .int a0] (encX x_hs s_n s_sp s_sb s_sc s_f s_st v_n v_sp v_sb v_sc v_f v_st h_k h_s h_c g_k g_v g_p g_a g_t c_k c_t c_p i_l i_n i_f i_p i_o i_b w_l w_s x_e x_l cr tl) (fun r h' => r = some (.int res) ∧ h' = encX x_hs s_n s_sp s_sb s_sc s_f s_st v_n v_sp v_sb v_sc v_f v_st h_k h_s h_c g_k g_v g_p g_a g_t c_k c_t c_p i_l i_n i_f i_p i_o i_b w_l w_s x_e x_l cr tl) := by
  refine tEv.of (own := RX1) (ini := false) (L := [(0, .ref 14), (1, .int a0)]) (by decide +kernel) rfl (fun h9 => nomatch h9) rfl (Nat.le_of_ble_eq_true rfl) ?_
  rw [f_X1_depthOfLeaf] at hf
  refine g_iconst (q := 1) (v := 0) dX1_depthOfLeaf_0 rfl rfl ?_
  refine g_istore_n (q := 2) (L' := [(0, .ref 14), (1, .int a0), (2, .int 0)]) dX1_depthOfLeaf_1 rfl (by decide) rfl ?_
  refine g_ls [0, 1, 2] rfl ?_
  refine ev_X1_depthOfLeaf_L2 (fun  res hf => ?_) tFU _ res hf
  refine g_iconst (q := 33) (v := (-1)) dX1_depthOfLeaf_32 rfl rfl ?_
  have hf := Option.some.inj hf
  subst hf
  exact g_ireturn dX1_depthOfLeaf_33 rfl ⟨rfl, rfl⟩
def f_X7_depth (a0 : Int32) (a1 : Int32) (s_n : Int32) (s_f : List Int64) (g_k : Int32) (g_v : Int32) (g_p : List Int32) (g_a : List Int32) (g_t : List Int32) (c_k : Int32) (c_t : List Int32) (c_p : List Int32) : Option (Int32 × Int32 × Int32 × List Int32 × List Int32 × List Int32 × Int32 × List Int32 × List Int32) := (if (f_X7_isVariable a1 s_n) = 0 then some ((-2), g_k, g_v, g_p, g_a, g_t, c_k, c_t, c_p) else (f_X7_growCotree a0 s_n s_f g_k g_v g_p g_a g_t c_k c_t c_p).bind fun r2 => (if r2.1 = 0 then (f_X1_depthOfLeaf a1 (r2.2.2.2.2.2.2.1) (r2.2.2.2.2.2.2.2.1) (r2.2.2.2.2.2.2.2.2)).bind fun r5 => some (r5, r2.2.1, r2.2.2.1, r2.2.2.2.1, r2.2.2.2.2.1, r2.2.2.2.2.2.1, r2.2.2.2.2.2.2.1, r2.2.2.2.2.2.2.2.1, r2.2.2.2.2.2.2.2.2) else some (r2.1, r2.2.1, r2.2.2.1, r2.2.2.2.1, r2.2.2.2.2.1, r2.2.2.2.2.2.1, r2.2.2.2.2.2.2.1, r2.2.2.2.2.2.2.2.1, r2.2.2.2.2.2.2.2.2)))
set_option maxRecDepth 20000 in
set_option maxHeartbeats 4000000 in
theorem ev_X7_depth {l : Launch} {E : tEn} {cr : Value} {tl : tHp} {x_hs : Int32} {s_n : Int32} {s_sp : Int64} {s_sb : Int64} {s_sc : Int32} {s_f : List Int64} {s_st : List Int32} {v_n : Int32} {v_sp : Int64} {v_sb : Int64} {v_sc : Int32} {v_f : List Int64} {v_st : List Int32} {h_k : Int32} {h_s : List Int32} {h_c : List Int64} {g_k : Int32} {g_v : Int32} {g_p : List Int32} {g_a : List Int32} {g_t : List Int32} {c_k : Int32} {c_t : List Int32} {c_p : List Int32} {i_l : Int32} {i_n : Int32} {i_f : Int64} {i_p : Int32} {i_o : Int32} {i_b : List Int32} {w_l : Int32} {w_s : List Int32} {x_e : List Int32} {x_l : List Int32} {a0 : Int32} {a1 : Int32} {res : Int32 × Int32 × Int32 × List Int32 × List Int32 × List Int32 × Int32 × List Int32 × List Int32} (hf : f_X7_depth a0 a1 s_n s_f g_k g_v g_p g_a g_t c_k c_t c_p = some res) : tEv l E yX7_depth cX7_depth 4 (some .int) 26 0 0 [.ref 0, .int a0, .int a1] (encX x_hs s_n s_sp s_sb s_sc s_f s_st v_n v_sp v_sb v_sc v_f v_st h_k h_s h_c g_k g_v g_p g_a g_t c_k c_t c_p i_l i_n i_f i_p i_o i_b w_l w_s x_e x_l cr tl) (fun r h' => r = some (.int res.1) ∧ h' = encX x_hs s_n s_sp s_sb s_sc s_f s_st v_n v_sp v_sb v_sc v_f v_st h_k h_s h_c (res.2.1) (res.2.2.1) (res.2.2.2.1) (res.2.2.2.2.1) (res.2.2.2.2.2.1) (res.2.2.2.2.2.2.1) (res.2.2.2.2.2.2.2.1) (res.2.2.2.2.2.2.2.2) i_l i_n i_f i_p i_o i_b w_l w_s x_e x_l cr tl) := by
  refine tEv.of (own := RX7) (ini := false) (L := [(0, .ref 0), (1, .int a0), (2, .int a1)]) (by decide +kernel) rfl (fun h9 => nomatch h9) rfl (Nat.le_of_ble_eq_true rfl) ?_
  rw [f_X7_depth] at hf
  refine g_aload_n 0 (q := 1) dX7_depth_0 rfl rfl ?_
  refine g_iload_n 2 (q := 2) dX7_depth_1 rfl rfl ?_
  refine g_callV (a := 0) (k2 := 0) (n2 := 0) (q := 5) (as := [.int a1]) (st := []) (st1 := [.int (f_X7_isVariable a1 s_n)]) tm_X7_isVariable ml_X7_134 ti_X7_isVariable rfl rfl dX7_depth_2 rfl ev_X7_isVariable rfl rfl (Nat.le_of_ble_eq_true rfl) (by decide) rfl rfl (Or.inl rfl) rfl ?_
  refine g_if_ne (t := 11) (q := 8) dX7_depth_5 (by decide) rfl (fun c1 => ?_) (fun c1 => ?_)
  · rw [if_neg c1] at hf
    refine g_aload_n 0 (q := 12) dX7_depth_11 rfl rfl ?_
    refine g_iload_n 1 (q := 13) dX7_depth_12 rfl rfl ?_
    obtain ⟨r2, e3, hf⟩ := Option.bind_eq_some_iff.mp hf
    refine g_callV (a := 0) (k2 := 0) (n2 := 0) (q := 16) (as := [.int a0]) (st := []) (st1 := [.int r2.1]) tm_X7_growCotree ml_X7_158 ti_X7_growCotree rfl rfl dX7_depth_13 rfl (ev_X7_growCotree e3) rfl rfl (Nat.le_of_ble_eq_true rfl) (by decide) rfl rfl (Or.inl (encX_len.trans encX_len.symm)) rfl ?_
    refine g_istore_n (q := 17) (L' := [(0, .ref 0), (1, .int a0), (2, .int a1), (3, .int r2.1)]) dX7_depth_16 rfl (by decide) rfl ?_
    refine g_iload_n 3 (q := 18) dX7_depth_17 rfl rfl ?_
    refine g_if_eq (t := 25) (q := 21) dX7_depth_18 (by decide) rfl (fun c4 => ?_) (fun c4 => ?_)
    · rw [if_pos c4] at hf
      refine g_aload_n 0 (q := 26) dX7_depth_25 rfl rfl ?_
      refine g_get (q := 29) fl_X7_40 dX7_depth_26 rfl rfl rfl ?_
      refine g_iload_n 2 (q := 30) dX7_depth_29 rfl rfl ?_
      obtain ⟨r5, e6, hf⟩ := Option.bind_eq_some_iff.mp hf
      refine g_callV (a := 14) (k2 := 0) (n2 := 0) (q := 33) (as := [.int a1]) (st := []) (st1 := [.int r5]) tm_X1_depthOfLeaf ml_X7_173 ti_X1_depthOfLeaf rfl rfl dX7_depth_30 rfl (ev_X1_depthOfLeaf e6) rfl rfl (Nat.le_of_ble_eq_true rfl) (by decide) rfl rfl (Or.inl rfl) rfl ?_
      have hf := Option.some.inj hf
      subst hf
      exact g_ireturn dX7_depth_33 rfl ⟨rfl, rfl⟩
    · rw [if_neg c4] at hf
      refine g_iload_n 3 (q := 22) dX7_depth_21 rfl rfl ?_
      refine g_goto (t := 33) dX7_depth_22 (by decide) ?_
      have hf := Option.some.inj hf
      subst hf
      exact g_ireturn dX7_depth_33 rfl ⟨rfl, rfl⟩
  · rw [if_pos c1] at hf
    refine g_bipush (q := 10) (v := (-2)) dX7_depth_8 rfl rfl ?_
    have hf := Option.some.inj hf
    subst hf
    exact g_ireturn dX7_depth_10 rfl ⟨rfl, rfl⟩
def f_X2_put (a0 : Int32) (w_l : Int32) (w_s : List Int32) : Option (Int32 × List Int32) := (if 16 ≤ w_l then some (w_l, w_s) else (tst w_s w_l a0).bind fun z2 => some ((w_l + 1), z2))
set_option maxRecDepth 20000 in
set_option maxHeartbeats 4000000 in
theorem ev_X2_put {l : Launch} {E : tEn} {cr : Value} {tl : tHp} {x_hs : Int32} {s_n : Int32} {s_sp : Int64} {s_sb : Int64} {s_sc : Int32} {s_f : List Int64} {s_st : List Int32} {v_n : Int32} {v_sp : Int64} {v_sb : Int64} {v_sc : Int32} {v_f : List Int64} {v_st : List Int32} {h_k : Int32} {h_s : List Int32} {h_c : List Int64} {g_k : Int32} {g_v : Int32} {g_p : List Int32} {g_a : List Int32} {g_t : List Int32} {c_k : Int32} {c_t : List Int32} {c_p : List Int32} {i_l : Int32} {i_n : Int32} {i_f : Int64} {i_p : Int32} {i_o : Int32} {i_b : List Int32} {w_l : Int32} {w_s : List Int32} {x_e : List Int32} {x_l : List Int32} {a0 : Int32} {res : Int32 × List Int32} (hf : f_X2_put a0 w_l w_s = some res) : tEv l E yX2_put cX2_put 2 none 1 0 0 [.ref 19, .int a0] (encX x_hs s_n s_sp s_sb s_sc s_f s_st v_n v_sp v_sb v_sc v_f v_st h_k h_s h_c g_k g_v g_p g_a g_t c_k c_t c_p i_l i_n i_f i_p i_o i_b w_l w_s x_e x_l cr tl) (fun r h' => r = none ∧ h' = encX x_hs s_n s_sp s_sb s_sc s_f s_st v_n v_sp v_sb v_sc v_f v_st h_k h_s h_c g_k g_v g_p g_a g_t c_k c_t c_p i_l i_n i_f i_p i_o i_b (res.1) (res.2) x_e x_l cr tl) := by
  refine tEv.of (own := RX2) (ini := false) (L := [(0, .ref 19), (1, .int a0)]) (by decide +kernel) rfl (fun h9 => nomatch h9) rfl (Nat.le_of_ble_eq_true rfl) ?_
  rw [f_X2_put] at hf
  refine g_aload_n 0 (q := 1) dX2_put_0 rfl rfl ?_
  refine g_get (q := 4) fl_X2_15 dX2_put_1 rfl rfl rfl ?_
  refine g_bipush (q := 6) (v := 16) dX2_put_4 rfl rfl ?_
  refine g_icmp_ge (t := 29) (q := 9) dX2_put_6 (by decide) rfl (fun c1 => ?_) (fun c1 => ?_)
  · rw [if_pos c1] at hf
    have hf := Option.some.inj hf
    subst hf
    exact g_return dX2_put_29 rfl ⟨rfl, rfl⟩
  · rw [if_neg c1] at hf
    refine g_aload_n 0 (q := 10) dX2_put_9 rfl rfl ?_
    refine g_get (q := 13) fl_X2_11 dX2_put_10 rfl rfl rfl ?_
    refine g_aload_n 0 (q := 14) dX2_put_13 rfl rfl ?_
    refine g_get (q := 17) fl_X2_15 dX2_put_14 rfl rfl rfl ?_
    refine g_iload_n 1 (q := 18) dX2_put_17 rfl rfl ?_
    obtain ⟨z2, e3, hf⟩ := Option.bind_eq_some_iff.mp hf
    refine g_iastore (q := 19) (h' := encX x_hs s_n s_sp s_sb s_sc s_f s_st v_n v_sp v_sb v_sc v_f v_st h_k h_s h_c g_k g_v g_p g_a g_t c_k c_t c_p i_l i_n i_f i_p i_o i_b w_l z2 x_e x_l cr tl) dX2_put_18 rfl rfl e3 rfl ?_
    refine g_aload_n 0 (q := 20) dX2_put_19 rfl rfl ?_
    refine g_dup (q := 21) dX2_put_20 rfl rfl ?_
    refine g_get (q := 24) fl_X2_15 dX2_put_21 rfl rfl rfl ?_
    refine g_iconst (q := 25) (v := 1) dX2_put_24 rfl rfl ?_
    refine g_iadd (q := 26) dX2_put_25 rfl ?_
    refine g_put (q := 29) (h' := encX x_hs s_n s_sp s_sb s_sc s_f s_st v_n v_sp v_sb v_sc v_f v_st h_k h_s h_c g_k g_v g_p g_a g_t c_k c_t c_p i_l i_n i_f i_p i_o i_b (w_l + 1) z2 x_e x_l cr tl) fp_X2_15 dX2_put_26 rfl rfl (Nat.le_of_ble_eq_true rfl) (fun _ => ⟨rfl, rfl⟩) rfl ?_
    have hf := Option.some.inj hf
    subst hf
    exact g_return dX2_put_29 rfl ⟨rfl, rfl⟩
def f_X2_putChild (rc : Int32 → Int32 → Int32 → List Int32 → List Int32 → Int32 → List Int32 → Option (Int32 × List Int32)) (a0 : Int32) (a1 : Int32) (c_k : Int32) (c_t : List Int32) (c_p : List Int32) (w_l : Int32) (w_s : List Int32) : Option (Int32 × List Int32) := (tld c_t a0).bind fun r1 => (if r1 = 11 then (f_X2_put 40 w_l w_s).bind fun r6 => (rc a0 a1 c_k c_t c_p (r6.1) (r6.2)).bind fun r8 => (f_X2_put 41 (r8.1) (r8.2)).bind fun r10 => some (r10.1, r10.2) else (rc a0 a1 c_k c_t c_p w_l w_s).bind fun r4 => some (r4.1, r4.2))
set_option maxRecDepth 20000 in
set_option maxHeartbeats 4000000 in
theorem ev_X2_putChild {l : Launch} {E : tEn} {cr : Value} {tl : tHp} {rc : Int32 → Int32 → Int32 → List Int32 → List Int32 → Int32 → List Int32 → Option (Int32 × List Int32)} {dd dq : Nat} (hdd : 3 ≤ dd) (hdq : dd + 1 ≤ dq) (hrc : ∀ {x_hs : Int32} {s_n : Int32} {s_sp : Int64} {s_sb : Int64} {s_sc : Int32} {s_f : List Int64} {s_st : List Int32} {v_n : Int32} {v_sp : Int64} {v_sb : Int64} {v_sc : Int32} {v_f : List Int64} {v_st : List Int32} {h_k : Int32} {h_s : List Int32} {h_c : List Int64} {g_k : Int32} {g_v : Int32} {g_p : List Int32} {g_a : List Int32} {g_t : List Int32} {c_k : Int32} {c_t : List Int32} {c_p : List Int32} {i_l : Int32} {i_n : Int32} {i_f : Int64} {i_p : Int32} {i_o : Int32} {i_b : List Int32} {w_l : Int32} {w_s : List Int32} {x_e : List Int32} {x_l : List Int32} {a0 : Int32} {a1 : Int32} {res : Int32 × List Int32}, rc a0 a1 c_k c_t c_p w_l w_s = some res → tEv l E yX2_putNode cX2_putNode 7 none dd 0 0 [.ref 19, .ref 14, .int a0, .int a1] (encX x_hs s_n s_sp s_sb s_sc s_f s_st v_n v_sp v_sb v_sc v_f v_st h_k h_s h_c g_k g_v g_p g_a g_t c_k c_t c_p i_l i_n i_f i_p i_o i_b w_l w_s x_e x_l cr tl) (fun r h' => r = none ∧ h' = encX x_hs s_n s_sp s_sb s_sc s_f s_st v_n v_sp v_sb v_sc v_f v_st h_k h_s h_c g_k g_v g_p g_a g_t c_k c_t c_p i_l i_n i_f i_p i_o i_b (res.1) (res.2) x_e x_l cr tl)) {x_hs : Int32} {s_n : Int32} {s_sp : Int64} {s_sb : Int64} {s_sc : Int32} {s_f : List Int64} {s_st : List Int32} {v_n : Int32} {v_sp : Int64} {v_sb : Int64} {v_sc : Int32} {v_f : List Int64} {v_st : List Int32} {h_k : Int32} {h_s : List Int32} {h_c : List Int64} {g_k : Int32} {g_v : Int32} {g_p : List Int32} {g_a : List Int32} {g_t : List Int32} {c_k : Int32} {c_t : List Int32} {c_p : List Int32} {i_l : Int32} {i_n : Int32} {i_f : Int64} {i_p : Int32} {i_o : Int32} {i_b : List Int32} {w_l : Int32} {w_s : List Int32} {x_e : List Int32} {x_l : List Int32} {a0 : Int32} {a1 : Int32} {res : Int32 × List Int32} (hf : f_X2_putChild rc a0 a1 c_k c_t c_p w_l w_s = some res) : tEv l E yX2_putChild cX2_putChild 5 none dq 0 0 [.ref 19, .ref 14, .int a0, .int a1] (encX x_hs s_n s_sp s_sb s_sc s_f s_st v_n v_sp v_sb v_sc v_f v_st h_k h_s h_c g_k g_v g_p g_a g_t c_k c_t c_p i_l i_n i_f i_p i_o i_b w_l w_s x_e x_l cr tl) (fun r h' => r = none ∧ h' = encX x_hs s_n s_sp s_sb s_sc s_f s_st v_n v_sp v_sb v_sc v_f v_st h_k h_s h_c g_k g_v g_p g_a g_t c_k c_t c_p i_l i_n i_f i_p i_o i_b (res.1) (res.2) x_e x_l cr tl) := by
  refine tEv.of (own := RX2) (ini := false) (L := [(0, .ref 19), (1, .ref 14), (2, .int a0), (3, .int a1)]) (by decide +kernel) rfl (fun h9 => nomatch h9) rfl (Nat.le_of_ble_eq_true rfl) ?_
  rw [f_X2_putChild] at hf
  refine g_aload_n 1 (q := 1) dX2_putChild_0 rfl rfl ?_
  refine g_get (q := 4) fl_X2_29 dX2_putChild_1 rfl rfl rfl ?_
  refine g_iload_n 2 (q := 5) dX2_putChild_4 rfl rfl ?_
  obtain ⟨r1, e2, hf⟩ := Option.bind_eq_some_iff.mp hf
  refine g_iaload (q := 6) dX2_putChild_5 rfl rfl e2 ?_
  refine g_bipush (q := 8) (v := 11) dX2_putChild_6 rfl rfl ?_
  refine g_icmp_ne (t := 15) (q := 11) dX2_putChild_8 (by decide) rfl (fun c3 => ?_) (fun c3 => ?_)
  · rw [if_neg c3] at hf
    refine g_iconst (q := 16) (v := 0) dX2_putChild_15 rfl rfl ?_
    refine g_istore (q := 18) (L' := [(0, .ref 19), (1, .ref 14), (2, .int a0), (3, .int a1), (4, .int 0)]) dX2_putChild_16 rfl (by decide) rfl ?_
    refine g_iload 4 (q := 20) dX2_putChild_18 rfl rfl ?_
    refine g_if_eq (t := 29) (q := 23) dX2_putChild_20 (by decide) rfl (fun _ => ?_) (fun c => absurd c (by decide))
    refine g_aload_n 0 (q := 30) dX2_putChild_29 rfl rfl ?_
    refine g_aload_n 1 (q := 31) dX2_putChild_30 rfl rfl ?_
    refine g_iload_n 2 (q := 32) dX2_putChild_31 rfl rfl ?_
    refine g_iload_n 3 (q := 33) dX2_putChild_32 rfl rfl ?_
    obtain ⟨r4, e5, hf⟩ := Option.bind_eq_some_iff.mp hf
    refine g_callV (a := 19) (k2 := 0) (n2 := 0) (q := 36) (as := [.ref 14, .int a0, .int a1]) (st := []) (st1 := []) tm_X2_putNode ml_X2_19 ti_X2_putNode rfl rfl dX2_putChild_33 rfl (hrc e5) rfl rfl (Nat.le_of_ble_eq_true rfl) (by omega) rfl rfl (Or.inl (encX_len.trans encX_len.symm)) rfl ?_
    refine g_iload 4 (q := 38) dX2_putChild_36 rfl rfl ?_
    refine g_if_eq (t := 47) (q := 41) dX2_putChild_38 (by decide) rfl (fun _ => ?_) (fun c => absurd c (by decide))
    have hf := Option.some.inj hf
    subst hf
    exact g_return dX2_putChild_47 rfl ⟨rfl, rfl⟩
  · rw [if_pos c3] at hf
    refine g_iconst (q := 12) (v := 1) dX2_putChild_11 rfl rfl ?_
    refine g_goto (t := 16) dX2_putChild_12 (by decide) ?_
    refine g_istore (q := 18) (L' := [(0, .ref 19), (1, .ref 14), (2, .int a0), (3, .int a1), (4, .int 1)]) dX2_putChild_16 rfl (by decide) rfl ?_
    refine g_iload 4 (q := 20) dX2_putChild_18 rfl rfl ?_
    refine g_if_eq (t := 29) (q := 23) dX2_putChild_20 (by decide) rfl (fun c => absurd c (by decide)) (fun _ => ?_)
    refine g_aload_n 0 (q := 24) dX2_putChild_23 rfl rfl ?_
    refine g_bipush (q := 26) (v := 40) dX2_putChild_24 rfl rfl ?_
    obtain ⟨r6, e7, hf⟩ := Option.bind_eq_some_iff.mp hf
    refine g_callV (a := 19) (k2 := 0) (n2 := 0) (q := 29) (as := [.int 40]) (st := []) (st1 := []) tm_X2_put ml_X2_32 ti_X2_put rfl rfl dX2_putChild_26 rfl (ev_X2_put e7) rfl rfl (Nat.le_of_ble_eq_true rfl) (by omega) rfl rfl (Or.inl (encX_len.trans encX_len.symm)) rfl ?_
    refine g_aload_n 0 (q := 30) dX2_putChild_29 rfl rfl ?_
    refine g_aload_n 1 (q := 31) dX2_putChild_30 rfl rfl ?_
    refine g_iload_n 2 (q := 32) dX2_putChild_31 rfl rfl ?_
    refine g_iload_n 3 (q := 33) dX2_putChild_32 rfl rfl ?_
    obtain ⟨r8, e9, hf⟩ := Option.bind_eq_some_iff.mp hf
    refine g_callV (a := 19) (k2 := 0) (n2 := 0) (q := 36) (as := [.ref 14, .int a0, .int a1]) (st := []) (st1 := []) tm_X2_putNode ml_X2_19 ti_X2_putNode rfl rfl dX2_putChild_33 rfl (hrc e9) rfl rfl (Nat.le_of_ble_eq_true rfl) (by omega) rfl rfl (Or.inl (encX_len.trans encX_len.symm)) rfl ?_
    refine g_iload 4 (q := 38) dX2_putChild_36 rfl rfl ?_
    refine g_if_eq (t := 47) (q := 41) dX2_putChild_38 (by decide) rfl (fun c => absurd c (by decide)) (fun _ => ?_)
    refine g_aload_n 0 (q := 42) dX2_putChild_41 rfl rfl ?_
    refine g_bipush (q := 44) (v := 41) dX2_putChild_42 rfl rfl ?_
    obtain ⟨r10, e11, hf⟩ := Option.bind_eq_some_iff.mp hf
    refine g_callV (a := 19) (k2 := 0) (n2 := 0) (q := 47) (as := [.int 41]) (st := []) (st1 := []) tm_X2_put ml_X2_32 ti_X2_put rfl rfl dX2_putChild_44 rfl (ev_X2_put e11) rfl rfl (Nat.le_of_ble_eq_true rfl) (by omega) rfl rfl (Or.inl (encX_len.trans encX_len.symm)) rfl ?_
    have hf := Option.some.inj hf
    subst hf
    exact g_return dX2_putChild_47 rfl ⟨rfl, rfl⟩
def f_X2_putNode_L47 (rc : Int32 → Int32 → Int32 → List Int32 → List Int32 → Int32 → List Int32 → Option (Int32 × List Int32)) (w2 : Int32) (w3 : Int32) (w4 : Int32) (c_k : Int32) (c_t : List Int32) (c_p : List Int32) (K : Int32 → List Int32 → Option (Int32 × List Int32)) : Nat → Int32 → Int32 → Int32 → List Int32 → Option (Int32 × List Int32)
  | 0, _, _, _, _ => none
  | fu + 1, v5, v6, w_l, w_s => (if c_k ≤ v6 then K  w_l w_s else (tld c_p v6).bind fun r7 => (if r7 = w2 then (if v5 = 0 then (if w4 = 10 then (f_X2_put 42 w_l w_s).bind fun r18 => (f_X2_putChild rc v6 (w3 + 1) c_k c_t c_p (r18.1) (r18.2)).bind fun r20 => f_X2_putNode_L47 rc w2 w3 w4 c_k c_t c_p K fu 0 (v6 + 1) (r20.1) (r20.2) else (f_X2_put 43 w_l w_s).bind fun r14 => (f_X2_putChild rc v6 (w3 + 1) c_k c_t c_p (r14.1) (r14.2)).bind fun r16 => f_X2_putNode_L47 rc w2 w3 w4 c_k c_t c_p K fu 0 (v6 + 1) (r16.1) (r16.2)) else (f_X2_putChild rc v6 (w3 + 1) c_k c_t c_p w_l w_s).bind fun r11 => f_X2_putNode_L47 rc w2 w3 w4 c_k c_t c_p K fu 0 (v6 + 1) (r11.1) (r11.2)) else f_X2_putNode_L47 rc w2 w3 w4 c_k c_t c_p K fu v5 (v6 + 1) w_l w_s))
def f_X2_putNode : Nat → (Int32 → Int32 → Int32 → List Int32 → List Int32 → Int32 → List Int32 → Option (Int32 × List Int32))
  | 0 => fun _ _ _ _ _ _ _ => none
  | D + 1 => fun a0 a1 c_k c_t c_p w_l w_s => (if 5 < a1 then some (w_l, w_s) else (if (f_X1_has a0 c_k) = 0 then some (w_l, w_s) else (tld c_t a0).bind fun r3 => (if 10 ≤ r3 then f_X2_putNode_L47 (f_X2_putNode D) a0 a1 r3 c_k c_t c_p (fun k22 k23 => some (k22, k23)) tFU 1 (a0 + 1) w_l w_s else (f_X2_put (97 + r3) w_l w_s).bind fun r24 => some (r24.1, r24.2))))
set_option maxRecDepth 20000 in
set_option maxHeartbeats 4000000 in
theorem ev_X2_putNode_L47 {l : Launch} {E : tEn} {cr : Value} {tl : tHp} {rc : Int32 → Int32 → Int32 → List Int32 → List Int32 → Int32 → List Int32 → Option (Int32 × List Int32)} {dd dq : Nat} (hdd : 3 ≤ dd) (hdq : dd + 2 ≤ dq) (hrc : ∀ {x_hs : Int32} {s_n : Int32} {s_sp : Int64} {s_sb : Int64} {s_sc : Int32} {s_f : List Int64} {s_st : List Int32} {v_n : Int32} {v_sp : Int64} {v_sb : Int64} {v_sc : Int32} {v_f : List Int64} {v_st : List Int32} {h_k : Int32} {h_s : List Int32} {h_c : List Int64} {g_k : Int32} {g_v : Int32} {g_p : List Int32} {g_a : List Int32} {g_t : List Int32} {c_k : Int32} {c_t : List Int32} {c_p : List Int32} {i_l : Int32} {i_n : Int32} {i_f : Int64} {i_p : Int32} {i_o : Int32} {i_b : List Int32} {w_l : Int32} {w_s : List Int32} {x_e : List Int32} {x_l : List Int32} {a0 : Int32} {a1 : Int32} {res : Int32 × List Int32}, rc a0 a1 c_k c_t c_p w_l w_s = some res → tEv l E yX2_putNode cX2_putNode 7 none dd 0 0 [.ref 19, .ref 14, .int a0, .int a1] (encX x_hs s_n s_sp s_sb s_sc s_f s_st v_n v_sp v_sb v_sc v_f v_st h_k h_s h_c g_k g_v g_p g_a g_t c_k c_t c_p i_l i_n i_f i_p i_o i_b w_l w_s x_e x_l cr tl) (fun r h' => r = none ∧ h' = encX x_hs s_n s_sp s_sb s_sc s_f s_st v_n v_sp v_sb v_sc v_f v_st h_k h_s h_c g_k g_v g_p g_a g_t c_k c_t c_p i_l i_n i_f i_p i_o i_b (res.1) (res.2) x_e x_l cr tl)) {x_hs : Int32} {s_n : Int32} {s_sp : Int64} {s_sb : Int64} {s_sc : Int32} {s_f : List Int64} {s_st : List Int32} {v_n : Int32} {v_sp : Int64} {v_sb : Int64} {v_sc : Int32} {v_f : List Int64} {v_st : List Int32} {h_k : Int32} {h_s : List Int32} {h_c : List Int64} {g_k : Int32} {g_v : Int32} {g_p : List Int32} {g_a : List Int32} {g_t : List Int32} {c_k : Int32} {c_t : List Int32} {c_p : List Int32} {i_l : Int32} {i_n : Int32} {i_f : Int64} {i_p : Int32} {i_o : Int32} {i_b : List Int32} {x_e : List Int32} {x_l : List Int32} {w2 : Int32} {w3 : Int32} {w4 : Int32} {K : Int32 → List Int32 → Option (Int32 × List Int32)} (hK : ∀  (w_l : Int32) (w_s : List Int32) (res : Int32 × List Int32), K w_l w_s = some res → tG l E RX2 cX2_putNode 7 none false dq (fun r h' => r = none ∧ h' = encX x_hs s_n s_sp s_sb s_sc s_f s_st v_n v_sp v_sb v_sc v_f v_st h_k h_s h_c g_k g_v g_p g_a g_t c_k c_t c_p i_l i_n i_f i_p i_o i_b (res.1) (res.2) x_e x_l cr tl) 0 0 109 [] [] (encX x_hs s_n s_sp s_sb s_sc s_f s_st v_n v_sp v_sb v_sc v_f v_st h_k h_s h_c g_k g_v g_p g_a g_t c_k c_t c_p i_l i_n i_f i_p i_o i_b w_l w_s x_e x_l cr tl)) :
    ∀ (fu : Nat) (v5 : Int32) (v6 : Int32) (w_l : Int32) (w_s : List Int32) (res : Int32 × List Int32), f_X2_putNode_L47 rc w2 w3 w4 c_k c_t c_p K fu v5 v6 w_l w_s = some res → tG l E RX2 cX2_putNode 7 none false dq (fun r h' => r = none ∧ h' = encX x_hs s_n s_sp s_sb s_sc s_f s_st v_n v_sp v_sb v_sc v_f v_st h_k h_s h_c g_k g_v g_p g_a g_t c_k c_t c_p i_l i_n i_f i_p i_o i_b (res.1) (res.2) x_e x_l cr tl) 0 0 47 [(0, .ref 19), (1, .ref 14), (2, .int w2), (3, .int w3), (4, .int w4), (5, .int v5), (6, .int v6)] [] (encX x_hs s_n s_sp s_sb s_sc s_f s_st v_n v_sp v_sb v_sc v_f v_st h_k h_s h_c g_k g_v g_p g_a g_t c_k c_t c_p i_l i_n i_f i_p i_o i_b w_l w_s x_e x_l cr tl) := by
  intro fu
  induction fu with
  | zero => intro v5 v6 w_l w_s res hf; exact nomatch (show none = some res from hf)
  | succ fu ih =>
    intro v5 v6 w_l w_s res hf
    rw [f_X2_putNode_L47] at hf
    refine g_iload 6 (q := 49) dX2_putNode_47 rfl rfl ?_
    refine g_aload_n 1 (q := 50) dX2_putNode_49 rfl rfl ?_
    refine g_get (q := 53) fl_X2_36 dX2_putNode_50 rfl rfl rfl ?_
    refine g_icmp_ge (t := 109) (q := 56) dX2_putNode_53 (by decide) rfl (fun c6 => ?_) (fun c6 => ?_)
    · rw [if_pos c6] at hf
      refine g_ls [] rfl ?_
      exact hK _ _ _ hf
    · rw [if_neg c6] at hf
      refine g_aload_n 1 (q := 57) dX2_putNode_56 rfl rfl ?_
      refine g_get (q := 60) fl_X2_39 dX2_putNode_57 rfl rfl rfl ?_
      refine g_iload 6 (q := 62) dX2_putNode_60 rfl rfl ?_
      obtain ⟨r7, e8, hf⟩ := Option.bind_eq_some_iff.mp hf
      refine g_iaload (q := 63) dX2_putNode_62 rfl rfl e8 ?_
      refine g_iload_n 2 (q := 64) dX2_putNode_63 rfl rfl ?_
      refine g_icmp_ne (t := 103) (q := 67) dX2_putNode_64 (by decide) rfl (fun c9 => ?_) (fun c9 => ?_)
      · rw [if_neg c9] at hf
        refine g_iinc 6 (q := 106) (v := (v6 + 1)) (L' := [(0, .ref 19), (1, .ref 14), (2, .int w2), (3, .int w3), (4, .int w4), (5, .int v5), (6, .int (v6 + 1))]) dX2_putNode_103 rfl rfl rfl (by decide) rfl ?_
        refine g_goto (t := 47) dX2_putNode_106 (by decide) ?_
        refine g_ls [0, 1, 2, 3, 4, 5, 6] rfl ?_
        exact ih _ _ _ _ _ hf
      · rw [if_pos c9] at hf
        refine g_iload 5 (q := 69) dX2_putNode_67 rfl rfl ?_
        refine g_if_ne (t := 90) (q := 72) dX2_putNode_69 (by decide) rfl (fun c10 => ?_) (fun c10 => ?_)
        · rw [if_neg c10] at hf
          refine g_iconst (q := 91) (v := 0) dX2_putNode_90 rfl rfl ?_
          refine g_istore (q := 93) (L' := [(0, .ref 19), (1, .ref 14), (2, .int w2), (3, .int w3), (4, .int w4), (5, .int 0), (6, .int v6)]) dX2_putNode_91 rfl (by decide) rfl ?_
          refine g_aload_n 0 (q := 94) dX2_putNode_93 rfl rfl ?_
          refine g_aload_n 1 (q := 95) dX2_putNode_94 rfl rfl ?_
          refine g_iload 6 (q := 97) dX2_putNode_95 rfl rfl ?_
          refine g_iload_n 3 (q := 98) dX2_putNode_97 rfl rfl ?_
          refine g_iconst (q := 99) (v := 1) dX2_putNode_98 rfl rfl ?_
          refine g_iadd (q := 100) dX2_putNode_99 rfl ?_
          obtain ⟨r11, e12, hf⟩ := Option.bind_eq_some_iff.mp hf
          refine g_callV (a := 19) (k2 := 0) (n2 := 0) (q := 103) (as := [.ref 14, .int v6, .int (w3 + 1)]) (st := []) (st1 := []) tm_X2_putChild ml_X2_42 ti_X2_putChild rfl rfl dX2_putNode_100 rfl (ev_X2_putChild hdd (Nat.le_refl _) hrc e12) rfl rfl (Nat.le_of_ble_eq_true rfl) (by omega) rfl rfl (Or.inl (encX_len.trans encX_len.symm)) rfl ?_
          refine g_iinc 6 (q := 106) (v := (v6 + 1)) (L' := [(0, .ref 19), (1, .ref 14), (2, .int w2), (3, .int w3), (4, .int w4), (5, .int 0), (6, .int (v6 + 1))]) dX2_putNode_103 rfl rfl rfl (by decide) rfl ?_
          refine g_goto (t := 47) dX2_putNode_106 (by decide) ?_
          refine g_ls [0, 1, 2, 3, 4, 5, 6] rfl ?_
          exact ih _ _ _ _ _ hf
        · rw [if_pos c10] at hf
          refine g_aload_n 0 (q := 73) dX2_putNode_72 rfl rfl ?_
          refine g_iload 4 (q := 75) dX2_putNode_73 rfl rfl ?_
          refine g_bipush (q := 77) (v := 10) dX2_putNode_75 rfl rfl ?_
          refine g_icmp_ne (t := 85) (q := 80) dX2_putNode_77 (by decide) rfl (fun c13 => ?_) (fun c13 => ?_)
          · rw [if_neg c13] at hf
            refine g_bipush (q := 87) (v := 43) dX2_putNode_85 rfl rfl ?_
            obtain ⟨r14, e15, hf⟩ := Option.bind_eq_some_iff.mp hf
            refine g_callV (a := 19) (k2 := 0) (n2 := 0) (q := 90) (as := [.int 43]) (st := []) (st1 := []) tm_X2_put ml_X2_32 ti_X2_put rfl rfl dX2_putNode_87 rfl (ev_X2_put e15) rfl rfl (Nat.le_of_ble_eq_true rfl) (by omega) rfl rfl (Or.inl (encX_len.trans encX_len.symm)) rfl ?_
            refine g_iconst (q := 91) (v := 0) dX2_putNode_90 rfl rfl ?_
            refine g_istore (q := 93) (L' := [(0, .ref 19), (1, .ref 14), (2, .int w2), (3, .int w3), (4, .int w4), (5, .int 0), (6, .int v6)]) dX2_putNode_91 rfl (by decide) rfl ?_
            refine g_aload_n 0 (q := 94) dX2_putNode_93 rfl rfl ?_
            refine g_aload_n 1 (q := 95) dX2_putNode_94 rfl rfl ?_
            refine g_iload 6 (q := 97) dX2_putNode_95 rfl rfl ?_
            refine g_iload_n 3 (q := 98) dX2_putNode_97 rfl rfl ?_
            refine g_iconst (q := 99) (v := 1) dX2_putNode_98 rfl rfl ?_
            refine g_iadd (q := 100) dX2_putNode_99 rfl ?_
            obtain ⟨r16, e17, hf⟩ := Option.bind_eq_some_iff.mp hf
            refine g_callV (a := 19) (k2 := 0) (n2 := 0) (q := 103) (as := [.ref 14, .int v6, .int (w3 + 1)]) (st := []) (st1 := []) tm_X2_putChild ml_X2_42 ti_X2_putChild rfl rfl dX2_putNode_100 rfl (ev_X2_putChild hdd (Nat.le_refl _) hrc e17) rfl rfl (Nat.le_of_ble_eq_true rfl) (by omega) rfl rfl (Or.inl (encX_len.trans encX_len.symm)) rfl ?_
            refine g_iinc 6 (q := 106) (v := (v6 + 1)) (L' := [(0, .ref 19), (1, .ref 14), (2, .int w2), (3, .int w3), (4, .int w4), (5, .int 0), (6, .int (v6 + 1))]) dX2_putNode_103 rfl rfl rfl (by decide) rfl ?_
            refine g_goto (t := 47) dX2_putNode_106 (by decide) ?_
            refine g_ls [0, 1, 2, 3, 4, 5, 6] rfl ?_
            exact ih _ _ _ _ _ hf
          · rw [if_pos c13] at hf
            refine g_bipush (q := 82) (v := 42) dX2_putNode_80 rfl rfl ?_
            refine g_goto (t := 87) dX2_putNode_82 (by decide) ?_
            obtain ⟨r18, e19, hf⟩ := Option.bind_eq_some_iff.mp hf
            refine g_callV (a := 19) (k2 := 0) (n2 := 0) (q := 90) (as := [.int 42]) (st := []) (st1 := []) tm_X2_put ml_X2_32 ti_X2_put rfl rfl dX2_putNode_87 rfl (ev_X2_put e19) rfl rfl (Nat.le_of_ble_eq_true rfl) (by omega) rfl rfl (Or.inl (encX_len.trans encX_len.symm)) rfl ?_
            refine g_iconst (q := 91) (v := 0) dX2_putNode_90 rfl rfl ?_
            refine g_istore (q := 93) (L' := [(0, .ref 19), (1, .ref 14), (2, .int w2), (3, .int w3), (4, .int w4), (5, .int 0), (6, .int v6)]) dX2_putNode_91 rfl (by decide) rfl ?_
            refine g_aload_n 0 (q := 94) dX2_putNode_93 rfl rfl ?_
            refine g_aload_n 1 (q := 95) dX2_putNode_94 rfl rfl ?_
            refine g_iload 6 (q := 97) dX2_putNode_95 rfl rfl ?_
            refine g_iload_n 3 (q := 98) dX2_putNode_97 rfl rfl ?_
            refine g_iconst (q := 99) (v := 1) dX2_putNode_98 rfl rfl ?_
            refine g_iadd (q := 100) dX2_putNode_99 rfl ?_
            obtain ⟨r20, e21, hf⟩ := Option.bind_eq_some_iff.mp hf
            refine g_callV (a := 19) (k2 := 0) (n2 := 0) (q := 103) (as := [.ref 14, .int v6, .int (w3 + 1)]) (st := []) (st1 := []) tm_X2_putChild ml_X2_42 ti_X2_putChild rfl rfl dX2_putNode_100 rfl (ev_X2_putChild hdd (Nat.le_refl _) hrc e21) rfl rfl (Nat.le_of_ble_eq_true rfl) (by omega) rfl rfl (Or.inl (encX_len.trans encX_len.symm)) rfl ?_
            refine g_iinc 6 (q := 106) (v := (v6 + 1)) (L' := [(0, .ref 19), (1, .ref 14), (2, .int w2), (3, .int w3), (4, .int w4), (5, .int 0), (6, .int (v6 + 1))]) dX2_putNode_103 rfl rfl rfl (by decide) rfl ?_
            refine g_goto (t := 47) dX2_putNode_106 (by decide) ?_
            refine g_ls [0, 1, 2, 3, 4, 5, 6] rfl ?_
            exact ih _ _ _ _ _ hf
set_option maxRecDepth 20000 in
set_option maxHeartbeats 4000000 in
theorem ev_X2_putNode {l : Launch} {E : tEn} {cr : Value} {tl : tHp} : ∀ (D : Nat) {x_hs : Int32} {s_n : Int32} {s_sp : Int64} {s_sb : Int64} {s_sc : Int32} {s_f : List Int64} {s_st : List Int32} {v_n : Int32} {v_sp : Int64} {v_sb : Int64} {v_sc : Int32} {v_f : List Int64} {v_st : List Int32} {h_k : Int32} {h_s : List Int32} {h_c : List Int64} {g_k : Int32} {g_v : Int32} {g_p : List Int32} {g_a : List Int32} {g_t : List Int32} {c_k : Int32} {c_t : List Int32} {c_p : List Int32} {i_l : Int32} {i_n : Int32} {i_f : Int64} {i_p : Int32} {i_o : Int32} {i_b : List Int32} {w_l : Int32} {w_s : List Int32} {x_e : List Int32} {x_l : List Int32} {a0 : Int32} {a1 : Int32} {res : Int32 × List Int32}, f_X2_putNode D a0 a1 c_k c_t c_p w_l w_s = some res → tEv l E yX2_putNode cX2_putNode 7 none (2 * D + 3) 0 0 [.ref 19, .ref 14, .int a0, .int a1] (encX x_hs s_n s_sp s_sb s_sc s_f s_st v_n v_sp v_sb v_sc v_f v_st h_k h_s h_c g_k g_v g_p g_a g_t c_k c_t c_p i_l i_n i_f i_p i_o i_b w_l w_s x_e x_l cr tl) (fun r h' => r = none ∧ h' = encX x_hs s_n s_sp s_sb s_sc s_f s_st v_n v_sp v_sb v_sc v_f v_st h_k h_s h_c g_k g_v g_p g_a g_t c_k c_t c_p i_l i_n i_f i_p i_o i_b (res.1) (res.2) x_e x_l cr tl) := by
  intro D
  induction D with
  | zero => intro x_hs s_n s_sp s_sb s_sc s_f s_st v_n v_sp v_sb v_sc v_f v_st h_k h_s h_c g_k g_v g_p g_a g_t c_k c_t c_p i_l i_n i_f i_p i_o i_b w_l w_s x_e x_l a0 a1 res hf; exact nomatch (show none = some res from hf)
  | succ D ih =>
    intro x_hs s_n s_sp s_sb s_sc s_f s_st v_n v_sp v_sb v_sc v_f v_st h_k h_s h_c g_k g_v g_p g_a g_t c_k c_t c_p i_l i_n i_f i_p i_o i_b w_l w_s x_e x_l a0 a1 res hf
    have hrc := @ih
    have hdd : 3 ≤ 2 * D + 3 := by omega
    have hdq : 2 * D + 3 + 2 ≤ 2 * (D + 1) + 3 := by omega
    refine tEv.of (own := RX2) (ini := false) (L := [(0, .ref 19), (1, .ref 14), (2, .int a0), (3, .int a1)]) (by decide +kernel) rfl (fun h9 => nomatch h9) rfl (Nat.le_of_ble_eq_true rfl) ?_
    rw [f_X2_putNode] at hf
    dsimp only at hf
    refine g_iload_n 3 (q := 1) dX2_putNode_0 rfl rfl ?_
    refine g_iconst (q := 2) (v := 5) dX2_putNode_1 rfl rfl ?_
    refine g_icmp_gt (t := 13) (q := 5) dX2_putNode_2 (by decide) rfl (fun c1 => ?_) (fun c1 => ?_)
    · rw [if_pos c1] at hf
      have hf := Option.some.inj hf
      subst hf
      exact g_return dX2_putNode_13 rfl ⟨rfl, rfl⟩
    · rw [if_neg c1] at hf
      refine g_aload_n 1 (q := 6) dX2_putNode_5 rfl rfl ?_
      refine g_iload_n 2 (q := 7) dX2_putNode_6 rfl rfl ?_
      refine g_callV (a := 14) (k2 := 0) (n2 := 0) (q := 10) (as := [.int a0]) (st := []) (st1 := [.int (f_X1_has a0 c_k)]) tm_X1_has ml_X2_23 ti_X1_has rfl rfl dX2_putNode_7 rfl ev_X1_has rfl rfl (Nat.le_of_ble_eq_true rfl) (by omega) rfl rfl (Or.inl rfl) rfl ?_
      refine g_if_ne (t := 14) (q := 13) dX2_putNode_10 (by decide) rfl (fun c2 => ?_) (fun c2 => ?_)
      · rw [if_neg c2] at hf
        refine g_aload_n 1 (q := 15) dX2_putNode_14 rfl rfl ?_
        refine g_get (q := 18) fl_X2_29 dX2_putNode_15 rfl rfl rfl ?_
        refine g_iload_n 2 (q := 19) dX2_putNode_18 rfl rfl ?_
        obtain ⟨r3, e4, hf⟩ := Option.bind_eq_some_iff.mp hf
        refine g_iaload (q := 20) dX2_putNode_19 rfl rfl e4 ?_
        refine g_istore (q := 22) (L' := [(0, .ref 19), (1, .ref 14), (2, .int a0), (3, .int a1), (4, .int r3)]) dX2_putNode_20 rfl (by decide) rfl ?_
        refine g_iload 4 (q := 24) dX2_putNode_22 rfl rfl ?_
        refine g_bipush (q := 26) (v := 10) dX2_putNode_24 rfl rfl ?_
        refine g_icmp_ge (t := 39) (q := 29) dX2_putNode_26 (by decide) rfl (fun c5 => ?_) (fun c5 => ?_)
        · rw [if_pos c5] at hf
          refine g_iconst (q := 40) (v := 1) dX2_putNode_39 rfl rfl ?_
          refine g_istore (q := 42) (L' := [(0, .ref 19), (1, .ref 14), (2, .int a0), (3, .int a1), (4, .int r3), (5, .int 1)]) dX2_putNode_40 rfl (by decide) rfl ?_
          refine g_iload_n 2 (q := 43) dX2_putNode_42 rfl rfl ?_
          refine g_iconst (q := 44) (v := 1) dX2_putNode_43 rfl rfl ?_
          refine g_iadd (q := 45) dX2_putNode_44 rfl ?_
          refine g_istore (q := 47) (L' := [(0, .ref 19), (1, .ref 14), (2, .int a0), (3, .int a1), (4, .int r3), (5, .int 1), (6, .int (a0 + 1))]) dX2_putNode_45 rfl (by decide) rfl ?_
          refine g_ls [0, 1, 2, 3, 4, 5, 6] rfl ?_
          refine ev_X2_putNode_L47 hdd hdq hrc (fun k22 k23 res hf => ?_) tFU _ _ _ _ res hf
          have hf := Option.some.inj hf
          subst hf
          exact g_return dX2_putNode_109 rfl ⟨rfl, rfl⟩
        · rw [if_neg c5] at hf
          refine g_aload_n 0 (q := 30) dX2_putNode_29 rfl rfl ?_
          refine g_bipush (q := 32) (v := 97) dX2_putNode_30 rfl rfl ?_
          refine g_iload 4 (q := 34) dX2_putNode_32 rfl rfl ?_
          refine g_iadd (q := 35) dX2_putNode_34 rfl ?_
          obtain ⟨r24, e25, hf⟩ := Option.bind_eq_some_iff.mp hf
          refine g_callV (a := 19) (k2 := 0) (n2 := 0) (q := 38) (as := [.int (97 + r3)]) (st := []) (st1 := []) tm_X2_put ml_X2_32 ti_X2_put rfl rfl dX2_putNode_35 rfl (ev_X2_put e25) rfl rfl (Nat.le_of_ble_eq_true rfl) (by omega) rfl rfl (Or.inl (encX_len.trans encX_len.symm)) rfl ?_
          have hf := Option.some.inj hf
          subst hf
          exact g_return dX2_putNode_38 rfl ⟨rfl, rfl⟩
      · rw [if_pos c2] at hf
        have hf := Option.some.inj hf
        subst hf
        exact g_return dX2_putNode_13 rfl ⟨rfl, rfl⟩
def f_X2_putTree  (c_k : Int32) (c_t : List Int32) (c_p : List Int32) (w_l : Int32) (w_s : List Int32) : Option (Int32 × List Int32) := (f_X2_putNode tDP 0 1 c_k c_t c_p w_l w_s).bind fun r1 => some (r1.1, r1.2)
set_option maxRecDepth 20000 in
set_option maxHeartbeats 4000000 in
theorem ev_X2_putTree {l : Launch} {E : tEn} {cr : Value} {tl : tHp} {x_hs : Int32} {s_n : Int32} {s_sp : Int64} {s_sb : Int64} {s_sc : Int32} {s_f : List Int64} {s_st : List Int32} {v_n : Int32} {v_sp : Int64} {v_sb : Int64} {v_sc : Int32} {v_f : List Int64} {v_st : List Int32} {h_k : Int32} {h_s : List Int32} {h_c : List Int64} {g_k : Int32} {g_v : Int32} {g_p : List Int32} {g_a : List Int32} {g_t : List Int32} {c_k : Int32} {c_t : List Int32} {c_p : List Int32} {i_l : Int32} {i_n : Int32} {i_f : Int64} {i_p : Int32} {i_o : Int32} {i_b : List Int32} {w_l : Int32} {w_s : List Int32} {x_e : List Int32} {x_l : List Int32}  {res : Int32 × List Int32} (hf : f_X2_putTree c_k c_t c_p w_l w_s = some res) : tEv l E yX2_putTree cX2_putTree 2 none 24 0 0 [.ref 19, .ref 14] (encX x_hs s_n s_sp s_sb s_sc s_f s_st v_n v_sp v_sb v_sc v_f v_st h_k h_s h_c g_k g_v g_p g_a g_t c_k c_t c_p i_l i_n i_f i_p i_o i_b w_l w_s x_e x_l cr tl) (fun r h' => r = none ∧ h' = encX x_hs s_n s_sp s_sb s_sc s_f s_st v_n v_sp v_sb v_sc v_f v_st h_k h_s h_c g_k g_v g_p g_a g_t c_k c_t c_p i_l i_n i_f i_p i_o i_b (res.1) (res.2) x_e x_l cr tl) := by
  refine tEv.of (own := RX2) (ini := false) (L := [(0, .ref 19), (1, .ref 14)]) (by decide +kernel) rfl (fun h9 => nomatch h9) rfl (Nat.le_of_ble_eq_true rfl) ?_
  rw [f_X2_putTree] at hf
  refine g_aload_n 0 (q := 1) dX2_putTree_0 rfl rfl ?_
  refine g_aload_n 1 (q := 2) dX2_putTree_1 rfl rfl ?_
  refine g_iconst (q := 3) (v := 0) dX2_putTree_2 rfl rfl ?_
  refine g_iconst (q := 4) (v := 1) dX2_putTree_3 rfl rfl ?_
  obtain ⟨r1, e2, hf⟩ := Option.bind_eq_some_iff.mp hf
  refine g_callV (a := 19) (k2 := 0) (n2 := 0) (q := 7) (as := [.ref 14, .int 0, .int 1]) (st := []) (st1 := []) tm_X2_putNode ml_X2_19 ti_X2_putNode rfl rfl dX2_putTree_4 rfl (ev_X2_putNode tDP e2) rfl rfl (Nat.le_of_ble_eq_true rfl) (by decide) rfl rfl (Or.inl (encX_len.trans encX_len.symm)) rfl ?_
  have hf := Option.some.inj hf
  subst hf
  exact g_return dX2_putTree_7 rfl ⟨rfl, rfl⟩
def f_X7_writeFormula (a0 : Int32) (s_n : Int32) (s_f : List Int64) (g_k : Int32) (g_v : Int32) (g_p : List Int32) (g_a : List Int32) (g_t : List Int32) (c_k : Int32) (c_t : List Int32) (c_p : List Int32) (w_l : Int32) (w_s : List Int32) : Option (Int32 × Int32 × Int32 × List Int32 × List Int32 × List Int32 × Int32 × List Int32 × List Int32 × Int32 × List Int32) := (f_X7_growCotree a0 s_n s_f g_k g_v g_p g_a g_t c_k c_t c_p).bind fun r1 => (if r1.1 = 0 then (if (r1.2.2.2.2.2.2.1) = 0 then (tld s_f a0).bind fun r7 => (if (lg_cmp r7 0) = 0 then (f_X2_put 48 0 w_s).bind fun r12 => some ((r12.1), r1.2.1, r1.2.2.1, r1.2.2.2.1, r1.2.2.2.2.1, r1.2.2.2.2.2.1, r1.2.2.2.2.2.2.1, r1.2.2.2.2.2.2.2.1, r1.2.2.2.2.2.2.2.2, r12.1, r12.2) else (f_X2_put 49 0 w_s).bind fun r10 => some ((r10.1), r1.2.1, r1.2.2.1, r1.2.2.2.1, r1.2.2.2.2.1, r1.2.2.2.2.2.1, r1.2.2.2.2.2.2.1, r1.2.2.2.2.2.2.2.1, r1.2.2.2.2.2.2.2.2, r10.1, r10.2)) else (f_X2_putTree (r1.2.2.2.2.2.2.1) (r1.2.2.2.2.2.2.2.1) (r1.2.2.2.2.2.2.2.2) 0 w_s).bind fun r5 => some ((r5.1), r1.2.1, r1.2.2.1, r1.2.2.2.1, r1.2.2.2.2.1, r1.2.2.2.2.2.1, r1.2.2.2.2.2.2.1, r1.2.2.2.2.2.2.2.1, r1.2.2.2.2.2.2.2.2, r5.1, r5.2)) else some (r1.1, r1.2.1, r1.2.2.1, r1.2.2.2.1, r1.2.2.2.2.1, r1.2.2.2.2.2.1, r1.2.2.2.2.2.2.1, r1.2.2.2.2.2.2.2.1, r1.2.2.2.2.2.2.2.2, w_l, w_s))
set_option maxRecDepth 20000 in
set_option maxHeartbeats 4000000 in
theorem ev_X7_writeFormula {l : Launch} {E : tEn} {cr : Value} {tl : tHp} {x_hs : Int32} {s_n : Int32} {s_sp : Int64} {s_sb : Int64} {s_sc : Int32} {s_f : List Int64} {s_st : List Int32} {v_n : Int32} {v_sp : Int64} {v_sb : Int64} {v_sc : Int32} {v_f : List Int64} {v_st : List Int32} {h_k : Int32} {h_s : List Int32} {h_c : List Int64} {g_k : Int32} {g_v : Int32} {g_p : List Int32} {g_a : List Int32} {g_t : List Int32} {c_k : Int32} {c_t : List Int32} {c_p : List Int32} {i_l : Int32} {i_n : Int32} {i_f : Int64} {i_p : Int32} {i_o : Int32} {i_b : List Int32} {w_l : Int32} {w_s : List Int32} {x_e : List Int32} {x_l : List Int32} {a0 : Int32} {res : Int32 × Int32 × Int32 × List Int32 × List Int32 × List Int32 × Int32 × List Int32 × List Int32 × Int32 × List Int32} (hf : f_X7_writeFormula a0 s_n s_f g_k g_v g_p g_a g_t c_k c_t c_p w_l w_s = some res) : tEv l E yX7_writeFormula cX7_writeFormula 3 (some .int) 26 0 0 [.ref 0, .int a0] (encX x_hs s_n s_sp s_sb s_sc s_f s_st v_n v_sp v_sb v_sc v_f v_st h_k h_s h_c g_k g_v g_p g_a g_t c_k c_t c_p i_l i_n i_f i_p i_o i_b w_l w_s x_e x_l cr tl) (fun r h' => r = some (.int res.1) ∧ h' = encX x_hs s_n s_sp s_sb s_sc s_f s_st v_n v_sp v_sb v_sc v_f v_st h_k h_s h_c (res.2.1) (res.2.2.1) (res.2.2.2.1) (res.2.2.2.2.1) (res.2.2.2.2.2.1) (res.2.2.2.2.2.2.1) (res.2.2.2.2.2.2.2.1) (res.2.2.2.2.2.2.2.2.1) i_l i_n i_f i_p i_o i_b (res.2.2.2.2.2.2.2.2.2.1) (res.2.2.2.2.2.2.2.2.2.2) x_e x_l cr tl) := by
  refine tEv.of (own := RX7) (ini := false) (L := [(0, .ref 0), (1, .int a0)]) (by decide +kernel) rfl (fun h9 => nomatch h9) rfl (Nat.le_of_ble_eq_true rfl) ?_
  rw [f_X7_writeFormula] at hf
  refine g_aload_n 0 (q := 1) dX7_writeFormula_0 rfl rfl ?_
  refine g_iload_n 1 (q := 2) dX7_writeFormula_1 rfl rfl ?_
  obtain ⟨r1, e2, hf⟩ := Option.bind_eq_some_iff.mp hf
  refine g_callV (a := 0) (k2 := 0) (n2 := 0) (q := 5) (as := [.int a0]) (st := []) (st1 := [.int r1.1]) tm_X7_growCotree ml_X7_158 ti_X7_growCotree rfl rfl dX7_writeFormula_2 rfl (ev_X7_growCotree e2) rfl rfl (Nat.le_of_ble_eq_true rfl) (by decide) rfl rfl (Or.inl (encX_len.trans encX_len.symm)) rfl ?_
  refine g_istore_n (q := 6) (L' := [(0, .ref 0), (1, .int a0), (2, .int r1.1)]) dX7_writeFormula_5 rfl (by decide) rfl ?_
  refine g_iload_n 2 (q := 7) dX7_writeFormula_6 rfl rfl ?_
  refine g_if_eq (t := 12) (q := 10) dX7_writeFormula_7 (by decide) rfl (fun c3 => ?_) (fun c3 => ?_)
  · rw [if_pos c3] at hf
    refine g_aload_n 0 (q := 13) dX7_writeFormula_12 rfl rfl ?_
    refine g_get (q := 16) fl_X7_54 dX7_writeFormula_13 rfl rfl rfl ?_
    refine g_iconst (q := 17) (v := 0) dX7_writeFormula_16 rfl rfl ?_
    refine g_put (q := 20) (h' := encX x_hs s_n s_sp s_sb s_sc s_f s_st v_n v_sp v_sb v_sc v_f v_st h_k h_s h_c (r1.2.1) (r1.2.2.1) (r1.2.2.2.1) (r1.2.2.2.2.1) (r1.2.2.2.2.2.1) (r1.2.2.2.2.2.2.1) (r1.2.2.2.2.2.2.2.1) (r1.2.2.2.2.2.2.2.2) i_l i_n i_f i_p i_o i_b 0 w_s x_e x_l cr tl) fp_X7_176 dX7_writeFormula_17 rfl rfl (Nat.le_of_ble_eq_true rfl) (fun _ => ⟨rfl, rfl⟩) rfl ?_
    refine g_aload_n 0 (q := 21) dX7_writeFormula_20 rfl rfl ?_
    refine g_get (q := 24) fl_X7_40 dX7_writeFormula_21 rfl rfl rfl ?_
    refine g_get (q := 27) fl_X7_161 dX7_writeFormula_24 rfl rfl rfl ?_
    refine g_if_ne (t := 61) (q := 30) dX7_writeFormula_27 (by decide) rfl (fun c4 => ?_) (fun c4 => ?_)
    · rw [if_neg c4] at hf
      refine g_aload_n 0 (q := 62) dX7_writeFormula_61 rfl rfl ?_
      refine g_get (q := 65) fl_X7_54 dX7_writeFormula_62 rfl rfl rfl ?_
      refine g_aload_n 0 (q := 66) dX7_writeFormula_65 rfl rfl ?_
      refine g_get (q := 69) fl_X7_40 dX7_writeFormula_66 rfl rfl rfl ?_
      obtain ⟨r5, e6, hf⟩ := Option.bind_eq_some_iff.mp hf
      refine g_callV (a := 19) (k2 := 0) (n2 := 0) (q := 72) (as := [.ref 14]) (st := []) (st1 := []) tm_X2_putTree ml_X7_182 ti_X2_putTree rfl rfl dX7_writeFormula_69 rfl (ev_X2_putTree e6) rfl rfl (Nat.le_of_ble_eq_true rfl) (by decide) rfl rfl (Or.inl (encX_len.trans encX_len.symm)) rfl ?_
      refine g_aload_n 0 (q := 73) dX7_writeFormula_72 rfl rfl ?_
      refine g_get (q := 76) fl_X7_54 dX7_writeFormula_73 rfl rfl rfl ?_
      refine g_get (q := 79) fl_X7_176 dX7_writeFormula_76 rfl rfl rfl ?_
      have hf := Option.some.inj hf
      subst hf
      exact g_ireturn dX7_writeFormula_79 rfl ⟨rfl, rfl⟩
    · rw [if_pos c4] at hf
      refine g_aload_n 0 (q := 31) dX7_writeFormula_30 rfl rfl ?_
      refine g_get (q := 34) fl_X7_54 dX7_writeFormula_31 rfl rfl rfl ?_
      refine g_aload_n 0 (q := 35) dX7_writeFormula_34 rfl rfl ?_
      refine g_get (q := 38) fl_X7_10 dX7_writeFormula_35 rfl rfl rfl ?_
      refine g_get (q := 41) fl_X7_102 dX7_writeFormula_38 rfl rfl rfl ?_
      refine g_iload_n 1 (q := 42) dX7_writeFormula_41 rfl rfl ?_
      obtain ⟨r7, e8, hf⟩ := Option.bind_eq_some_iff.mp hf
      refine g_laload (q := 43) dX7_writeFormula_42 rfl rfl e8 ?_
      refine g_lconst (q := 44) (v := 0) dX7_writeFormula_43 rfl rfl ?_
      refine g_lcmp (q := 45) dX7_writeFormula_44 rfl ?_
      refine g_if_ne (t := 53) (q := 48) dX7_writeFormula_45 (by decide) rfl (fun c9 => ?_) (fun c9 => ?_)
      · rw [if_neg c9] at hf
        refine g_bipush (q := 55) (v := 49) dX7_writeFormula_53 rfl rfl ?_
        obtain ⟨r10, e11, hf⟩ := Option.bind_eq_some_iff.mp hf
        refine g_callV (a := 19) (k2 := 0) (n2 := 0) (q := 58) (as := [.int 49]) (st := []) (st1 := []) tm_X2_put ml_X7_179 ti_X2_put rfl rfl dX7_writeFormula_55 rfl (ev_X2_put e11) rfl rfl (Nat.le_of_ble_eq_true rfl) (by decide) rfl rfl (Or.inl (encX_len.trans encX_len.symm)) rfl ?_
        refine g_goto (t := 72) dX7_writeFormula_58 (by decide) ?_
        refine g_aload_n 0 (q := 73) dX7_writeFormula_72 rfl rfl ?_
        refine g_get (q := 76) fl_X7_54 dX7_writeFormula_73 rfl rfl rfl ?_
        refine g_get (q := 79) fl_X7_176 dX7_writeFormula_76 rfl rfl rfl ?_
        have hf := Option.some.inj hf
        subst hf
        exact g_ireturn dX7_writeFormula_79 rfl ⟨rfl, rfl⟩
      · rw [if_pos c9] at hf
        refine g_bipush (q := 50) (v := 48) dX7_writeFormula_48 rfl rfl ?_
        refine g_goto (t := 55) dX7_writeFormula_50 (by decide) ?_
        obtain ⟨r12, e13, hf⟩ := Option.bind_eq_some_iff.mp hf
        refine g_callV (a := 19) (k2 := 0) (n2 := 0) (q := 58) (as := [.int 48]) (st := []) (st1 := []) tm_X2_put ml_X7_179 ti_X2_put rfl rfl dX7_writeFormula_55 rfl (ev_X2_put e13) rfl rfl (Nat.le_of_ble_eq_true rfl) (by decide) rfl rfl (Or.inl (encX_len.trans encX_len.symm)) rfl ?_
        refine g_goto (t := 72) dX7_writeFormula_58 (by decide) ?_
        refine g_aload_n 0 (q := 73) dX7_writeFormula_72 rfl rfl ?_
        refine g_get (q := 76) fl_X7_54 dX7_writeFormula_73 rfl rfl rfl ?_
        refine g_get (q := 79) fl_X7_176 dX7_writeFormula_76 rfl rfl rfl ?_
        have hf := Option.some.inj hf
        subst hf
        exact g_ireturn dX7_writeFormula_79 rfl ⟨rfl, rfl⟩
  · rw [if_neg c3] at hf
    refine g_iload_n 2 (q := 11) dX7_writeFormula_10 rfl rfl ?_
    have hf := Option.some.inj hf
    subst hf
    exact g_ireturn dX7_writeFormula_11 rfl ⟨rfl, rfl⟩
def f_X7_output (a0 : Int32) (w_l : Int32) (w_s : List Int32) : Option (Int32) := (if (f_X7_isIndex a0 w_l) = 0 then some (-1) else (tld w_s a0).bind fun r2 => some r2)
set_option maxRecDepth 20000 in
set_option maxHeartbeats 4000000 in
theorem ev_X7_output {l : Launch} {E : tEn} {cr : Value} {tl : tHp} {x_hs : Int32} {s_n : Int32} {s_sp : Int64} {s_sb : Int64} {s_sc : Int32} {s_f : List Int64} {s_st : List Int32} {v_n : Int32} {v_sp : Int64} {v_sb : Int64} {v_sc : Int32} {v_f : List Int64} {v_st : List Int32} {h_k : Int32} {h_s : List Int32} {h_c : List Int64} {g_k : Int32} {g_v : Int32} {g_p : List Int32} {g_a : List Int32} {g_t : List Int32} {c_k : Int32} {c_t : List Int32} {c_p : List Int32} {i_l : Int32} {i_n : Int32} {i_f : Int64} {i_p : Int32} {i_o : Int32} {i_b : List Int32} {w_l : Int32} {w_s : List Int32} {x_e : List Int32} {x_l : List Int32} {a0 : Int32} {res : Int32} (hf : f_X7_output a0 w_l w_s = some res) : tEv l E yX7_output cX7_output 2 (some .int) 2 0 0 [.ref 0, .int a0] (encX x_hs s_n s_sp s_sb s_sc s_f s_st v_n v_sp v_sb v_sc v_f v_st h_k h_s h_c g_k g_v g_p g_a g_t c_k c_t c_p i_l i_n i_f i_p i_o i_b w_l w_s x_e x_l cr tl) (fun r h' => r = some (.int res) ∧ h' = encX x_hs s_n s_sp s_sb s_sc s_f s_st v_n v_sp v_sb v_sc v_f v_st h_k h_s h_c g_k g_v g_p g_a g_t c_k c_t c_p i_l i_n i_f i_p i_o i_b w_l w_s x_e x_l cr tl) := by
  refine tEv.of (own := RX7) (ini := false) (L := [(0, .ref 0), (1, .int a0)]) (by decide +kernel) rfl (fun h9 => nomatch h9) rfl (Nat.le_of_ble_eq_true rfl) ?_
  rw [f_X7_output] at hf
  refine g_iload_n 1 (q := 1) dX7_output_0 rfl rfl ?_
  refine g_aload_n 0 (q := 2) dX7_output_1 rfl rfl ?_
  refine g_get (q := 5) fl_X7_54 dX7_output_2 rfl rfl rfl ?_
  refine g_get (q := 8) fl_X7_176 dX7_output_5 rfl rfl rfl ?_
  refine g_callS (k2 := 0) (n2 := 0) (q := 11) (as := [.int a0, .int w_l]) (st := []) (st1 := [.int (f_X7_isIndex a0 w_l)]) tm_X7_isIndex ml_X7_140 ts_X7_isIndex dX7_output_8 rfl ev_X7_isIndex rfl rfl (Nat.le_of_ble_eq_true rfl) (by decide) rfl rfl (Or.inl rfl) rfl ?_
  refine g_if_eq (t := 26) (q := 14) dX7_output_11 (by decide) rfl (fun c1 => ?_) (fun c1 => ?_)
  · rw [if_pos c1] at hf
    refine g_iconst (q := 27) (v := (-1)) dX7_output_26 rfl rfl ?_
    have hf := Option.some.inj hf
    subst hf
    exact g_ireturn dX7_output_27 rfl ⟨rfl, rfl⟩
  · rw [if_neg c1] at hf
    refine g_aload_n 0 (q := 15) dX7_output_14 rfl rfl ?_
    refine g_get (q := 18) fl_X7_54 dX7_output_15 rfl rfl rfl ?_
    refine g_get (q := 21) fl_X7_186 dX7_output_18 rfl rfl rfl ?_
    refine g_iload_n 1 (q := 22) dX7_output_21 rfl rfl ?_
    obtain ⟨r2, e3, hf⟩ := Option.bind_eq_some_iff.mp hf
    refine g_iaload (q := 23) dX7_output_22 rfl rfl e3 ?_
    refine g_goto (t := 27) dX7_output_23 (by decide) ?_
    have hf := Option.some.inj hf
    subst hf
    exact g_ireturn dX7_output_27 rfl ⟨rfl, rfl⟩
def f_X5_append (a0 : Int32) (i_l : Int32) (i_b : List Int32) : Option (Int32 × Int32 × List Int32) := (if i_l < 80 then (tst i_b i_l a0).bind fun z2 => some (1, (i_l + 1), z2) else some (0, i_l, i_b))
set_option maxRecDepth 20000 in
set_option maxHeartbeats 4000000 in
theorem ev_X5_append {l : Launch} {E : tEn} {cr : Value} {tl : tHp} {x_hs : Int32} {s_n : Int32} {s_sp : Int64} {s_sb : Int64} {s_sc : Int32} {s_f : List Int64} {s_st : List Int32} {v_n : Int32} {v_sp : Int64} {v_sb : Int64} {v_sc : Int32} {v_f : List Int64} {v_st : List Int32} {h_k : Int32} {h_s : List Int32} {h_c : List Int64} {g_k : Int32} {g_v : Int32} {g_p : List Int32} {g_a : List Int32} {g_t : List Int32} {c_k : Int32} {c_t : List Int32} {c_p : List Int32} {i_l : Int32} {i_n : Int32} {i_f : Int64} {i_p : Int32} {i_o : Int32} {i_b : List Int32} {w_l : Int32} {w_s : List Int32} {x_e : List Int32} {x_l : List Int32} {a0 : Int32} {res : Int32 × Int32 × List Int32} (hf : f_X5_append a0 i_l i_b = some res) : tEv l E yX5_append cX5_append 2 (some .boolean) 1 0 0 [.ref 17, .int a0] (encX x_hs s_n s_sp s_sb s_sc s_f s_st v_n v_sp v_sb v_sc v_f v_st h_k h_s h_c g_k g_v g_p g_a g_t c_k c_t c_p i_l i_n i_f i_p i_o i_b w_l w_s x_e x_l cr tl) (fun r h' => r = some (.int res.1) ∧ h' = encX x_hs s_n s_sp s_sb s_sc s_f s_st v_n v_sp v_sb v_sc v_f v_st h_k h_s h_c g_k g_v g_p g_a g_t c_k c_t c_p (res.2.1) i_n i_f i_p i_o (res.2.2) w_l w_s x_e x_l cr tl) := by
  refine tEv.of (own := RX5) (ini := false) (L := [(0, .ref 17), (1, .int a0)]) (by decide +kernel) rfl (fun h9 => nomatch h9) rfl (Nat.le_of_ble_eq_true rfl) ?_
  rw [f_X5_append] at hf
  refine g_aload_n 0 (q := 1) dX5_append_0 rfl rfl ?_
  refine g_get (q := 4) fl_X5_15 dX5_append_1 rfl rfl rfl ?_
  refine g_bipush (q := 6) (v := 80) dX5_append_4 rfl rfl ?_
  refine g_icmp_lt (t := 11) (q := 9) dX5_append_6 (by decide) rfl (fun c1 => ?_) (fun c1 => ?_)
  · rw [if_pos c1] at hf
    refine g_aload_n 0 (q := 12) dX5_append_11 rfl rfl ?_
    refine g_get (q := 15) fl_X5_11 dX5_append_12 rfl rfl rfl ?_
    refine g_aload_n 0 (q := 16) dX5_append_15 rfl rfl ?_
    refine g_get (q := 19) fl_X5_15 dX5_append_16 rfl rfl rfl ?_
    refine g_iload_n 1 (q := 20) dX5_append_19 rfl rfl ?_
    obtain ⟨z2, e3, hf⟩ := Option.bind_eq_some_iff.mp hf
    refine g_iastore (q := 21) (h' := encX x_hs s_n s_sp s_sb s_sc s_f s_st v_n v_sp v_sb v_sc v_f v_st h_k h_s h_c g_k g_v g_p g_a g_t c_k c_t c_p i_l i_n i_f i_p i_o z2 w_l w_s x_e x_l cr tl) dX5_append_20 rfl rfl e3 rfl ?_
    refine g_aload_n 0 (q := 22) dX5_append_21 rfl rfl ?_
    refine g_dup (q := 23) dX5_append_22 rfl rfl ?_
    refine g_get (q := 26) fl_X5_15 dX5_append_23 rfl rfl rfl ?_
    refine g_iconst (q := 27) (v := 1) dX5_append_26 rfl rfl ?_
    refine g_iadd (q := 28) dX5_append_27 rfl ?_
    refine g_put (q := 31) (h' := encX x_hs s_n s_sp s_sb s_sc s_f s_st v_n v_sp v_sb v_sc v_f v_st h_k h_s h_c g_k g_v g_p g_a g_t c_k c_t c_p (i_l + 1) i_n i_f i_p i_o z2 w_l w_s x_e x_l cr tl) fp_X5_15 dX5_append_28 rfl rfl (Nat.le_of_ble_eq_true rfl) (fun _ => ⟨rfl, rfl⟩) rfl ?_
    refine g_iconst (q := 32) (v := 1) dX5_append_31 rfl rfl ?_
    have hf := Option.some.inj hf
    subst hf
    exact g_zreturn (Or.inr rfl) dX5_append_32 rfl ⟨rfl, rfl⟩
  · rw [if_neg c1] at hf
    refine g_iconst (q := 10) (v := 0) dX5_append_9 rfl rfl ?_
    have hf := Option.some.inj hf
    subst hf
    exact g_zreturn (Or.inl rfl) dX5_append_10 rfl ⟨rfl, rfl⟩
def f_X7_feed (a0 : Int32) (i_l : Int32) (i_b : List Int32) : Option (Int32 × Int32 × List Int32) := (if a0 < 1 then some ((-2), i_l, i_b) else (if a0 ≤ 127 then (f_X5_append a0 i_l i_b).bind fun r3 => (if r3.1 = 0 then some ((-6), r3.2.1, r3.2.2) else some ((r3.2.1), r3.2.1, r3.2.2)) else some ((-2), i_l, i_b)))
set_option maxRecDepth 20000 in
set_option maxHeartbeats 4000000 in
theorem ev_X7_feed {l : Launch} {E : tEn} {cr : Value} {tl : tHp} {x_hs : Int32} {s_n : Int32} {s_sp : Int64} {s_sb : Int64} {s_sc : Int32} {s_f : List Int64} {s_st : List Int32} {v_n : Int32} {v_sp : Int64} {v_sb : Int64} {v_sc : Int32} {v_f : List Int64} {v_st : List Int32} {h_k : Int32} {h_s : List Int32} {h_c : List Int64} {g_k : Int32} {g_v : Int32} {g_p : List Int32} {g_a : List Int32} {g_t : List Int32} {c_k : Int32} {c_t : List Int32} {c_p : List Int32} {i_l : Int32} {i_n : Int32} {i_f : Int64} {i_p : Int32} {i_o : Int32} {i_b : List Int32} {w_l : Int32} {w_s : List Int32} {x_e : List Int32} {x_l : List Int32} {a0 : Int32} {res : Int32 × Int32 × List Int32} (hf : f_X7_feed a0 i_l i_b = some res) : tEv l E yX7_feed cX7_feed 2 (some .int) 2 0 0 [.ref 0, .int a0] (encX x_hs s_n s_sp s_sb s_sc s_f s_st v_n v_sp v_sb v_sc v_f v_st h_k h_s h_c g_k g_v g_p g_a g_t c_k c_t c_p i_l i_n i_f i_p i_o i_b w_l w_s x_e x_l cr tl) (fun r h' => r = some (.int res.1) ∧ h' = encX x_hs s_n s_sp s_sb s_sc s_f s_st v_n v_sp v_sb v_sc v_f v_st h_k h_s h_c g_k g_v g_p g_a g_t c_k c_t c_p (res.2.1) i_n i_f i_p i_o (res.2.2) w_l w_s x_e x_l cr tl) := by
  refine tEv.of (own := RX7) (ini := false) (L := [(0, .ref 0), (1, .int a0)]) (by decide +kernel) rfl (fun h9 => nomatch h9) rfl (Nat.le_of_ble_eq_true rfl) ?_
  rw [f_X7_feed] at hf
  refine g_iload_n 1 (q := 1) dX7_feed_0 rfl rfl ?_
  refine g_iconst (q := 2) (v := 1) dX7_feed_1 rfl rfl ?_
  refine g_icmp_lt (t := 11) (q := 5) dX7_feed_2 (by decide) rfl (fun c1 => ?_) (fun c1 => ?_)
  · rw [if_pos c1] at hf
    refine g_bipush (q := 13) (v := (-2)) dX7_feed_11 rfl rfl ?_
    have hf := Option.some.inj hf
    subst hf
    exact g_ireturn dX7_feed_13 rfl ⟨rfl, rfl⟩
  · rw [if_neg c1] at hf
    refine g_iload_n 1 (q := 6) dX7_feed_5 rfl rfl ?_
    refine g_bipush (q := 8) (v := 127) dX7_feed_6 rfl rfl ?_
    refine g_icmp_le (t := 14) (q := 11) dX7_feed_8 (by decide) rfl (fun c2 => ?_) (fun c2 => ?_)
    · rw [if_pos c2] at hf
      refine g_aload_n 0 (q := 15) dX7_feed_14 rfl rfl ?_
      refine g_get (q := 18) fl_X7_47 dX7_feed_15 rfl rfl rfl ?_
      refine g_iload_n 1 (q := 19) dX7_feed_18 rfl rfl ?_
      obtain ⟨r3, e4, hf⟩ := Option.bind_eq_some_iff.mp hf
      refine g_callV (a := 17) (k2 := 0) (n2 := 0) (q := 22) (as := [.int a0]) (st := []) (st1 := [.int r3.1]) tm_X5_append ml_X7_189 ti_X5_append rfl rfl dX7_feed_19 rfl (ev_X5_append e4) rfl rfl (Nat.le_of_ble_eq_true rfl) (by decide) rfl rfl (Or.inl (encX_len.trans encX_len.symm)) rfl ?_
      refine g_if_eq (t := 35) (q := 25) dX7_feed_22 (by decide) rfl (fun c5 => ?_) (fun c5 => ?_)
      · rw [if_pos c5] at hf
        refine g_bipush (q := 37) (v := (-6)) dX7_feed_35 rfl rfl ?_
        have hf := Option.some.inj hf
        subst hf
        exact g_ireturn dX7_feed_37 rfl ⟨rfl, rfl⟩
      · rw [if_neg c5] at hf
        refine g_aload_n 0 (q := 26) dX7_feed_25 rfl rfl ?_
        refine g_get (q := 29) fl_X7_47 dX7_feed_26 rfl rfl rfl ?_
        refine g_get (q := 32) fl_X7_192 dX7_feed_29 rfl rfl rfl ?_
        refine g_goto (t := 37) dX7_feed_32 (by decide) ?_
        have hf := Option.some.inj hf
        subst hf
        exact g_ireturn dX7_feed_37 rfl ⟨rfl, rfl⟩
    · rw [if_neg c2] at hf
      refine g_bipush (q := 13) (v := (-2)) dX7_feed_11 rfl rfl ?_
      have hf := Option.some.inj hf
      subst hf
      exact g_ireturn dX7_feed_13 rfl ⟨rfl, rfl⟩
def f_X5_nextIs (a0 : Int32) (i_l : Int32) (i_p : Int32) (i_b : List Int32) : Option (Int32) := (if i_l ≤ i_p then some 0 else (tld i_b i_p).bind fun r2 => (if r2 = a0 then some 1 else some 0))
set_option maxRecDepth 20000 in
set_option maxHeartbeats 4000000 in
theorem ev_X5_nextIs {l : Launch} {E : tEn} {cr : Value} {tl : tHp} {x_hs : Int32} {s_n : Int32} {s_sp : Int64} {s_sb : Int64} {s_sc : Int32} {s_f : List Int64} {s_st : List Int32} {v_n : Int32} {v_sp : Int64} {v_sb : Int64} {v_sc : Int32} {v_f : List Int64} {v_st : List Int32} {h_k : Int32} {h_s : List Int32} {h_c : List Int64} {g_k : Int32} {g_v : Int32} {g_p : List Int32} {g_a : List Int32} {g_t : List Int32} {c_k : Int32} {c_t : List Int32} {c_p : List Int32} {i_l : Int32} {i_n : Int32} {i_f : Int64} {i_p : Int32} {i_o : Int32} {i_b : List Int32} {w_l : Int32} {w_s : List Int32} {x_e : List Int32} {x_l : List Int32} {a0 : Int32} {res : Int32} (hf : f_X5_nextIs a0 i_l i_p i_b = some res) : tEv l E yX5_nextIs cX5_nextIs 2 (some .boolean) 1 0 0 [.ref 17, .int a0] (encX x_hs s_n s_sp s_sb s_sc s_f s_st v_n v_sp v_sb v_sc v_f v_st h_k h_s h_c g_k g_v g_p g_a g_t c_k c_t c_p i_l i_n i_f i_p i_o i_b w_l w_s x_e x_l cr tl) (fun r h' => r = some (.int res) ∧ h' = encX x_hs s_n s_sp s_sb s_sc s_f s_st v_n v_sp v_sb v_sc v_f v_st h_k h_s h_c g_k g_v g_p g_a g_t c_k c_t c_p i_l i_n i_f i_p i_o i_b w_l w_s x_e x_l cr tl) := by
  refine tEv.of (own := RX5) (ini := false) (L := [(0, .ref 17), (1, .int a0)]) (by decide +kernel) rfl (fun h9 => nomatch h9) rfl (Nat.le_of_ble_eq_true rfl) ?_
  rw [f_X5_nextIs] at hf
  refine g_aload_n 0 (q := 1) dX5_nextIs_0 rfl rfl ?_
  refine g_get (q := 4) fl_X5_30 dX5_nextIs_1 rfl rfl rfl ?_
  refine g_aload_n 0 (q := 5) dX5_nextIs_4 rfl rfl ?_
  refine g_get (q := 8) fl_X5_15 dX5_nextIs_5 rfl rfl rfl ?_
  refine g_icmp_ge (t := 28) (q := 11) dX5_nextIs_8 (by decide) rfl (fun c1 => ?_) (fun c1 => ?_)
  · rw [if_pos c1] at hf
    refine g_iconst (q := 29) (v := 0) dX5_nextIs_28 rfl rfl ?_
    have hf := Option.some.inj hf
    subst hf
    exact g_zreturn (Or.inl rfl) dX5_nextIs_29 rfl ⟨rfl, rfl⟩
  · rw [if_neg c1] at hf
    refine g_aload_n 0 (q := 12) dX5_nextIs_11 rfl rfl ?_
    refine g_get (q := 15) fl_X5_11 dX5_nextIs_12 rfl rfl rfl ?_
    refine g_aload_n 0 (q := 16) dX5_nextIs_15 rfl rfl ?_
    refine g_get (q := 19) fl_X5_30 dX5_nextIs_16 rfl rfl rfl ?_
    obtain ⟨r2, e3, hf⟩ := Option.bind_eq_some_iff.mp hf
    refine g_iaload (q := 20) dX5_nextIs_19 rfl rfl e3 ?_
    refine g_iload_n 1 (q := 21) dX5_nextIs_20 rfl rfl ?_
    refine g_icmp_ne (t := 28) (q := 24) dX5_nextIs_21 (by decide) rfl (fun c4 => ?_) (fun c4 => ?_)
    · rw [if_neg c4] at hf
      refine g_iconst (q := 29) (v := 0) dX5_nextIs_28 rfl rfl ?_
      have hf := Option.some.inj hf
      subst hf
      exact g_zreturn (Or.inl rfl) dX5_nextIs_29 rfl ⟨rfl, rfl⟩
    · rw [if_pos c4] at hf
      refine g_iconst (q := 25) (v := 1) dX5_nextIs_24 rfl rfl ?_
      refine g_goto (t := 29) dX5_nextIs_25 (by decide) ?_
      have hf := Option.some.inj hf
      subst hf
      exact g_zreturn (Or.inr rfl) dX5_nextIs_29 rfl ⟨rfl, rfl⟩
def f_X5_readProduct_L9 (rc : Int32 → Int32 → Int32 → Int64 → Int32 → Int32 → List Int32 → Option (Int64 × Int32 × Int32)) (w1 : Int32) (i_l : Int32) (i_n : Int32) (i_f : Int64) (i_b : List Int32) (K : Int64 → Int32 → Int32 → Option (Int64 × Int32 × Int32)) : Nat → Int64 → Int32 → Int32 → Int32 → Option (Int64 × Int32 × Int32)
  | 0, _, _, _, _ => none
  | fu + 1, v2, v4, i_p, i_o => (if 80 ≤ v4 then K v2 i_p i_o else (if (lg_cmp v2 (-1)) = 0 then K v2 i_p i_o else (f_X5_nextIs 42 i_l i_p i_b).bind fun r5 => (if r5 = 0 then K v2 i_p i_o else (rc w1 i_l i_n i_f (i_p + 1) i_o i_b).bind fun r8 => (if (lg_cmp r8.1 (-1)) = 0 then f_X5_readProduct_L9 rc w1 i_l i_n i_f i_b K fu (-1) (v4 + 1) (r8.2.1) (r8.2.2) else f_X5_readProduct_L9 rc w1 i_l i_n i_f i_b K fu (v2 &&& r8.1) (v4 + 1) (r8.2.1) (r8.2.2)))))
def f_X5_readProduct (rc : Int32 → Int32 → Int32 → Int64 → Int32 → Int32 → List Int32 → Option (Int64 × Int32 × Int32)) (a0 : Int32) (i_l : Int32) (i_n : Int32) (i_f : Int64) (i_p : Int32) (i_o : Int32) (i_b : List Int32) : Option (Int64 × Int32 × Int32) := (rc a0 i_l i_n i_f i_p i_o i_b).bind fun r1 => f_X5_readProduct_L9 rc a0 i_l i_n i_f i_b (fun y11 k12 k13 => some (y11, k12, k13)) tFU (r1.1) 0 (r1.2.1) (r1.2.2)
set_option maxRecDepth 20000 in
set_option maxHeartbeats 4000000 in
theorem ev_X5_readProduct_L9 {l : Launch} {E : tEn} {cr : Value} {tl : tHp} {rc : Int32 → Int32 → Int32 → Int64 → Int32 → Int32 → List Int32 → Option (Int64 × Int32 × Int32)} {dd dq : Nat} (hdd : 3 ≤ dd) (hdq : dd + 1 ≤ dq) (hrc : ∀ {x_hs : Int32} {s_n : Int32} {s_sp : Int64} {s_sb : Int64} {s_sc : Int32} {s_f : List Int64} {s_st : List Int32} {v_n : Int32} {v_sp : Int64} {v_sb : Int64} {v_sc : Int32} {v_f : List Int64} {v_st : List Int32} {h_k : Int32} {h_s : List Int32} {h_c : List Int64} {g_k : Int32} {g_v : Int32} {g_p : List Int32} {g_a : List Int32} {g_t : List Int32} {c_k : Int32} {c_t : List Int32} {c_p : List Int32} {i_l : Int32} {i_n : Int32} {i_f : Int64} {i_p : Int32} {i_o : Int32} {i_b : List Int32} {w_l : Int32} {w_s : List Int32} {x_e : List Int32} {x_l : List Int32} {a0 : Int32} {res : Int64 × Int32 × Int32}, rc a0 i_l i_n i_f i_p i_o i_b = some res → tEv l E yX5_readFactor cX5_readFactor 2 (some .long) dd 0 0 [.ref 17, .int a0] (encX x_hs s_n s_sp s_sb s_sc s_f s_st v_n v_sp v_sb v_sc v_f v_st h_k h_s h_c g_k g_v g_p g_a g_t c_k c_t c_p i_l i_n i_f i_p i_o i_b w_l w_s x_e x_l cr tl) (fun r h' => r = some (.long res.1) ∧ h' = encX x_hs s_n s_sp s_sb s_sc s_f s_st v_n v_sp v_sb v_sc v_f v_st h_k h_s h_c g_k g_v g_p g_a g_t c_k c_t c_p i_l i_n i_f (res.2.1) (res.2.2) i_b w_l w_s x_e x_l cr tl)) {x_hs : Int32} {s_n : Int32} {s_sp : Int64} {s_sb : Int64} {s_sc : Int32} {s_f : List Int64} {s_st : List Int32} {v_n : Int32} {v_sp : Int64} {v_sb : Int64} {v_sc : Int32} {v_f : List Int64} {v_st : List Int32} {h_k : Int32} {h_s : List Int32} {h_c : List Int64} {g_k : Int32} {g_v : Int32} {g_p : List Int32} {g_a : List Int32} {g_t : List Int32} {c_k : Int32} {c_t : List Int32} {c_p : List Int32} {i_l : Int32} {i_n : Int32} {i_f : Int64} {i_b : List Int32} {w_l : Int32} {w_s : List Int32} {x_e : List Int32} {x_l : List Int32} {w1 : Int32} {K : Int64 → Int32 → Int32 → Option (Int64 × Int32 × Int32)} (hK : ∀ (v2 : Int64) (i_p : Int32) (i_o : Int32) (res : Int64 × Int32 × Int32), K v2 i_p i_o = some res → tG l E RX5 cX5_readProduct 7 (some .long) false dq (fun r h' => r = some (.long res.1) ∧ h' = encX x_hs s_n s_sp s_sb s_sc s_f s_st v_n v_sp v_sb v_sc v_f v_st h_k h_s h_c g_k g_v g_p g_a g_t c_k c_t c_p i_l i_n i_f (res.2.1) (res.2.2) i_b w_l w_s x_e x_l cr tl) 0 0 76 [(2, .long v2)] [] (encX x_hs s_n s_sp s_sb s_sc s_f s_st v_n v_sp v_sb v_sc v_f v_st h_k h_s h_c g_k g_v g_p g_a g_t c_k c_t c_p i_l i_n i_f i_p i_o i_b w_l w_s x_e x_l cr tl)) :
    ∀ (fu : Nat) (v2 : Int64) (v4 : Int32) (i_p : Int32) (i_o : Int32) (res : Int64 × Int32 × Int32), f_X5_readProduct_L9 rc w1 i_l i_n i_f i_b K fu v2 v4 i_p i_o = some res → tG l E RX5 cX5_readProduct 7 (some .long) false dq (fun r h' => r = some (.long res.1) ∧ h' = encX x_hs s_n s_sp s_sb s_sc s_f s_st v_n v_sp v_sb v_sc v_f v_st h_k h_s h_c g_k g_v g_p g_a g_t c_k c_t c_p i_l i_n i_f (res.2.1) (res.2.2) i_b w_l w_s x_e x_l cr tl) 0 0 9 [(0, .ref 17), (1, .int w1), (2, .long v2), (4, .int v4)] [] (encX x_hs s_n s_sp s_sb s_sc s_f s_st v_n v_sp v_sb v_sc v_f v_st h_k h_s h_c g_k g_v g_p g_a g_t c_k c_t c_p i_l i_n i_f i_p i_o i_b w_l w_s x_e x_l cr tl) := by
  intro fu
  induction fu with
  | zero => intro v2 v4 i_p i_o res hf; exact nomatch (show none = some res from hf)
  | succ fu ih =>
    intro v2 v4 i_p i_o res hf
    rw [f_X5_readProduct_L9] at hf
    refine g_iload 3 (q := 11) dX5_readProduct_9 rfl rfl ?_
    refine g_bipush (q := 13) (v := 80) dX5_readProduct_11 rfl rfl ?_
    refine g_icmp_ge (t := 76) (q := 16) dX5_readProduct_13 (by decide) rfl (fun c3 => ?_) (fun c3 => ?_)
    · rw [if_pos c3] at hf
      refine g_ls [2] rfl ?_
      exact hK _ _ _ _ hf
    · rw [if_neg c3] at hf
      refine g_lload_n 2 (q := 17) dX5_readProduct_16 rfl rfl ?_
      refine g_ldc2_w (q := 20) kc_X5_39 dX5_readProduct_17 rfl ?_
      refine g_lcmp (q := 21) dX5_readProduct_20 rfl ?_
      refine g_if_eq (t := 76) (q := 24) dX5_readProduct_21 (by decide) rfl (fun c4 => ?_) (fun c4 => ?_)
      · rw [if_pos c4] at hf
        refine g_ls [2] rfl ?_
        exact hK _ _ _ _ hf
      · rw [if_neg c4] at hf
        refine g_aload_n 0 (q := 25) dX5_readProduct_24 rfl rfl ?_
        refine g_bipush (q := 27) (v := 42) dX5_readProduct_25 rfl rfl ?_
        obtain ⟨r5, e6, hf⟩ := Option.bind_eq_some_iff.mp hf
        refine g_callV (a := 17) (k2 := 0) (n2 := 0) (q := 30) (as := [.int 42]) (st := []) (st1 := [.int r5]) tm_X5_nextIs ml_X5_44 ti_X5_nextIs rfl rfl dX5_readProduct_27 rfl (ev_X5_nextIs e6) rfl rfl (Nat.le_of_ble_eq_true rfl) (by omega) rfl rfl (Or.inl rfl) rfl ?_
        refine g_if_eq (t := 76) (q := 33) dX5_readProduct_30 (by decide) rfl (fun c7 => ?_) (fun c7 => ?_)
        · rw [if_pos c7] at hf
          refine g_ls [2] rfl ?_
          exact hK _ _ _ _ hf
        · rw [if_neg c7] at hf
          refine g_aload_n 0 (q := 34) dX5_readProduct_33 rfl rfl ?_
          refine g_dup (q := 35) dX5_readProduct_34 rfl rfl ?_
          refine g_get (q := 38) fl_X5_30 dX5_readProduct_35 rfl rfl rfl ?_
          refine g_iconst (q := 39) (v := 1) dX5_readProduct_38 rfl rfl ?_
          refine g_iadd (q := 40) dX5_readProduct_39 rfl ?_
          refine g_put (q := 43) (h' := encX x_hs s_n s_sp s_sb s_sc s_f s_st v_n v_sp v_sb v_sc v_f v_st h_k h_s h_c g_k g_v g_p g_a g_t c_k c_t c_p i_l i_n i_f (i_p + 1) i_o i_b w_l w_s x_e x_l cr tl) fp_X5_30 dX5_readProduct_40 rfl rfl (Nat.le_of_ble_eq_true rfl) (fun _ => ⟨rfl, rfl⟩) rfl ?_
          refine g_aload_n 0 (q := 44) dX5_readProduct_43 rfl rfl ?_
          refine g_iload_n 1 (q := 45) dX5_readProduct_44 rfl rfl ?_
          obtain ⟨r8, e9, hf⟩ := Option.bind_eq_some_iff.mp hf
          refine g_callV (a := 17) (k2 := 0) (n2 := 0) (q := 48) (as := [.int w1]) (st := []) (st1 := [.long r8.1]) tm_X5_readFactor ml_X5_48 ti_X5_readFactor rfl rfl dX5_readProduct_45 rfl (hrc e9) rfl rfl (Nat.le_of_ble_eq_true rfl) (by omega) rfl rfl (Or.inl (encX_len.trans encX_len.symm)) rfl ?_
          refine g_lstore (q := 50) (L' := [(0, .ref 17), (1, .int w1), (2, .long v2), (4, .int v4), (5, .long r8.1)]) dX5_readProduct_48 rfl (by decide) rfl ?_
          refine g_lload 4 (q := 52) dX5_readProduct_50 rfl rfl ?_
          refine g_ldc2_w (q := 55) kc_X5_39 dX5_readProduct_52 rfl ?_
          refine g_lcmp (q := 56) dX5_readProduct_55 rfl ?_
          refine g_if_ne (t := 65) (q := 59) dX5_readProduct_56 (by decide) rfl (fun c10 => ?_) (fun c10 => ?_)
          · rw [if_neg c10] at hf
            refine g_lload_n 2 (q := 66) dX5_readProduct_65 rfl rfl ?_
            refine g_lload 4 (q := 68) dX5_readProduct_66 rfl rfl ?_
            refine g_land (q := 69) dX5_readProduct_68 rfl ?_
            refine g_lstore_n (q := 70) (L' := [(0, .ref 17), (1, .int w1), (2, .long (v2 &&& r8.1)), (4, .int v4), (5, .long r8.1)]) dX5_readProduct_69 rfl (by decide) rfl ?_
            refine g_iinc 3 (q := 73) (v := (v4 + 1)) (L' := [(0, .ref 17), (1, .int w1), (2, .long (v2 &&& r8.1)), (4, .int (v4 + 1)), (5, .long r8.1)]) dX5_readProduct_70 rfl rfl rfl (by decide) rfl ?_
            refine g_goto (t := 9) dX5_readProduct_73 (by decide) ?_
            refine g_ls [0, 1, 2, 3] rfl ?_
            exact ih _ _ _ _ _ hf
          · rw [if_pos c10] at hf
            refine g_ldc2_w (q := 62) kc_X5_39 dX5_readProduct_59 rfl ?_
            refine g_goto (t := 69) dX5_readProduct_62 (by decide) ?_
            refine g_lstore_n (q := 70) (L' := [(0, .ref 17), (1, .int w1), (2, .long (-1)), (4, .int v4), (5, .long r8.1)]) dX5_readProduct_69 rfl (by decide) rfl ?_
            refine g_iinc 3 (q := 73) (v := (v4 + 1)) (L' := [(0, .ref 17), (1, .int w1), (2, .long (-1)), (4, .int (v4 + 1)), (5, .long r8.1)]) dX5_readProduct_70 rfl rfl rfl (by decide) rfl ?_
            refine g_goto (t := 9) dX5_readProduct_73 (by decide) ?_
            refine g_ls [0, 1, 2, 3] rfl ?_
            exact ih _ _ _ _ _ hf
set_option maxRecDepth 20000 in
set_option maxHeartbeats 4000000 in
theorem ev_X5_readProduct {l : Launch} {E : tEn} {cr : Value} {tl : tHp} {rc : Int32 → Int32 → Int32 → Int64 → Int32 → Int32 → List Int32 → Option (Int64 × Int32 × Int32)} {dd dq : Nat} (hdd : 3 ≤ dd) (hdq : dd + 1 ≤ dq) (hrc : ∀ {x_hs : Int32} {s_n : Int32} {s_sp : Int64} {s_sb : Int64} {s_sc : Int32} {s_f : List Int64} {s_st : List Int32} {v_n : Int32} {v_sp : Int64} {v_sb : Int64} {v_sc : Int32} {v_f : List Int64} {v_st : List Int32} {h_k : Int32} {h_s : List Int32} {h_c : List Int64} {g_k : Int32} {g_v : Int32} {g_p : List Int32} {g_a : List Int32} {g_t : List Int32} {c_k : Int32} {c_t : List Int32} {c_p : List Int32} {i_l : Int32} {i_n : Int32} {i_f : Int64} {i_p : Int32} {i_o : Int32} {i_b : List Int32} {w_l : Int32} {w_s : List Int32} {x_e : List Int32} {x_l : List Int32} {a0 : Int32} {res : Int64 × Int32 × Int32}, rc a0 i_l i_n i_f i_p i_o i_b = some res → tEv l E yX5_readFactor cX5_readFactor 2 (some .long) dd 0 0 [.ref 17, .int a0] (encX x_hs s_n s_sp s_sb s_sc s_f s_st v_n v_sp v_sb v_sc v_f v_st h_k h_s h_c g_k g_v g_p g_a g_t c_k c_t c_p i_l i_n i_f i_p i_o i_b w_l w_s x_e x_l cr tl) (fun r h' => r = some (.long res.1) ∧ h' = encX x_hs s_n s_sp s_sb s_sc s_f s_st v_n v_sp v_sb v_sc v_f v_st h_k h_s h_c g_k g_v g_p g_a g_t c_k c_t c_p i_l i_n i_f (res.2.1) (res.2.2) i_b w_l w_s x_e x_l cr tl)) {x_hs : Int32} {s_n : Int32} {s_sp : Int64} {s_sb : Int64} {s_sc : Int32} {s_f : List Int64} {s_st : List Int32} {v_n : Int32} {v_sp : Int64} {v_sb : Int64} {v_sc : Int32} {v_f : List Int64} {v_st : List Int32} {h_k : Int32} {h_s : List Int32} {h_c : List Int64} {g_k : Int32} {g_v : Int32} {g_p : List Int32} {g_a : List Int32} {g_t : List Int32} {c_k : Int32} {c_t : List Int32} {c_p : List Int32} {i_l : Int32} {i_n : Int32} {i_f : Int64} {i_p : Int32} {i_o : Int32} {i_b : List Int32} {w_l : Int32} {w_s : List Int32} {x_e : List Int32} {x_l : List Int32} {a0 : Int32} {res : Int64 × Int32 × Int32} (hf : f_X5_readProduct rc a0 i_l i_n i_f i_p i_o i_b = some res) : tEv l E yX5_readProduct cX5_readProduct 7 (some .long) dq 0 0 [.ref 17, .int a0] (encX x_hs s_n s_sp s_sb s_sc s_f s_st v_n v_sp v_sb v_sc v_f v_st h_k h_s h_c g_k g_v g_p g_a g_t c_k c_t c_p i_l i_n i_f i_p i_o i_b w_l w_s x_e x_l cr tl) (fun r h' => r = some (.long res.1) ∧ h' = encX x_hs s_n s_sp s_sb s_sc s_f s_st v_n v_sp v_sb v_sc v_f v_st h_k h_s h_c g_k g_v g_p g_a g_t c_k c_t c_p i_l i_n i_f (res.2.1) (res.2.2) i_b w_l w_s x_e x_l cr tl) := by
  refine tEv.of (own := RX5) (ini := false) (L := [(0, .ref 17), (1, .int a0)]) (by decide +kernel) rfl (fun h9 => nomatch h9) rfl (Nat.le_of_ble_eq_true rfl) ?_
  rw [f_X5_readProduct] at hf
  refine g_aload_n 0 (q := 1) dX5_readProduct_0 rfl rfl ?_
  refine g_iload_n 1 (q := 2) dX5_readProduct_1 rfl rfl ?_
  obtain ⟨r1, e2, hf⟩ := Option.bind_eq_some_iff.mp hf
  refine g_callV (a := 17) (k2 := 0) (n2 := 0) (q := 5) (as := [.int a0]) (st := []) (st1 := [.long r1.1]) tm_X5_readFactor ml_X5_48 ti_X5_readFactor rfl rfl dX5_readProduct_2 rfl (hrc e2) rfl rfl (Nat.le_of_ble_eq_true rfl) (by omega) rfl rfl (Or.inl (encX_len.trans encX_len.symm)) rfl ?_
  refine g_lstore_n (q := 6) (L' := [(0, .ref 17), (1, .int a0), (2, .long r1.1)]) dX5_readProduct_5 rfl (by decide) rfl ?_
  refine g_iconst (q := 7) (v := 0) dX5_readProduct_6 rfl rfl ?_
  refine g_istore (q := 9) (L' := [(0, .ref 17), (1, .int a0), (2, .long r1.1), (4, .int 0)]) dX5_readProduct_7 rfl (by decide) rfl ?_
  refine g_ls [0, 1, 2, 3] rfl ?_
  refine ev_X5_readProduct_L9 hdd hdq hrc (fun y11 k12 k13 res hf => ?_) tFU _ _ _ _ res hf
  refine g_lload_n 0 (q := 77) dX5_readProduct_76 rfl rfl ?_
  have hf := Option.some.inj hf
  subst hf
  exact g_lreturn dX5_readProduct_77 rfl ⟨rfl, rfl⟩
def f_X5_readSum_L9 (rc : Int32 → Int32 → Int32 → Int64 → Int32 → Int32 → List Int32 → Option (Int64 × Int32 × Int32)) (w1 : Int32) (i_l : Int32) (i_n : Int32) (i_f : Int64) (i_b : List Int32) (K : Int64 → Int32 → Int32 → Option (Int64 × Int32 × Int32)) : Nat → Int64 → Int32 → Int32 → Int32 → Option (Int64 × Int32 × Int32)
  | 0, _, _, _, _ => none
  | fu + 1, v2, v4, i_p, i_o => (if 80 ≤ v4 then K v2 i_p i_o else (if (lg_cmp v2 (-1)) = 0 then K v2 i_p i_o else (f_X5_nextIs 43 i_l i_p i_b).bind fun r5 => (if r5 = 0 then K v2 i_p i_o else (f_X5_readProduct rc w1 i_l i_n i_f (i_p + 1) i_o i_b).bind fun r8 => (if (lg_cmp r8.1 (-1)) = 0 then f_X5_readSum_L9 rc w1 i_l i_n i_f i_b K fu (-1) (v4 + 1) (r8.2.1) (r8.2.2) else f_X5_readSum_L9 rc w1 i_l i_n i_f i_b K fu (v2 ||| r8.1) (v4 + 1) (r8.2.1) (r8.2.2)))))
def f_X5_readSum (rc : Int32 → Int32 → Int32 → Int64 → Int32 → Int32 → List Int32 → Option (Int64 × Int32 × Int32)) (a0 : Int32) (i_l : Int32) (i_n : Int32) (i_f : Int64) (i_p : Int32) (i_o : Int32) (i_b : List Int32) : Option (Int64 × Int32 × Int32) := (f_X5_readProduct rc a0 i_l i_n i_f i_p i_o i_b).bind fun r1 => f_X5_readSum_L9 rc a0 i_l i_n i_f i_b (fun y11 k12 k13 => some (y11, k12, k13)) tFU (r1.1) 0 (r1.2.1) (r1.2.2)
set_option maxRecDepth 20000 in
set_option maxHeartbeats 4000000 in
theorem ev_X5_readSum_L9 {l : Launch} {E : tEn} {cr : Value} {tl : tHp} {rc : Int32 → Int32 → Int32 → Int64 → Int32 → Int32 → List Int32 → Option (Int64 × Int32 × Int32)} {dd dq : Nat} (hdd : 3 ≤ dd) (hdq : dd + 2 ≤ dq) (hrc : ∀ {x_hs : Int32} {s_n : Int32} {s_sp : Int64} {s_sb : Int64} {s_sc : Int32} {s_f : List Int64} {s_st : List Int32} {v_n : Int32} {v_sp : Int64} {v_sb : Int64} {v_sc : Int32} {v_f : List Int64} {v_st : List Int32} {h_k : Int32} {h_s : List Int32} {h_c : List Int64} {g_k : Int32} {g_v : Int32} {g_p : List Int32} {g_a : List Int32} {g_t : List Int32} {c_k : Int32} {c_t : List Int32} {c_p : List Int32} {i_l : Int32} {i_n : Int32} {i_f : Int64} {i_p : Int32} {i_o : Int32} {i_b : List Int32} {w_l : Int32} {w_s : List Int32} {x_e : List Int32} {x_l : List Int32} {a0 : Int32} {res : Int64 × Int32 × Int32}, rc a0 i_l i_n i_f i_p i_o i_b = some res → tEv l E yX5_readFactor cX5_readFactor 2 (some .long) dd 0 0 [.ref 17, .int a0] (encX x_hs s_n s_sp s_sb s_sc s_f s_st v_n v_sp v_sb v_sc v_f v_st h_k h_s h_c g_k g_v g_p g_a g_t c_k c_t c_p i_l i_n i_f i_p i_o i_b w_l w_s x_e x_l cr tl) (fun r h' => r = some (.long res.1) ∧ h' = encX x_hs s_n s_sp s_sb s_sc s_f s_st v_n v_sp v_sb v_sc v_f v_st h_k h_s h_c g_k g_v g_p g_a g_t c_k c_t c_p i_l i_n i_f (res.2.1) (res.2.2) i_b w_l w_s x_e x_l cr tl)) {x_hs : Int32} {s_n : Int32} {s_sp : Int64} {s_sb : Int64} {s_sc : Int32} {s_f : List Int64} {s_st : List Int32} {v_n : Int32} {v_sp : Int64} {v_sb : Int64} {v_sc : Int32} {v_f : List Int64} {v_st : List Int32} {h_k : Int32} {h_s : List Int32} {h_c : List Int64} {g_k : Int32} {g_v : Int32} {g_p : List Int32} {g_a : List Int32} {g_t : List Int32} {c_k : Int32} {c_t : List Int32} {c_p : List Int32} {i_l : Int32} {i_n : Int32} {i_f : Int64} {i_b : List Int32} {w_l : Int32} {w_s : List Int32} {x_e : List Int32} {x_l : List Int32} {w1 : Int32} {K : Int64 → Int32 → Int32 → Option (Int64 × Int32 × Int32)} (hK : ∀ (v2 : Int64) (i_p : Int32) (i_o : Int32) (res : Int64 × Int32 × Int32), K v2 i_p i_o = some res → tG l E RX5 cX5_readSum 7 (some .long) false dq (fun r h' => r = some (.long res.1) ∧ h' = encX x_hs s_n s_sp s_sb s_sc s_f s_st v_n v_sp v_sb v_sc v_f v_st h_k h_s h_c g_k g_v g_p g_a g_t c_k c_t c_p i_l i_n i_f (res.2.1) (res.2.2) i_b w_l w_s x_e x_l cr tl) 0 0 76 [(2, .long v2)] [] (encX x_hs s_n s_sp s_sb s_sc s_f s_st v_n v_sp v_sb v_sc v_f v_st h_k h_s h_c g_k g_v g_p g_a g_t c_k c_t c_p i_l i_n i_f i_p i_o i_b w_l w_s x_e x_l cr tl)) :
    ∀ (fu : Nat) (v2 : Int64) (v4 : Int32) (i_p : Int32) (i_o : Int32) (res : Int64 × Int32 × Int32), f_X5_readSum_L9 rc w1 i_l i_n i_f i_b K fu v2 v4 i_p i_o = some res → tG l E RX5 cX5_readSum 7 (some .long) false dq (fun r h' => r = some (.long res.1) ∧ h' = encX x_hs s_n s_sp s_sb s_sc s_f s_st v_n v_sp v_sb v_sc v_f v_st h_k h_s h_c g_k g_v g_p g_a g_t c_k c_t c_p i_l i_n i_f (res.2.1) (res.2.2) i_b w_l w_s x_e x_l cr tl) 0 0 9 [(0, .ref 17), (1, .int w1), (2, .long v2), (4, .int v4)] [] (encX x_hs s_n s_sp s_sb s_sc s_f s_st v_n v_sp v_sb v_sc v_f v_st h_k h_s h_c g_k g_v g_p g_a g_t c_k c_t c_p i_l i_n i_f i_p i_o i_b w_l w_s x_e x_l cr tl) := by
  intro fu
  induction fu with
  | zero => intro v2 v4 i_p i_o res hf; exact nomatch (show none = some res from hf)
  | succ fu ih =>
    intro v2 v4 i_p i_o res hf
    rw [f_X5_readSum_L9] at hf
    refine g_iload 3 (q := 11) dX5_readSum_9 rfl rfl ?_
    refine g_bipush (q := 13) (v := 80) dX5_readSum_11 rfl rfl ?_
    refine g_icmp_ge (t := 76) (q := 16) dX5_readSum_13 (by decide) rfl (fun c3 => ?_) (fun c3 => ?_)
    · rw [if_pos c3] at hf
      refine g_ls [2] rfl ?_
      exact hK _ _ _ _ hf
    · rw [if_neg c3] at hf
      refine g_lload_n 2 (q := 17) dX5_readSum_16 rfl rfl ?_
      refine g_ldc2_w (q := 20) kc_X5_39 dX5_readSum_17 rfl ?_
      refine g_lcmp (q := 21) dX5_readSum_20 rfl ?_
      refine g_if_eq (t := 76) (q := 24) dX5_readSum_21 (by decide) rfl (fun c4 => ?_) (fun c4 => ?_)
      · rw [if_pos c4] at hf
        refine g_ls [2] rfl ?_
        exact hK _ _ _ _ hf
      · rw [if_neg c4] at hf
        refine g_aload_n 0 (q := 25) dX5_readSum_24 rfl rfl ?_
        refine g_bipush (q := 27) (v := 43) dX5_readSum_25 rfl rfl ?_
        obtain ⟨r5, e6, hf⟩ := Option.bind_eq_some_iff.mp hf
        refine g_callV (a := 17) (k2 := 0) (n2 := 0) (q := 30) (as := [.int 43]) (st := []) (st1 := [.int r5]) tm_X5_nextIs ml_X5_44 ti_X5_nextIs rfl rfl dX5_readSum_27 rfl (ev_X5_nextIs e6) rfl rfl (Nat.le_of_ble_eq_true rfl) (by omega) rfl rfl (Or.inl rfl) rfl ?_
        refine g_if_eq (t := 76) (q := 33) dX5_readSum_30 (by decide) rfl (fun c7 => ?_) (fun c7 => ?_)
        · rw [if_pos c7] at hf
          refine g_ls [2] rfl ?_
          exact hK _ _ _ _ hf
        · rw [if_neg c7] at hf
          refine g_aload_n 0 (q := 34) dX5_readSum_33 rfl rfl ?_
          refine g_dup (q := 35) dX5_readSum_34 rfl rfl ?_
          refine g_get (q := 38) fl_X5_30 dX5_readSum_35 rfl rfl rfl ?_
          refine g_iconst (q := 39) (v := 1) dX5_readSum_38 rfl rfl ?_
          refine g_iadd (q := 40) dX5_readSum_39 rfl ?_
          refine g_put (q := 43) (h' := encX x_hs s_n s_sp s_sb s_sc s_f s_st v_n v_sp v_sb v_sc v_f v_st h_k h_s h_c g_k g_v g_p g_a g_t c_k c_t c_p i_l i_n i_f (i_p + 1) i_o i_b w_l w_s x_e x_l cr tl) fp_X5_30 dX5_readSum_40 rfl rfl (Nat.le_of_ble_eq_true rfl) (fun _ => ⟨rfl, rfl⟩) rfl ?_
          refine g_aload_n 0 (q := 44) dX5_readSum_43 rfl rfl ?_
          refine g_iload_n 1 (q := 45) dX5_readSum_44 rfl rfl ?_
          obtain ⟨r8, e9, hf⟩ := Option.bind_eq_some_iff.mp hf
          refine g_callV (a := 17) (k2 := 0) (n2 := 0) (q := 48) (as := [.int w1]) (st := []) (st1 := [.long r8.1]) tm_X5_readProduct ml_X5_41 ti_X5_readProduct rfl rfl dX5_readSum_45 rfl (ev_X5_readProduct hdd (Nat.le_refl _) hrc e9) rfl rfl (Nat.le_of_ble_eq_true rfl) (by omega) rfl rfl (Or.inl (encX_len.trans encX_len.symm)) rfl ?_
          refine g_lstore (q := 50) (L' := [(0, .ref 17), (1, .int w1), (2, .long v2), (4, .int v4), (5, .long r8.1)]) dX5_readSum_48 rfl (by decide) rfl ?_
          refine g_lload 4 (q := 52) dX5_readSum_50 rfl rfl ?_
          refine g_ldc2_w (q := 55) kc_X5_39 dX5_readSum_52 rfl ?_
          refine g_lcmp (q := 56) dX5_readSum_55 rfl ?_
          refine g_if_ne (t := 65) (q := 59) dX5_readSum_56 (by decide) rfl (fun c10 => ?_) (fun c10 => ?_)
          · rw [if_neg c10] at hf
            refine g_lload_n 2 (q := 66) dX5_readSum_65 rfl rfl ?_
            refine g_lload 4 (q := 68) dX5_readSum_66 rfl rfl ?_
            refine g_lor (q := 69) dX5_readSum_68 rfl ?_
            refine g_lstore_n (q := 70) (L' := [(0, .ref 17), (1, .int w1), (2, .long (v2 ||| r8.1)), (4, .int v4), (5, .long r8.1)]) dX5_readSum_69 rfl (by decide) rfl ?_
            refine g_iinc 3 (q := 73) (v := (v4 + 1)) (L' := [(0, .ref 17), (1, .int w1), (2, .long (v2 ||| r8.1)), (4, .int (v4 + 1)), (5, .long r8.1)]) dX5_readSum_70 rfl rfl rfl (by decide) rfl ?_
            refine g_goto (t := 9) dX5_readSum_73 (by decide) ?_
            refine g_ls [0, 1, 2, 3] rfl ?_
            exact ih _ _ _ _ _ hf
          · rw [if_pos c10] at hf
            refine g_ldc2_w (q := 62) kc_X5_39 dX5_readSum_59 rfl ?_
            refine g_goto (t := 69) dX5_readSum_62 (by decide) ?_
            refine g_lstore_n (q := 70) (L' := [(0, .ref 17), (1, .int w1), (2, .long (-1)), (4, .int v4), (5, .long r8.1)]) dX5_readSum_69 rfl (by decide) rfl ?_
            refine g_iinc 3 (q := 73) (v := (v4 + 1)) (L' := [(0, .ref 17), (1, .int w1), (2, .long (-1)), (4, .int (v4 + 1)), (5, .long r8.1)]) dX5_readSum_70 rfl rfl rfl (by decide) rfl ?_
            refine g_goto (t := 9) dX5_readSum_73 (by decide) ?_
            refine g_ls [0, 1, 2, 3] rfl ?_
            exact ih _ _ _ _ _ hf
set_option maxRecDepth 20000 in
set_option maxHeartbeats 4000000 in
theorem ev_X5_readSum {l : Launch} {E : tEn} {cr : Value} {tl : tHp} {rc : Int32 → Int32 → Int32 → Int64 → Int32 → Int32 → List Int32 → Option (Int64 × Int32 × Int32)} {dd dq : Nat} (hdd : 3 ≤ dd) (hdq : dd + 2 ≤ dq) (hrc : ∀ {x_hs : Int32} {s_n : Int32} {s_sp : Int64} {s_sb : Int64} {s_sc : Int32} {s_f : List Int64} {s_st : List Int32} {v_n : Int32} {v_sp : Int64} {v_sb : Int64} {v_sc : Int32} {v_f : List Int64} {v_st : List Int32} {h_k : Int32} {h_s : List Int32} {h_c : List Int64} {g_k : Int32} {g_v : Int32} {g_p : List Int32} {g_a : List Int32} {g_t : List Int32} {c_k : Int32} {c_t : List Int32} {c_p : List Int32} {i_l : Int32} {i_n : Int32} {i_f : Int64} {i_p : Int32} {i_o : Int32} {i_b : List Int32} {w_l : Int32} {w_s : List Int32} {x_e : List Int32} {x_l : List Int32} {a0 : Int32} {res : Int64 × Int32 × Int32}, rc a0 i_l i_n i_f i_p i_o i_b = some res → tEv l E yX5_readFactor cX5_readFactor 2 (some .long) dd 0 0 [.ref 17, .int a0] (encX x_hs s_n s_sp s_sb s_sc s_f s_st v_n v_sp v_sb v_sc v_f v_st h_k h_s h_c g_k g_v g_p g_a g_t c_k c_t c_p i_l i_n i_f i_p i_o i_b w_l w_s x_e x_l cr tl) (fun r h' => r = some (.long res.1) ∧ h' = encX x_hs s_n s_sp s_sb s_sc s_f s_st v_n v_sp v_sb v_sc v_f v_st h_k h_s h_c g_k g_v g_p g_a g_t c_k c_t c_p i_l i_n i_f (res.2.1) (res.2.2) i_b w_l w_s x_e x_l cr tl)) {x_hs : Int32} {s_n : Int32} {s_sp : Int64} {s_sb : Int64} {s_sc : Int32} {s_f : List Int64} {s_st : List Int32} {v_n : Int32} {v_sp : Int64} {v_sb : Int64} {v_sc : Int32} {v_f : List Int64} {v_st : List Int32} {h_k : Int32} {h_s : List Int32} {h_c : List Int64} {g_k : Int32} {g_v : Int32} {g_p : List Int32} {g_a : List Int32} {g_t : List Int32} {c_k : Int32} {c_t : List Int32} {c_p : List Int32} {i_l : Int32} {i_n : Int32} {i_f : Int64} {i_p : Int32} {i_o : Int32} {i_b : List Int32} {w_l : Int32} {w_s : List Int32} {x_e : List Int32} {x_l : List Int32} {a0 : Int32} {res : Int64 × Int32 × Int32} (hf : f_X5_readSum rc a0 i_l i_n i_f i_p i_o i_b = some res) : tEv l E yX5_readSum cX5_readSum 7 (some .long) dq 0 0 [.ref 17, .int a0] (encX x_hs s_n s_sp s_sb s_sc s_f s_st v_n v_sp v_sb v_sc v_f v_st h_k h_s h_c g_k g_v g_p g_a g_t c_k c_t c_p i_l i_n i_f i_p i_o i_b w_l w_s x_e x_l cr tl) (fun r h' => r = some (.long res.1) ∧ h' = encX x_hs s_n s_sp s_sb s_sc s_f s_st v_n v_sp v_sb v_sc v_f v_st h_k h_s h_c g_k g_v g_p g_a g_t c_k c_t c_p i_l i_n i_f (res.2.1) (res.2.2) i_b w_l w_s x_e x_l cr tl) := by
  refine tEv.of (own := RX5) (ini := false) (L := [(0, .ref 17), (1, .int a0)]) (by decide +kernel) rfl (fun h9 => nomatch h9) rfl (Nat.le_of_ble_eq_true rfl) ?_
  rw [f_X5_readSum] at hf
  refine g_aload_n 0 (q := 1) dX5_readSum_0 rfl rfl ?_
  refine g_iload_n 1 (q := 2) dX5_readSum_1 rfl rfl ?_
  obtain ⟨r1, e2, hf⟩ := Option.bind_eq_some_iff.mp hf
  refine g_callV (a := 17) (k2 := 0) (n2 := 0) (q := 5) (as := [.int a0]) (st := []) (st1 := [.long r1.1]) tm_X5_readProduct ml_X5_41 ti_X5_readProduct rfl rfl dX5_readSum_2 rfl (ev_X5_readProduct hdd (Nat.le_refl _) hrc e2) rfl rfl (Nat.le_of_ble_eq_true rfl) (by omega) rfl rfl (Or.inl (encX_len.trans encX_len.symm)) rfl ?_
  refine g_lstore_n (q := 6) (L' := [(0, .ref 17), (1, .int a0), (2, .long r1.1)]) dX5_readSum_5 rfl (by decide) rfl ?_
  refine g_iconst (q := 7) (v := 0) dX5_readSum_6 rfl rfl ?_
  refine g_istore (q := 9) (L' := [(0, .ref 17), (1, .int a0), (2, .long r1.1), (4, .int 0)]) dX5_readSum_7 rfl (by decide) rfl ?_
  refine g_ls [0, 1, 2, 3] rfl ?_
  refine ev_X5_readSum_L9 hdd hdq hrc (fun y11 k12 k13 res hf => ?_) tFU _ _ _ _ res hf
  refine g_lload_n 0 (q := 77) dX5_readSum_76 rfl rfl ?_
  have hf := Option.some.inj hf
  subst hf
  exact g_lreturn dX5_readSum_77 rfl ⟨rfl, rfl⟩
def f_X5_readOpened (rc : Int32 → Int32 → Int32 → Int64 → Int32 → Int32 → List Int32 → Option (Int64 × Int32 × Int32)) (a0 : Int32) (i_l : Int32) (i_n : Int32) (i_f : Int64) (i_p : Int32) (i_o : Int32) (i_b : List Int32) : Option (Int64 × Int32 × Int32) := (f_X5_nextIs 33 i_l i_p i_b).bind fun r1 => (if r1 = 0 then (f_X5_readSum rc a0 i_l i_n i_f (i_p + 1) i_o i_b).bind fun r4 => (if (lg_cmp r4.1 (-1)) = 0 then some ((-1), r4.2.1, r4.2.2) else (if r1 = 0 then (f_X5_nextIs 41 i_l (r4.2.1) i_b).bind fun r8 => (if r8 = 0 then some ((-1), r4.2.1, r4.2.2) else some (r4.1, ((r4.2.1) + 1), r4.2.2)) else some ((r4.1 ^^^ i_f), r4.2.1, r4.2.2))) else (rc a0 i_l i_n i_f (i_p + 1) i_o i_b).bind fun r11 => (if (lg_cmp r11.1 (-1)) = 0 then some ((-1), r11.2.1, r11.2.2) else (if r1 = 0 then (f_X5_nextIs 41 i_l (r11.2.1) i_b).bind fun r15 => (if r15 = 0 then some ((-1), r11.2.1, r11.2.2) else some (r11.1, ((r11.2.1) + 1), r11.2.2)) else some ((r11.1 ^^^ i_f), r11.2.1, r11.2.2))))
set_option maxRecDepth 20000 in
set_option maxHeartbeats 4000000 in
theorem ev_X5_readOpened {l : Launch} {E : tEn} {cr : Value} {tl : tHp} {rc : Int32 → Int32 → Int32 → Int64 → Int32 → Int32 → List Int32 → Option (Int64 × Int32 × Int32)} {dd dq : Nat} (hdd : 3 ≤ dd) (hdq : dd + 3 ≤ dq) (hrc : ∀ {x_hs : Int32} {s_n : Int32} {s_sp : Int64} {s_sb : Int64} {s_sc : Int32} {s_f : List Int64} {s_st : List Int32} {v_n : Int32} {v_sp : Int64} {v_sb : Int64} {v_sc : Int32} {v_f : List Int64} {v_st : List Int32} {h_k : Int32} {h_s : List Int32} {h_c : List Int64} {g_k : Int32} {g_v : Int32} {g_p : List Int32} {g_a : List Int32} {g_t : List Int32} {c_k : Int32} {c_t : List Int32} {c_p : List Int32} {i_l : Int32} {i_n : Int32} {i_f : Int64} {i_p : Int32} {i_o : Int32} {i_b : List Int32} {w_l : Int32} {w_s : List Int32} {x_e : List Int32} {x_l : List Int32} {a0 : Int32} {res : Int64 × Int32 × Int32}, rc a0 i_l i_n i_f i_p i_o i_b = some res → tEv l E yX5_readFactor cX5_readFactor 2 (some .long) dd 0 0 [.ref 17, .int a0] (encX x_hs s_n s_sp s_sb s_sc s_f s_st v_n v_sp v_sb v_sc v_f v_st h_k h_s h_c g_k g_v g_p g_a g_t c_k c_t c_p i_l i_n i_f i_p i_o i_b w_l w_s x_e x_l cr tl) (fun r h' => r = some (.long res.1) ∧ h' = encX x_hs s_n s_sp s_sb s_sc s_f s_st v_n v_sp v_sb v_sc v_f v_st h_k h_s h_c g_k g_v g_p g_a g_t c_k c_t c_p i_l i_n i_f (res.2.1) (res.2.2) i_b w_l w_s x_e x_l cr tl)) {x_hs : Int32} {s_n : Int32} {s_sp : Int64} {s_sb : Int64} {s_sc : Int32} {s_f : List Int64} {s_st : List Int32} {v_n : Int32} {v_sp : Int64} {v_sb : Int64} {v_sc : Int32} {v_f : List Int64} {v_st : List Int32} {h_k : Int32} {h_s : List Int32} {h_c : List Int64} {g_k : Int32} {g_v : Int32} {g_p : List Int32} {g_a : List Int32} {g_t : List Int32} {c_k : Int32} {c_t : List Int32} {c_p : List Int32} {i_l : Int32} {i_n : Int32} {i_f : Int64} {i_p : Int32} {i_o : Int32} {i_b : List Int32} {w_l : Int32} {w_s : List Int32} {x_e : List Int32} {x_l : List Int32} {a0 : Int32} {res : Int64 × Int32 × Int32} (hf : f_X5_readOpened rc a0 i_l i_n i_f i_p i_o i_b = some res) : tEv l E yX5_readOpened cX5_readOpened 5 (some .long) dq 0 0 [.ref 17, .int a0] (encX x_hs s_n s_sp s_sb s_sc s_f s_st v_n v_sp v_sb v_sc v_f v_st h_k h_s h_c g_k g_v g_p g_a g_t c_k c_t c_p i_l i_n i_f i_p i_o i_b w_l w_s x_e x_l cr tl) (fun r h' => r = some (.long res.1) ∧ h' = encX x_hs s_n s_sp s_sb s_sc s_f s_st v_n v_sp v_sb v_sc v_f v_st h_k h_s h_c g_k g_v g_p g_a g_t c_k c_t c_p i_l i_n i_f (res.2.1) (res.2.2) i_b w_l w_s x_e x_l cr tl) := by
  refine tEv.of (own := RX5) (ini := false) (L := [(0, .ref 17), (1, .int a0)]) (by decide +kernel) rfl (fun h9 => nomatch h9) rfl (Nat.le_of_ble_eq_true rfl) ?_
  rw [f_X5_readOpened] at hf
  refine g_aload_n 0 (q := 1) dX5_readOpened_0 rfl rfl ?_
  refine g_bipush (q := 3) (v := 33) dX5_readOpened_1 rfl rfl ?_
  obtain ⟨r1, e2, hf⟩ := Option.bind_eq_some_iff.mp hf
  refine g_callV (a := 17) (k2 := 0) (n2 := 0) (q := 6) (as := [.int 33]) (st := []) (st1 := [.int r1]) tm_X5_nextIs ml_X5_44 ti_X5_nextIs rfl rfl dX5_readOpened_3 rfl (ev_X5_nextIs e2) rfl rfl (Nat.le_of_ble_eq_true rfl) (by omega) rfl rfl (Or.inl rfl) rfl ?_
  refine g_istore_n (q := 7) (L' := [(0, .ref 17), (1, .int a0), (2, .int r1)]) dX5_readOpened_6 rfl (by decide) rfl ?_
  refine g_aload_n 0 (q := 8) dX5_readOpened_7 rfl rfl ?_
  refine g_dup (q := 9) dX5_readOpened_8 rfl rfl ?_
  refine g_get (q := 12) fl_X5_30 dX5_readOpened_9 rfl rfl rfl ?_
  refine g_iconst (q := 13) (v := 1) dX5_readOpened_12 rfl rfl ?_
  refine g_iadd (q := 14) dX5_readOpened_13 rfl ?_
  refine g_put (q := 17) (h' := encX x_hs s_n s_sp s_sb s_sc s_f s_st v_n v_sp v_sb v_sc v_f v_st h_k h_s h_c g_k g_v g_p g_a g_t c_k c_t c_p i_l i_n i_f (i_p + 1) i_o i_b w_l w_s x_e x_l cr tl) fp_X5_30 dX5_readOpened_14 rfl rfl (Nat.le_of_ble_eq_true rfl) (fun _ => ⟨rfl, rfl⟩) rfl ?_
  refine g_iload_n 2 (q := 18) dX5_readOpened_17 rfl rfl ?_
  refine g_if_eq (t := 29) (q := 21) dX5_readOpened_18 (by decide) rfl (fun c3 => ?_) (fun c3 => ?_)
  · rw [if_pos c3] at hf
    refine g_aload_n 0 (q := 30) dX5_readOpened_29 rfl rfl ?_
    refine g_iload_n 1 (q := 31) dX5_readOpened_30 rfl rfl ?_
    obtain ⟨r4, e5, hf⟩ := Option.bind_eq_some_iff.mp hf
    refine g_callV (a := 17) (k2 := 0) (n2 := 0) (q := 34) (as := [.int a0]) (st := []) (st1 := [.long r4.1]) tm_X5_readSum ml_X5_36 ti_X5_readSum rfl rfl dX5_readOpened_31 rfl (ev_X5_readSum hdd (Nat.le_refl _) hrc e5) rfl rfl (Nat.le_of_ble_eq_true rfl) (by omega) rfl rfl (Or.inl (encX_len.trans encX_len.symm)) rfl ?_
    refine g_lstore_n (q := 35) (L' := [(0, .ref 17), (1, .int a0), (2, .int r1), (3, .long r4.1)]) dX5_readOpened_34 rfl (by decide) rfl ?_
    refine g_lload_n 3 (q := 36) dX5_readOpened_35 rfl rfl ?_
    refine g_ldc2_w (q := 39) kc_X5_39 dX5_readOpened_36 rfl ?_
    refine g_lcmp (q := 40) dX5_readOpened_39 rfl ?_
    refine g_if_ne (t := 47) (q := 43) dX5_readOpened_40 (by decide) rfl (fun c6 => ?_) (fun c6 => ?_)
    · rw [if_neg c6] at hf
      refine g_iload_n 2 (q := 48) dX5_readOpened_47 rfl rfl ?_
      refine g_if_eq (t := 58) (q := 51) dX5_readOpened_48 (by decide) rfl (fun c7 => ?_) (fun c7 => ?_)
      · rw [if_pos c7] at hf
        refine g_aload_n 0 (q := 59) dX5_readOpened_58 rfl rfl ?_
        refine g_bipush (q := 61) (v := 41) dX5_readOpened_59 rfl rfl ?_
        obtain ⟨r8, e9, hf⟩ := Option.bind_eq_some_iff.mp hf
        refine g_callV (a := 17) (k2 := 0) (n2 := 0) (q := 64) (as := [.int 41]) (st := []) (st1 := [.int r8]) tm_X5_nextIs ml_X5_44 ti_X5_nextIs rfl rfl dX5_readOpened_61 rfl (ev_X5_nextIs e9) rfl rfl (Nat.le_of_ble_eq_true rfl) (by omega) rfl rfl (Or.inl rfl) rfl ?_
        refine g_if_ne (t := 71) (q := 67) dX5_readOpened_64 (by decide) rfl (fun c10 => ?_) (fun c10 => ?_)
        · rw [if_neg c10] at hf
          refine g_aload_n 0 (q := 72) dX5_readOpened_71 rfl rfl ?_
          refine g_dup (q := 73) dX5_readOpened_72 rfl rfl ?_
          refine g_get (q := 76) fl_X5_30 dX5_readOpened_73 rfl rfl rfl ?_
          refine g_iconst (q := 77) (v := 1) dX5_readOpened_76 rfl rfl ?_
          refine g_iadd (q := 78) dX5_readOpened_77 rfl ?_
          refine g_put (q := 81) (h' := encX x_hs s_n s_sp s_sb s_sc s_f s_st v_n v_sp v_sb v_sc v_f v_st h_k h_s h_c g_k g_v g_p g_a g_t c_k c_t c_p i_l i_n i_f ((r4.2.1) + 1) (r4.2.2) i_b w_l w_s x_e x_l cr tl) fp_X5_30 dX5_readOpened_78 rfl rfl (Nat.le_of_ble_eq_true rfl) (fun _ => ⟨rfl, rfl⟩) rfl ?_
          refine g_lload_n 3 (q := 82) dX5_readOpened_81 rfl rfl ?_
          have hf := Option.some.inj hf
          subst hf
          exact g_lreturn dX5_readOpened_82 rfl ⟨rfl, rfl⟩
        · rw [if_pos c10] at hf
          refine g_ldc2_w (q := 70) kc_X5_39 dX5_readOpened_67 rfl ?_
          have hf := Option.some.inj hf
          subst hf
          exact g_lreturn dX5_readOpened_70 rfl ⟨rfl, rfl⟩
      · rw [if_neg c7] at hf
        refine g_lload_n 3 (q := 52) dX5_readOpened_51 rfl rfl ?_
        refine g_aload_n 0 (q := 53) dX5_readOpened_52 rfl rfl ?_
        refine g_get (q := 56) fl_X5_26 dX5_readOpened_53 rfl rfl rfl ?_
        refine g_lxor (q := 57) dX5_readOpened_56 rfl ?_
        have hf := Option.some.inj hf
        subst hf
        exact g_lreturn dX5_readOpened_57 rfl ⟨rfl, rfl⟩
    · rw [if_pos c6] at hf
      refine g_ldc2_w (q := 46) kc_X5_39 dX5_readOpened_43 rfl ?_
      have hf := Option.some.inj hf
      subst hf
      exact g_lreturn dX5_readOpened_46 rfl ⟨rfl, rfl⟩
  · rw [if_neg c3] at hf
    refine g_aload_n 0 (q := 22) dX5_readOpened_21 rfl rfl ?_
    refine g_iload_n 1 (q := 23) dX5_readOpened_22 rfl rfl ?_
    obtain ⟨r11, e12, hf⟩ := Option.bind_eq_some_iff.mp hf
    refine g_callV (a := 17) (k2 := 0) (n2 := 0) (q := 26) (as := [.int a0]) (st := []) (st1 := [.long r11.1]) tm_X5_readFactor ml_X5_48 ti_X5_readFactor rfl rfl dX5_readOpened_23 rfl (hrc e12) rfl rfl (Nat.le_of_ble_eq_true rfl) (by omega) rfl rfl (Or.inl (encX_len.trans encX_len.symm)) rfl ?_
    refine g_goto (t := 34) dX5_readOpened_26 (by decide) ?_
    refine g_lstore_n (q := 35) (L' := [(0, .ref 17), (1, .int a0), (2, .int r1), (3, .long r11.1)]) dX5_readOpened_34 rfl (by decide) rfl ?_
    refine g_lload_n 3 (q := 36) dX5_readOpened_35 rfl rfl ?_
    refine g_ldc2_w (q := 39) kc_X5_39 dX5_readOpened_36 rfl ?_
    refine g_lcmp (q := 40) dX5_readOpened_39 rfl ?_
    refine g_if_ne (t := 47) (q := 43) dX5_readOpened_40 (by decide) rfl (fun c13 => ?_) (fun c13 => ?_)
    · rw [if_neg c13] at hf
      refine g_iload_n 2 (q := 48) dX5_readOpened_47 rfl rfl ?_
      refine g_if_eq (t := 58) (q := 51) dX5_readOpened_48 (by decide) rfl (fun c14 => ?_) (fun c14 => ?_)
      · rw [if_pos c14] at hf
        refine g_aload_n 0 (q := 59) dX5_readOpened_58 rfl rfl ?_
        refine g_bipush (q := 61) (v := 41) dX5_readOpened_59 rfl rfl ?_
        obtain ⟨r15, e16, hf⟩ := Option.bind_eq_some_iff.mp hf
        refine g_callV (a := 17) (k2 := 0) (n2 := 0) (q := 64) (as := [.int 41]) (st := []) (st1 := [.int r15]) tm_X5_nextIs ml_X5_44 ti_X5_nextIs rfl rfl dX5_readOpened_61 rfl (ev_X5_nextIs e16) rfl rfl (Nat.le_of_ble_eq_true rfl) (by omega) rfl rfl (Or.inl rfl) rfl ?_
        refine g_if_ne (t := 71) (q := 67) dX5_readOpened_64 (by decide) rfl (fun c17 => ?_) (fun c17 => ?_)
        · rw [if_neg c17] at hf
          refine g_aload_n 0 (q := 72) dX5_readOpened_71 rfl rfl ?_
          refine g_dup (q := 73) dX5_readOpened_72 rfl rfl ?_
          refine g_get (q := 76) fl_X5_30 dX5_readOpened_73 rfl rfl rfl ?_
          refine g_iconst (q := 77) (v := 1) dX5_readOpened_76 rfl rfl ?_
          refine g_iadd (q := 78) dX5_readOpened_77 rfl ?_
          refine g_put (q := 81) (h' := encX x_hs s_n s_sp s_sb s_sc s_f s_st v_n v_sp v_sb v_sc v_f v_st h_k h_s h_c g_k g_v g_p g_a g_t c_k c_t c_p i_l i_n i_f ((r11.2.1) + 1) (r11.2.2) i_b w_l w_s x_e x_l cr tl) fp_X5_30 dX5_readOpened_78 rfl rfl (Nat.le_of_ble_eq_true rfl) (fun _ => ⟨rfl, rfl⟩) rfl ?_
          refine g_lload_n 3 (q := 82) dX5_readOpened_81 rfl rfl ?_
          have hf := Option.some.inj hf
          subst hf
          exact g_lreturn dX5_readOpened_82 rfl ⟨rfl, rfl⟩
        · rw [if_pos c17] at hf
          refine g_ldc2_w (q := 70) kc_X5_39 dX5_readOpened_67 rfl ?_
          have hf := Option.some.inj hf
          subst hf
          exact g_lreturn dX5_readOpened_70 rfl ⟨rfl, rfl⟩
      · rw [if_neg c14] at hf
        refine g_lload_n 3 (q := 52) dX5_readOpened_51 rfl rfl ?_
        refine g_aload_n 0 (q := 53) dX5_readOpened_52 rfl rfl ?_
        refine g_get (q := 56) fl_X5_26 dX5_readOpened_53 rfl rfl rfl ?_
        refine g_lxor (q := 57) dX5_readOpened_56 rfl ?_
        have hf := Option.some.inj hf
        subst hf
        exact g_lreturn dX5_readOpened_57 rfl ⟨rfl, rfl⟩
    · rw [if_pos c13] at hf
      refine g_ldc2_w (q := 46) kc_X5_39 dX5_readOpened_43 rfl ?_
      have hf := Option.some.inj hf
      subst hf
      exact g_lreturn dX5_readOpened_46 rfl ⟨rfl, rfl⟩
def f_X5_readAtom  (i_l : Int32) (i_n : Int32) (i_f : Int64) (i_p : Int32) (i_o : Int32) (i_b : List Int32) : Option (Int64 × Int32 × Int32) := (if i_p < i_l then (tld i_b i_p).bind fun r2 => (if (f_X7_isIndex (r2 - 97) i_n) = 0 then (if r2 = 48 then (if r2 = 49 then some (i_f, (i_p + 1), i_o) else some (0, (i_p + 1), i_o)) else (if r2 = 49 then (if r2 = 49 then some (i_f, (i_p + 1), i_o) else some (0, (i_p + 1), i_o)) else some ((-1), i_p, i_o))) else (if 5 ≤ (r2 - 97) then (if r2 = 48 then (if r2 = 49 then some (i_f, (i_p + 1), i_o) else some (0, (i_p + 1), i_o)) else (if r2 = 49 then (if r2 = 49 then some (i_f, (i_p + 1), i_o) else some (0, (i_p + 1), i_o)) else some ((-1), i_p, i_o))) else (tld tVT (r2 - 97)).bind fun r14 => some ((r14 &&& i_f), (i_p + 1), (i_o + 1)))) else some ((-1), i_p, i_o))
set_option maxRecDepth 20000 in
set_option maxHeartbeats 4000000 in
theorem ev_X5_readAtom {l : Launch} {E : tEn} {cr : Value} {tl : tHp} {x_hs : Int32} {s_n : Int32} {s_sp : Int64} {s_sb : Int64} {s_sc : Int32} {s_f : List Int64} {s_st : List Int32} {v_n : Int32} {v_sp : Int64} {v_sb : Int64} {v_sc : Int32} {v_f : List Int64} {v_st : List Int32} {h_k : Int32} {h_s : List Int32} {h_c : List Int64} {g_k : Int32} {g_v : Int32} {g_p : List Int32} {g_a : List Int32} {g_t : List Int32} {c_k : Int32} {c_t : List Int32} {c_p : List Int32} {i_l : Int32} {i_n : Int32} {i_f : Int64} {i_p : Int32} {i_o : Int32} {i_b : List Int32} {w_l : Int32} {w_s : List Int32} {x_e : List Int32} {x_l : List Int32}  {res : Int64 × Int32 × Int32} (hf : f_X5_readAtom i_l i_n i_f i_p i_o i_b = some res) : tEv l E yX5_readAtom cX5_readAtom 3 (some .long) 2 0 0 [.ref 17] (encX x_hs s_n s_sp s_sb s_sc s_f s_st v_n v_sp v_sb v_sc v_f v_st h_k h_s h_c g_k g_v g_p g_a g_t c_k c_t c_p i_l i_n i_f i_p i_o i_b w_l w_s x_e x_l cr tl) (fun r h' => r = some (.long res.1) ∧ h' = encX x_hs s_n s_sp s_sb s_sc s_f s_st v_n v_sp v_sb v_sc v_f v_st h_k h_s h_c g_k g_v g_p g_a g_t c_k c_t c_p i_l i_n i_f (res.2.1) (res.2.2) i_b w_l w_s x_e x_l cr tl) := by
  refine tEv.of (own := RX5) (ini := false) (L := [(0, .ref 17)]) (by decide +kernel) rfl (fun h9 => nomatch h9) rfl (Nat.le_of_ble_eq_true rfl) ?_
  rw [f_X5_readAtom] at hf
  refine g_aload_n 0 (q := 1) dX5_readAtom_0 rfl rfl ?_
  refine g_get (q := 4) fl_X5_30 dX5_readAtom_1 rfl rfl rfl ?_
  refine g_aload_n 0 (q := 5) dX5_readAtom_4 rfl rfl ?_
  refine g_get (q := 8) fl_X5_15 dX5_readAtom_5 rfl rfl rfl ?_
  refine g_icmp_lt (t := 15) (q := 11) dX5_readAtom_8 (by decide) rfl (fun c1 => ?_) (fun c1 => ?_)
  · rw [if_pos c1] at hf
    refine g_aload_n 0 (q := 16) dX5_readAtom_15 rfl rfl ?_
    refine g_get (q := 19) fl_X5_11 dX5_readAtom_16 rfl rfl rfl ?_
    refine g_aload_n 0 (q := 20) dX5_readAtom_19 rfl rfl ?_
    refine g_get (q := 23) fl_X5_30 dX5_readAtom_20 rfl rfl rfl ?_
    obtain ⟨r2, e3, hf⟩ := Option.bind_eq_some_iff.mp hf
    refine g_iaload (q := 24) dX5_readAtom_23 rfl rfl e3 ?_
    refine g_istore_n (q := 25) (L' := [(0, .ref 17), (1, .int r2)]) dX5_readAtom_24 rfl (by decide) rfl ?_
    refine g_iload_n 1 (q := 26) dX5_readAtom_25 rfl rfl ?_
    refine g_bipush (q := 28) (v := 97) dX5_readAtom_26 rfl rfl ?_
    refine g_isub (q := 29) dX5_readAtom_28 rfl ?_
    refine g_istore_n (q := 30) (L' := [(0, .ref 17), (1, .int r2), (2, .int (r2 - 97))]) dX5_readAtom_29 rfl (by decide) rfl ?_
    refine g_iload_n 2 (q := 31) dX5_readAtom_30 rfl rfl ?_
    refine g_aload_n 0 (q := 32) dX5_readAtom_31 rfl rfl ?_
    refine g_get (q := 35) fl_X5_19 dX5_readAtom_32 rfl rfl rfl ?_
    refine g_callS (k2 := 0) (n2 := 0) (q := 38) (as := [.int (r2 - 97), .int i_n]) (st := []) (st1 := [.int (f_X7_isIndex (r2 - 97) i_n)]) tm_X7_isIndex ml_X5_58 ts_X7_isIndex dX5_readAtom_35 rfl ev_X7_isIndex rfl rfl (Nat.le_of_ble_eq_true rfl) (by decide) rfl rfl (Or.inl rfl) rfl ?_
    refine g_if_eq (t := 77) (q := 41) dX5_readAtom_38 (by decide) rfl (fun c4 => ?_) (fun c4 => ?_)
    · rw [if_pos c4] at hf
      refine g_iload_n 1 (q := 78) dX5_readAtom_77 rfl rfl ?_
      refine g_bipush (q := 80) (v := 48) dX5_readAtom_78 rfl rfl ?_
      refine g_icmp_eq (t := 89) (q := 83) dX5_readAtom_80 (by decide) rfl (fun c5 => ?_) (fun c5 => ?_)
      · rw [if_pos c5] at hf
        refine g_aload_n 0 (q := 90) dX5_readAtom_89 rfl rfl ?_
        refine g_dup (q := 91) dX5_readAtom_90 rfl rfl ?_
        refine g_get (q := 94) fl_X5_30 dX5_readAtom_91 rfl rfl rfl ?_
        refine g_iconst (q := 95) (v := 1) dX5_readAtom_94 rfl rfl ?_
        refine g_iadd (q := 96) dX5_readAtom_95 rfl ?_
        refine g_put (q := 99) (h' := encX x_hs s_n s_sp s_sb s_sc s_f s_st v_n v_sp v_sb v_sc v_f v_st h_k h_s h_c g_k g_v g_p g_a g_t c_k c_t c_p i_l i_n i_f (i_p + 1) i_o i_b w_l w_s x_e x_l cr tl) fp_X5_30 dX5_readAtom_96 rfl rfl (Nat.le_of_ble_eq_true rfl) (fun _ => ⟨rfl, rfl⟩) rfl ?_
        refine g_iload_n 1 (q := 100) dX5_readAtom_99 rfl rfl ?_
        refine g_bipush (q := 102) (v := 49) dX5_readAtom_100 rfl rfl ?_
        refine g_icmp_ne (t := 112) (q := 105) dX5_readAtom_102 (by decide) rfl (fun c6 => ?_) (fun c6 => ?_)
        · rw [if_neg c6] at hf
          refine g_lconst (q := 113) (v := 0) dX5_readAtom_112 rfl rfl ?_
          have hf := Option.some.inj hf
          subst hf
          exact g_lreturn dX5_readAtom_113 rfl ⟨rfl, rfl⟩
        · rw [if_pos c6] at hf
          refine g_aload_n 0 (q := 106) dX5_readAtom_105 rfl rfl ?_
          refine g_get (q := 109) fl_X5_26 dX5_readAtom_106 rfl rfl rfl ?_
          refine g_goto (t := 113) dX5_readAtom_109 (by decide) ?_
          have hf := Option.some.inj hf
          subst hf
          exact g_lreturn dX5_readAtom_113 rfl ⟨rfl, rfl⟩
      · rw [if_neg c5] at hf
        refine g_iload_n 1 (q := 84) dX5_readAtom_83 rfl rfl ?_
        refine g_bipush (q := 86) (v := 49) dX5_readAtom_84 rfl rfl ?_
        refine g_icmp_ne (t := 114) (q := 89) dX5_readAtom_86 (by decide) rfl (fun c7 => ?_) (fun c7 => ?_)
        · rw [if_neg c7] at hf
          refine g_ldc2_w (q := 117) kc_X5_39 dX5_readAtom_114 rfl ?_
          have hf := Option.some.inj hf
          subst hf
          exact g_lreturn dX5_readAtom_117 rfl ⟨rfl, rfl⟩
        · rw [if_pos c7] at hf
          refine g_aload_n 0 (q := 90) dX5_readAtom_89 rfl rfl ?_
          refine g_dup (q := 91) dX5_readAtom_90 rfl rfl ?_
          refine g_get (q := 94) fl_X5_30 dX5_readAtom_91 rfl rfl rfl ?_
          refine g_iconst (q := 95) (v := 1) dX5_readAtom_94 rfl rfl ?_
          refine g_iadd (q := 96) dX5_readAtom_95 rfl ?_
          refine g_put (q := 99) (h' := encX x_hs s_n s_sp s_sb s_sc s_f s_st v_n v_sp v_sb v_sc v_f v_st h_k h_s h_c g_k g_v g_p g_a g_t c_k c_t c_p i_l i_n i_f (i_p + 1) i_o i_b w_l w_s x_e x_l cr tl) fp_X5_30 dX5_readAtom_96 rfl rfl (Nat.le_of_ble_eq_true rfl) (fun _ => ⟨rfl, rfl⟩) rfl ?_
          refine g_iload_n 1 (q := 100) dX5_readAtom_99 rfl rfl ?_
          refine g_bipush (q := 102) (v := 49) dX5_readAtom_100 rfl rfl ?_
          refine g_icmp_ne (t := 112) (q := 105) dX5_readAtom_102 (by decide) rfl (fun c8 => ?_) (fun c8 => ?_)
          · rw [if_neg c8] at hf
            refine g_lconst (q := 113) (v := 0) dX5_readAtom_112 rfl rfl ?_
            have hf := Option.some.inj hf
            subst hf
            exact g_lreturn dX5_readAtom_113 rfl ⟨rfl, rfl⟩
          · rw [if_pos c8] at hf
            refine g_aload_n 0 (q := 106) dX5_readAtom_105 rfl rfl ?_
            refine g_get (q := 109) fl_X5_26 dX5_readAtom_106 rfl rfl rfl ?_
            refine g_goto (t := 113) dX5_readAtom_109 (by decide) ?_
            have hf := Option.some.inj hf
            subst hf
            exact g_lreturn dX5_readAtom_113 rfl ⟨rfl, rfl⟩
    · rw [if_neg c4] at hf
      refine g_iload_n 2 (q := 42) dX5_readAtom_41 rfl rfl ?_
      refine g_iconst (q := 43) (v := 5) dX5_readAtom_42 rfl rfl ?_
      refine g_icmp_ge (t := 77) (q := 46) dX5_readAtom_43 (by decide) rfl (fun c9 => ?_) (fun c9 => ?_)
      · rw [if_pos c9] at hf
        refine g_iload_n 1 (q := 78) dX5_readAtom_77 rfl rfl ?_
        refine g_bipush (q := 80) (v := 48) dX5_readAtom_78 rfl rfl ?_
        refine g_icmp_eq (t := 89) (q := 83) dX5_readAtom_80 (by decide) rfl (fun c10 => ?_) (fun c10 => ?_)
        · rw [if_pos c10] at hf
          refine g_aload_n 0 (q := 90) dX5_readAtom_89 rfl rfl ?_
          refine g_dup (q := 91) dX5_readAtom_90 rfl rfl ?_
          refine g_get (q := 94) fl_X5_30 dX5_readAtom_91 rfl rfl rfl ?_
          refine g_iconst (q := 95) (v := 1) dX5_readAtom_94 rfl rfl ?_
          refine g_iadd (q := 96) dX5_readAtom_95 rfl ?_
          refine g_put (q := 99) (h' := encX x_hs s_n s_sp s_sb s_sc s_f s_st v_n v_sp v_sb v_sc v_f v_st h_k h_s h_c g_k g_v g_p g_a g_t c_k c_t c_p i_l i_n i_f (i_p + 1) i_o i_b w_l w_s x_e x_l cr tl) fp_X5_30 dX5_readAtom_96 rfl rfl (Nat.le_of_ble_eq_true rfl) (fun _ => ⟨rfl, rfl⟩) rfl ?_
          refine g_iload_n 1 (q := 100) dX5_readAtom_99 rfl rfl ?_
          refine g_bipush (q := 102) (v := 49) dX5_readAtom_100 rfl rfl ?_
          refine g_icmp_ne (t := 112) (q := 105) dX5_readAtom_102 (by decide) rfl (fun c11 => ?_) (fun c11 => ?_)
          · rw [if_neg c11] at hf
            refine g_lconst (q := 113) (v := 0) dX5_readAtom_112 rfl rfl ?_
            have hf := Option.some.inj hf
            subst hf
            exact g_lreturn dX5_readAtom_113 rfl ⟨rfl, rfl⟩
          · rw [if_pos c11] at hf
            refine g_aload_n 0 (q := 106) dX5_readAtom_105 rfl rfl ?_
            refine g_get (q := 109) fl_X5_26 dX5_readAtom_106 rfl rfl rfl ?_
            refine g_goto (t := 113) dX5_readAtom_109 (by decide) ?_
            have hf := Option.some.inj hf
            subst hf
            exact g_lreturn dX5_readAtom_113 rfl ⟨rfl, rfl⟩
        · rw [if_neg c10] at hf
          refine g_iload_n 1 (q := 84) dX5_readAtom_83 rfl rfl ?_
          refine g_bipush (q := 86) (v := 49) dX5_readAtom_84 rfl rfl ?_
          refine g_icmp_ne (t := 114) (q := 89) dX5_readAtom_86 (by decide) rfl (fun c12 => ?_) (fun c12 => ?_)
          · rw [if_neg c12] at hf
            refine g_ldc2_w (q := 117) kc_X5_39 dX5_readAtom_114 rfl ?_
            have hf := Option.some.inj hf
            subst hf
            exact g_lreturn dX5_readAtom_117 rfl ⟨rfl, rfl⟩
          · rw [if_pos c12] at hf
            refine g_aload_n 0 (q := 90) dX5_readAtom_89 rfl rfl ?_
            refine g_dup (q := 91) dX5_readAtom_90 rfl rfl ?_
            refine g_get (q := 94) fl_X5_30 dX5_readAtom_91 rfl rfl rfl ?_
            refine g_iconst (q := 95) (v := 1) dX5_readAtom_94 rfl rfl ?_
            refine g_iadd (q := 96) dX5_readAtom_95 rfl ?_
            refine g_put (q := 99) (h' := encX x_hs s_n s_sp s_sb s_sc s_f s_st v_n v_sp v_sb v_sc v_f v_st h_k h_s h_c g_k g_v g_p g_a g_t c_k c_t c_p i_l i_n i_f (i_p + 1) i_o i_b w_l w_s x_e x_l cr tl) fp_X5_30 dX5_readAtom_96 rfl rfl (Nat.le_of_ble_eq_true rfl) (fun _ => ⟨rfl, rfl⟩) rfl ?_
            refine g_iload_n 1 (q := 100) dX5_readAtom_99 rfl rfl ?_
            refine g_bipush (q := 102) (v := 49) dX5_readAtom_100 rfl rfl ?_
            refine g_icmp_ne (t := 112) (q := 105) dX5_readAtom_102 (by decide) rfl (fun c13 => ?_) (fun c13 => ?_)
            · rw [if_neg c13] at hf
              refine g_lconst (q := 113) (v := 0) dX5_readAtom_112 rfl rfl ?_
              have hf := Option.some.inj hf
              subst hf
              exact g_lreturn dX5_readAtom_113 rfl ⟨rfl, rfl⟩
            · rw [if_pos c13] at hf
              refine g_aload_n 0 (q := 106) dX5_readAtom_105 rfl rfl ?_
              refine g_get (q := 109) fl_X5_26 dX5_readAtom_106 rfl rfl rfl ?_
              refine g_goto (t := 113) dX5_readAtom_109 (by decide) ?_
              have hf := Option.some.inj hf
              subst hf
              exact g_lreturn dX5_readAtom_113 rfl ⟨rfl, rfl⟩
      · rw [if_neg c9] at hf
        refine g_aload_n 0 (q := 47) dX5_readAtom_46 rfl rfl ?_
        refine g_dup (q := 48) dX5_readAtom_47 rfl rfl ?_
        refine g_get (q := 51) fl_X5_30 dX5_readAtom_48 rfl rfl rfl ?_
        refine g_iconst (q := 52) (v := 1) dX5_readAtom_51 rfl rfl ?_
        refine g_iadd (q := 53) dX5_readAtom_52 rfl ?_
        refine g_put (q := 56) (h' := encX x_hs s_n s_sp s_sb s_sc s_f s_st v_n v_sp v_sb v_sc v_f v_st h_k h_s h_c g_k g_v g_p g_a g_t c_k c_t c_p i_l i_n i_f (i_p + 1) i_o i_b w_l w_s x_e x_l cr tl) fp_X5_30 dX5_readAtom_53 rfl rfl (Nat.le_of_ble_eq_true rfl) (fun _ => ⟨rfl, rfl⟩) rfl ?_
        refine g_aload_n 0 (q := 57) dX5_readAtom_56 rfl rfl ?_
        refine g_dup (q := 58) dX5_readAtom_57 rfl rfl ?_
        refine g_get (q := 61) fl_X5_33 dX5_readAtom_58 rfl rfl rfl ?_
        refine g_iconst (q := 62) (v := 1) dX5_readAtom_61 rfl rfl ?_
        refine g_iadd (q := 63) dX5_readAtom_62 rfl ?_
        refine g_put (q := 66) (h' := encX x_hs s_n s_sp s_sb s_sc s_f s_st v_n v_sp v_sb v_sc v_f v_st h_k h_s h_c g_k g_v g_p g_a g_t c_k c_t c_p i_l i_n i_f (i_p + 1) (i_o + 1) i_b w_l w_s x_e x_l cr tl) fp_X5_33 dX5_readAtom_63 rfl rfl (Nat.le_of_ble_eq_true rfl) (fun _ => ⟨rfl, rfl⟩) rfl ?_
        refine g_getsV (q := 69) sl_X5_62 dX5_readAtom_66 rfl ?_
        refine g_iload_n 2 (q := 70) dX5_readAtom_69 rfl rfl ?_
        obtain ⟨r14, e15, hf⟩ := Option.bind_eq_some_iff.mp hf
        refine g_laloadV (q := 71) dX5_readAtom_70 rfl e15 ?_
        refine g_aload_n 0 (q := 72) dX5_readAtom_71 rfl rfl ?_
        refine g_get (q := 75) fl_X5_26 dX5_readAtom_72 rfl rfl rfl ?_
        refine g_land (q := 76) dX5_readAtom_75 rfl ?_
        have hf := Option.some.inj hf
        subst hf
        exact g_lreturn dX5_readAtom_76 rfl ⟨rfl, rfl⟩
  · rw [if_neg c1] at hf
    refine g_ldc2_w (q := 14) kc_X5_39 dX5_readAtom_11 rfl ?_
    have hf := Option.some.inj hf
    subst hf
    exact g_lreturn dX5_readAtom_14 rfl ⟨rfl, rfl⟩
def f_X5_readFactor : Nat → (Int32 → Int32 → Int32 → Int64 → Int32 → Int32 → List Int32 → Option (Int64 × Int32 × Int32))
  | 0 => fun _ _ _ _ _ _ _ => none
  | D + 1 => fun a0 i_l i_n i_f i_p i_o i_b => (f_X5_nextIs 33 i_l i_p i_b).bind fun r1 => (if r1 = 0 then (f_X5_nextIs 40 i_l i_p i_b).bind fun r7 => (if r7 = 0 then (f_X5_readAtom i_l i_n i_f i_p i_o i_b).bind fun r10 => some (r10.1, r10.2.1, r10.2.2) else (if 6 ≤ a0 then some ((-1), i_p, i_o) else (f_X5_readOpened (f_X5_readFactor D) (a0 + 1) i_l i_n i_f i_p i_o i_b).bind fun r13 => some (r13.1, r13.2.1, r13.2.2))) else (if 6 ≤ a0 then some ((-1), i_p, i_o) else (f_X5_readOpened (f_X5_readFactor D) (a0 + 1) i_l i_n i_f i_p i_o i_b).bind fun r5 => some (r5.1, r5.2.1, r5.2.2)))
set_option maxRecDepth 20000 in
set_option maxHeartbeats 4000000 in
theorem ev_X5_readFactor {l : Launch} {E : tEn} {cr : Value} {tl : tHp} : ∀ (D : Nat) {x_hs : Int32} {s_n : Int32} {s_sp : Int64} {s_sb : Int64} {s_sc : Int32} {s_f : List Int64} {s_st : List Int32} {v_n : Int32} {v_sp : Int64} {v_sb : Int64} {v_sc : Int32} {v_f : List Int64} {v_st : List Int32} {h_k : Int32} {h_s : List Int32} {h_c : List Int64} {g_k : Int32} {g_v : Int32} {g_p : List Int32} {g_a : List Int32} {g_t : List Int32} {c_k : Int32} {c_t : List Int32} {c_p : List Int32} {i_l : Int32} {i_n : Int32} {i_f : Int64} {i_p : Int32} {i_o : Int32} {i_b : List Int32} {w_l : Int32} {w_s : List Int32} {x_e : List Int32} {x_l : List Int32} {a0 : Int32} {res : Int64 × Int32 × Int32}, f_X5_readFactor D a0 i_l i_n i_f i_p i_o i_b = some res → tEv l E yX5_readFactor cX5_readFactor 2 (some .long) (4 * D + 3) 0 0 [.ref 17, .int a0] (encX x_hs s_n s_sp s_sb s_sc s_f s_st v_n v_sp v_sb v_sc v_f v_st h_k h_s h_c g_k g_v g_p g_a g_t c_k c_t c_p i_l i_n i_f i_p i_o i_b w_l w_s x_e x_l cr tl) (fun r h' => r = some (.long res.1) ∧ h' = encX x_hs s_n s_sp s_sb s_sc s_f s_st v_n v_sp v_sb v_sc v_f v_st h_k h_s h_c g_k g_v g_p g_a g_t c_k c_t c_p i_l i_n i_f (res.2.1) (res.2.2) i_b w_l w_s x_e x_l cr tl) := by
  intro D
  induction D with
  | zero => intro x_hs s_n s_sp s_sb s_sc s_f s_st v_n v_sp v_sb v_sc v_f v_st h_k h_s h_c g_k g_v g_p g_a g_t c_k c_t c_p i_l i_n i_f i_p i_o i_b w_l w_s x_e x_l a0 res hf; exact nomatch (show none = some res from hf)
  | succ D ih =>
    intro x_hs s_n s_sp s_sb s_sc s_f s_st v_n v_sp v_sb v_sc v_f v_st h_k h_s h_c g_k g_v g_p g_a g_t c_k c_t c_p i_l i_n i_f i_p i_o i_b w_l w_s x_e x_l a0 res hf
    have hrc := @ih
    have hdd : 3 ≤ 4 * D + 3 := by omega
    have hdq : 4 * D + 3 + 4 ≤ 4 * (D + 1) + 3 := by omega
    refine tEv.of (own := RX5) (ini := false) (L := [(0, .ref 17), (1, .int a0)]) (by decide +kernel) rfl (fun h9 => nomatch h9) rfl (Nat.le_of_ble_eq_true rfl) ?_
    rw [f_X5_readFactor] at hf
    dsimp only at hf
    refine g_aload_n 0 (q := 1) dX5_readFactor_0 rfl rfl ?_
    refine g_bipush (q := 3) (v := 33) dX5_readFactor_1 rfl rfl ?_
    obtain ⟨r1, e2, hf⟩ := Option.bind_eq_some_iff.mp hf
    refine g_callV (a := 17) (k2 := 0) (n2 := 0) (q := 6) (as := [.int 33]) (st := []) (st1 := [.int r1]) tm_X5_nextIs ml_X5_44 ti_X5_nextIs rfl rfl dX5_readFactor_3 rfl (ev_X5_nextIs e2) rfl rfl (Nat.le_of_ble_eq_true rfl) (by omega) rfl rfl (Or.inl rfl) rfl ?_
    refine g_if_ne (t := 18) (q := 9) dX5_readFactor_6 (by decide) rfl (fun c3 => ?_) (fun c3 => ?_)
    · rw [if_neg c3] at hf
      refine g_iload_n 1 (q := 19) dX5_readFactor_18 rfl rfl ?_
      refine g_bipush (q := 21) (v := 6) dX5_readFactor_19 rfl rfl ?_
      refine g_icmp_ge (t := 34) (q := 24) dX5_readFactor_21 (by decide) rfl (fun c4 => ?_) (fun c4 => ?_)
      · rw [if_pos c4] at hf
        refine g_ldc2_w (q := 37) kc_X5_39 dX5_readFactor_34 rfl ?_
        have hf := Option.some.inj hf
        subst hf
        exact g_lreturn dX5_readFactor_37 rfl ⟨rfl, rfl⟩
      · rw [if_neg c4] at hf
        refine g_aload_n 0 (q := 25) dX5_readFactor_24 rfl rfl ?_
        refine g_iload_n 1 (q := 26) dX5_readFactor_25 rfl rfl ?_
        refine g_iconst (q := 27) (v := 1) dX5_readFactor_26 rfl rfl ?_
        refine g_iadd (q := 28) dX5_readFactor_27 rfl ?_
        obtain ⟨r5, e6, hf⟩ := Option.bind_eq_some_iff.mp hf
        refine g_callV (a := 17) (k2 := 0) (n2 := 0) (q := 31) (as := [.int (a0 + 1)]) (st := []) (st1 := [.long r5.1]) tm_X5_readOpened ml_X5_51 ti_X5_readOpened rfl rfl dX5_readFactor_28 rfl (ev_X5_readOpened hdd (Nat.le_refl _) hrc e6) rfl rfl (Nat.le_of_ble_eq_true rfl) (by omega) rfl rfl (Or.inl (encX_len.trans encX_len.symm)) rfl ?_
        refine g_goto (t := 37) dX5_readFactor_31 (by decide) ?_
        have hf := Option.some.inj hf
        subst hf
        exact g_lreturn dX5_readFactor_37 rfl ⟨rfl, rfl⟩
    · rw [if_pos c3] at hf
      refine g_aload_n 0 (q := 10) dX5_readFactor_9 rfl rfl ?_
      refine g_bipush (q := 12) (v := 40) dX5_readFactor_10 rfl rfl ?_
      obtain ⟨r7, e8, hf⟩ := Option.bind_eq_some_iff.mp hf
      refine g_callV (a := 17) (k2 := 0) (n2 := 0) (q := 15) (as := [.int 40]) (st := []) (st1 := [.int r7]) tm_X5_nextIs ml_X5_44 ti_X5_nextIs rfl rfl dX5_readFactor_12 rfl (ev_X5_nextIs e8) rfl rfl (Nat.le_of_ble_eq_true rfl) (by omega) rfl rfl (Or.inl rfl) rfl ?_
      refine g_if_eq (t := 38) (q := 18) dX5_readFactor_15 (by decide) rfl (fun c9 => ?_) (fun c9 => ?_)
      · rw [if_pos c9] at hf
        refine g_aload_n 0 (q := 39) dX5_readFactor_38 rfl rfl ?_
        obtain ⟨r10, e11, hf⟩ := Option.bind_eq_some_iff.mp hf
        refine g_callV (a := 17) (k2 := 0) (n2 := 0) (q := 42) (as := []) (st := []) (st1 := [.long r10.1]) tm_X5_readAtom ml_X5_54 ti_X5_readAtom rfl rfl dX5_readFactor_39 rfl (ev_X5_readAtom e11) rfl rfl (Nat.le_of_ble_eq_true rfl) (by omega) rfl rfl (Or.inl (encX_len.trans encX_len.symm)) rfl ?_
        have hf := Option.some.inj hf
        subst hf
        exact g_lreturn dX5_readFactor_42 rfl ⟨rfl, rfl⟩
      · rw [if_neg c9] at hf
        refine g_iload_n 1 (q := 19) dX5_readFactor_18 rfl rfl ?_
        refine g_bipush (q := 21) (v := 6) dX5_readFactor_19 rfl rfl ?_
        refine g_icmp_ge (t := 34) (q := 24) dX5_readFactor_21 (by decide) rfl (fun c12 => ?_) (fun c12 => ?_)
        · rw [if_pos c12] at hf
          refine g_ldc2_w (q := 37) kc_X5_39 dX5_readFactor_34 rfl ?_
          have hf := Option.some.inj hf
          subst hf
          exact g_lreturn dX5_readFactor_37 rfl ⟨rfl, rfl⟩
        · rw [if_neg c12] at hf
          refine g_aload_n 0 (q := 25) dX5_readFactor_24 rfl rfl ?_
          refine g_iload_n 1 (q := 26) dX5_readFactor_25 rfl rfl ?_
          refine g_iconst (q := 27) (v := 1) dX5_readFactor_26 rfl rfl ?_
          refine g_iadd (q := 28) dX5_readFactor_27 rfl ?_
          obtain ⟨r13, e14, hf⟩ := Option.bind_eq_some_iff.mp hf
          refine g_callV (a := 17) (k2 := 0) (n2 := 0) (q := 31) (as := [.int (a0 + 1)]) (st := []) (st1 := [.long r13.1]) tm_X5_readOpened ml_X5_51 ti_X5_readOpened rfl rfl dX5_readFactor_28 rfl (ev_X5_readOpened hdd (Nat.le_refl _) hrc e14) rfl rfl (Nat.le_of_ble_eq_true rfl) (by omega) rfl rfl (Or.inl (encX_len.trans encX_len.symm)) rfl ?_
          refine g_goto (t := 37) dX5_readFactor_31 (by decide) ?_
          have hf := Option.some.inj hf
          subst hf
          exact g_lreturn dX5_readFactor_37 rfl ⟨rfl, rfl⟩
def f_X5_readFormula (a0 : Int32) (i_l : Int32) (i_n : Int32) (i_f : Int64) (i_p : Int32) (i_o : Int32) (i_b : List Int32) : Option (Int64 × Int32 × Int64 × Int32 × Int32) := (f_X5_readSum (f_X5_readFactor tDP) 0 i_l a0 (f_X7_fullTable a0) 0 0 i_b).bind fun r1 => (if i_l ≤ (r1.2.1) then some (r1.1, a0, (f_X7_fullTable a0), r1.2.1, r1.2.2) else some ((-1), a0, (f_X7_fullTable a0), r1.2.1, r1.2.2))
set_option maxRecDepth 20000 in
set_option maxHeartbeats 4000000 in
theorem ev_X5_readFormula {l : Launch} {E : tEn} {cr : Value} {tl : tHp} {x_hs : Int32} {s_n : Int32} {s_sp : Int64} {s_sb : Int64} {s_sc : Int32} {s_f : List Int64} {s_st : List Int32} {v_n : Int32} {v_sp : Int64} {v_sb : Int64} {v_sc : Int32} {v_f : List Int64} {v_st : List Int32} {h_k : Int32} {h_s : List Int32} {h_c : List Int64} {g_k : Int32} {g_v : Int32} {g_p : List Int32} {g_a : List Int32} {g_t : List Int32} {c_k : Int32} {c_t : List Int32} {c_p : List Int32} {i_l : Int32} {i_n : Int32} {i_f : Int64} {i_p : Int32} {i_o : Int32} {i_b : List Int32} {w_l : Int32} {w_s : List Int32} {x_e : List Int32} {x_l : List Int32} {a0 : Int32} {res : Int64 × Int32 × Int64 × Int32 × Int32} (hf : f_X5_readFormula a0 i_l i_n i_f i_p i_o i_b = some res) : tEv l E yX5_readFormula cX5_readFormula 4 (some .long) 46 0 0 [.ref 17, .int a0] (encX x_hs s_n s_sp s_sb s_sc s_f s_st v_n v_sp v_sb v_sc v_f v_st h_k h_s h_c g_k g_v g_p g_a g_t c_k c_t c_p i_l i_n i_f i_p i_o i_b w_l w_s x_e x_l cr tl) (fun r h' => r = some (.long res.1) ∧ h' = encX x_hs s_n s_sp s_sb s_sc s_f s_st v_n v_sp v_sb v_sc v_f v_st h_k h_s h_c g_k g_v g_p g_a g_t c_k c_t c_p i_l (res.2.1) (res.2.2.1) (res.2.2.2.1) (res.2.2.2.2) i_b w_l w_s x_e x_l cr tl) := by
  refine tEv.of (own := RX5) (ini := false) (L := [(0, .ref 17), (1, .int a0)]) (by decide +kernel) rfl (fun h9 => nomatch h9) rfl (Nat.le_of_ble_eq_true rfl) ?_
  rw [f_X5_readFormula] at hf
  refine g_aload_n 0 (q := 1) dX5_readFormula_0 rfl rfl ?_
  refine g_iload_n 1 (q := 2) dX5_readFormula_1 rfl rfl ?_
  refine g_put (q := 5) (h' := encX x_hs s_n s_sp s_sb s_sc s_f s_st v_n v_sp v_sb v_sc v_f v_st h_k h_s h_c g_k g_v g_p g_a g_t c_k c_t c_p i_l a0 i_f i_p i_o i_b w_l w_s x_e x_l cr tl) fp_X5_19 dX5_readFormula_2 rfl rfl (Nat.le_of_ble_eq_true rfl) (fun _ => ⟨rfl, rfl⟩) rfl ?_
  refine g_aload_n 0 (q := 6) dX5_readFormula_5 rfl rfl ?_
  refine g_iload_n 1 (q := 7) dX5_readFormula_6 rfl rfl ?_
  refine g_callS (k2 := 0) (n2 := 0) (q := 10) (as := [.int a0]) (st := [.ref 17]) (st1 := [.long (f_X7_fullTable a0), .ref 17]) tm_X7_fullTable ml_X5_22 ts_X7_fullTable dX5_readFormula_7 rfl ev_X7_fullTable rfl rfl (Nat.le_of_ble_eq_true rfl) (by decide) rfl rfl (Or.inl rfl) rfl ?_
  refine g_put (q := 13) (h' := encX x_hs s_n s_sp s_sb s_sc s_f s_st v_n v_sp v_sb v_sc v_f v_st h_k h_s h_c g_k g_v g_p g_a g_t c_k c_t c_p i_l a0 (f_X7_fullTable a0) i_p i_o i_b w_l w_s x_e x_l cr tl) fp_X5_26 dX5_readFormula_10 rfl rfl (Nat.le_of_ble_eq_true rfl) (fun _ => ⟨rfl, rfl⟩) rfl ?_
  refine g_aload_n 0 (q := 14) dX5_readFormula_13 rfl rfl ?_
  refine g_iconst (q := 15) (v := 0) dX5_readFormula_14 rfl rfl ?_
  refine g_put (q := 18) (h' := encX x_hs s_n s_sp s_sb s_sc s_f s_st v_n v_sp v_sb v_sc v_f v_st h_k h_s h_c g_k g_v g_p g_a g_t c_k c_t c_p i_l a0 (f_X7_fullTable a0) 0 i_o i_b w_l w_s x_e x_l cr tl) fp_X5_30 dX5_readFormula_15 rfl rfl (Nat.le_of_ble_eq_true rfl) (fun _ => ⟨rfl, rfl⟩) rfl ?_
  refine g_aload_n 0 (q := 19) dX5_readFormula_18 rfl rfl ?_
  refine g_iconst (q := 20) (v := 0) dX5_readFormula_19 rfl rfl ?_
  refine g_put (q := 23) (h' := encX x_hs s_n s_sp s_sb s_sc s_f s_st v_n v_sp v_sb v_sc v_f v_st h_k h_s h_c g_k g_v g_p g_a g_t c_k c_t c_p i_l a0 (f_X7_fullTable a0) 0 0 i_b w_l w_s x_e x_l cr tl) fp_X5_33 dX5_readFormula_20 rfl rfl (Nat.le_of_ble_eq_true rfl) (fun _ => ⟨rfl, rfl⟩) rfl ?_
  refine g_aload_n 0 (q := 24) dX5_readFormula_23 rfl rfl ?_
  refine g_iconst (q := 25) (v := 0) dX5_readFormula_24 rfl rfl ?_
  obtain ⟨r1, e2, hf⟩ := Option.bind_eq_some_iff.mp hf
  refine g_callV (a := 17) (k2 := 0) (n2 := 0) (q := 28) (as := [.int 0]) (st := []) (st1 := [.long r1.1]) tm_X5_readSum ml_X5_36 ti_X5_readSum rfl rfl dX5_readFormula_25 rfl (ev_X5_readSum (dd := 4 * tDP + 3) (by decide) (Nat.le_refl _) (ev_X5_readFactor tDP) e2) rfl rfl (Nat.le_of_ble_eq_true rfl) (by decide) rfl rfl (Or.inl (encX_len.trans encX_len.symm)) rfl ?_
  refine g_lstore_n (q := 29) (L' := [(0, .ref 17), (1, .int a0), (2, .long r1.1)]) dX5_readFormula_28 rfl (by decide) rfl ?_
  refine g_aload_n 0 (q := 30) dX5_readFormula_29 rfl rfl ?_
  refine g_get (q := 33) fl_X5_30 dX5_readFormula_30 rfl rfl rfl ?_
  refine g_aload_n 0 (q := 34) dX5_readFormula_33 rfl rfl ?_
  refine g_get (q := 37) fl_X5_15 dX5_readFormula_34 rfl rfl rfl ?_
  refine g_icmp_ge (t := 46) (q := 40) dX5_readFormula_37 (by decide) rfl (fun c3 => ?_) (fun c3 => ?_)
  · rw [if_pos c3] at hf
    refine g_lload_n 2 (q := 47) dX5_readFormula_46 rfl rfl ?_
    have hf := Option.some.inj hf
    subst hf
    exact g_lreturn dX5_readFormula_47 rfl ⟨rfl, rfl⟩
  · rw [if_neg c3] at hf
    refine g_ldc2_w (q := 43) kc_X5_39 dX5_readFormula_40 rfl ?_
    refine g_goto (t := 47) dX5_readFormula_43 (by decide) ?_
    have hf := Option.some.inj hf
    subst hf
    exact g_lreturn dX5_readFormula_47 rfl ⟨rfl, rfl⟩
def f_X7_parse (a0 : Int32) (s_n : Int32) (s_f : List Int64) (h_k : Int32) (h_s : List Int32) (h_c : List Int64) (i_l : Int32) (i_n : Int32) (i_f : Int64) (i_p : Int32) (i_o : Int32) (i_b : List Int32) : Option (Int32 × List Int64 × Int32 × List Int32 × List Int64 × Int32 × Int32 × Int64 × Int32 × Int32) := (if (f_X7_isSlot a0) = 0 then some ((-2), s_f, h_k, h_s, h_c, i_l, i_n, i_f, i_p, i_o) else (f_X5_readFormula s_n i_l i_n i_f i_p i_o i_b).bind fun r2 => (if (lg_cmp r2.1 (-1)) = 0 then some (((-100) - (r2.2.2.2.1)), s_f, h_k, h_s, h_c, 0, r2.2.1, r2.2.2.1, r2.2.2.2.1, r2.2.2.2.2) else (f_X7_store a0 r2.1 s_f h_k h_s h_c).bind fun r5 => some ((r2.2.2.2.2), r5.2.1, r5.2.2.1, r5.2.2.2.1, r5.2.2.2.2, 0, r2.2.1, r2.2.2.1, r2.2.2.2.1, r2.2.2.2.2)))
set_option maxRecDepth 20000 in
set_option maxHeartbeats 4000000 in
theorem ev_X7_parse {l : Launch} {E : tEn} {cr : Value} {tl : tHp} {x_hs : Int32} {s_n : Int32} {s_sp : Int64} {s_sb : Int64} {s_sc : Int32} {s_f : List Int64} {s_st : List Int32} {v_n : Int32} {v_sp : Int64} {v_sb : Int64} {v_sc : Int32} {v_f : List Int64} {v_st : List Int32} {h_k : Int32} {h_s : List Int32} {h_c : List Int64} {g_k : Int32} {g_v : Int32} {g_p : List Int32} {g_a : List Int32} {g_t : List Int32} {c_k : Int32} {c_t : List Int32} {c_p : List Int32} {i_l : Int32} {i_n : Int32} {i_f : Int64} {i_p : Int32} {i_o : Int32} {i_b : List Int32} {w_l : Int32} {w_s : List Int32} {x_e : List Int32} {x_l : List Int32} {a0 : Int32} {res : Int32 × List Int64 × Int32 × List Int32 × List Int64 × Int32 × Int32 × Int64 × Int32 × Int32} (hf : f_X7_parse a0 s_n s_f h_k h_s h_c i_l i_n i_f i_p i_o i_b = some res) : tEv l E yX7_parse cX7_parse 4 (some .int) 47 0 0 [.ref 0, .int a0] (encX x_hs s_n s_sp s_sb s_sc s_f s_st v_n v_sp v_sb v_sc v_f v_st h_k h_s h_c g_k g_v g_p g_a g_t c_k c_t c_p i_l i_n i_f i_p i_o i_b w_l w_s x_e x_l cr tl) (fun r h' => r = some (.int res.1) ∧ h' = encX x_hs s_n s_sp s_sb s_sc (res.2.1) s_st v_n v_sp v_sb v_sc v_f v_st (res.2.2.1) (res.2.2.2.1) (res.2.2.2.2.1) g_k g_v g_p g_a g_t c_k c_t c_p (res.2.2.2.2.2.1) (res.2.2.2.2.2.2.1) (res.2.2.2.2.2.2.2.1) (res.2.2.2.2.2.2.2.2.1) (res.2.2.2.2.2.2.2.2.2) i_b w_l w_s x_e x_l cr tl) := by
  refine tEv.of (own := RX7) (ini := false) (L := [(0, .ref 0), (1, .int a0)]) (by decide +kernel) rfl (fun h9 => nomatch h9) rfl (Nat.le_of_ble_eq_true rfl) ?_
  rw [f_X7_parse] at hf
  refine g_iload_n 1 (q := 1) dX7_parse_0 rfl rfl ?_
  refine g_callS (k2 := 0) (n2 := 0) (q := 4) (as := [.int a0]) (st := []) (st1 := [.int (f_X7_isSlot a0)]) tm_X7_isSlot ml_X7_86 ts_X7_isSlot dX7_parse_1 rfl ev_X7_isSlot rfl rfl (Nat.le_of_ble_eq_true rfl) (by decide) rfl rfl (Or.inl rfl) rfl ?_
  refine g_if_ne (t := 10) (q := 7) dX7_parse_4 (by decide) rfl (fun c1 => ?_) (fun c1 => ?_)
  · rw [if_neg c1] at hf
    refine g_aload_n 0 (q := 11) dX7_parse_10 rfl rfl ?_
    refine g_get (q := 14) fl_X7_47 dX7_parse_11 rfl rfl rfl ?_
    refine g_aload_n 0 (q := 15) dX7_parse_14 rfl rfl ?_
    refine g_get (q := 18) fl_X7_10 dX7_parse_15 rfl rfl rfl ?_
    refine g_get (q := 21) fl_X7_75 dX7_parse_18 rfl rfl rfl ?_
    obtain ⟨r2, e3, hf⟩ := Option.bind_eq_some_iff.mp hf
    refine g_callV (a := 17) (k2 := 0) (n2 := 0) (q := 24) (as := [.int s_n]) (st := []) (st1 := [.long r2.1]) tm_X5_readFormula ml_X7_193 ti_X5_readFormula rfl rfl dX7_parse_21 rfl (ev_X5_readFormula e3) rfl rfl (Nat.le_of_ble_eq_true rfl) (by decide) rfl rfl (Or.inl (encX_len.trans encX_len.symm)) rfl ?_
    refine g_lstore_n (q := 25) (L' := [(0, .ref 0), (1, .int a0), (2, .long r2.1)]) dX7_parse_24 rfl (by decide) rfl ?_
    refine g_aload_n 0 (q := 26) dX7_parse_25 rfl rfl ?_
    refine g_get (q := 29) fl_X7_47 dX7_parse_26 rfl rfl rfl ?_
    refine g_iconst (q := 30) (v := 0) dX7_parse_29 rfl rfl ?_
    refine g_put (q := 33) (h' := encX x_hs s_n s_sp s_sb s_sc s_f s_st v_n v_sp v_sb v_sc v_f v_st h_k h_s h_c g_k g_v g_p g_a g_t c_k c_t c_p 0 (r2.2.1) (r2.2.2.1) (r2.2.2.2.1) (r2.2.2.2.2) i_b w_l w_s x_e x_l cr tl) fp_X7_192 dX7_parse_30 rfl rfl (Nat.le_of_ble_eq_true rfl) (fun _ => ⟨rfl, rfl⟩) rfl ?_
    refine g_lload_n 2 (q := 34) dX7_parse_33 rfl rfl ?_
    refine g_ldc2_w (q := 37) kc_X7_106 dX7_parse_34 rfl ?_
    refine g_lcmp (q := 38) dX7_parse_37 rfl ?_
    refine g_if_ne (t := 52) (q := 41) dX7_parse_38 (by decide) rfl (fun c4 => ?_) (fun c4 => ?_)
    · rw [if_neg c4] at hf
      refine g_aload_n 0 (q := 53) dX7_parse_52 rfl rfl ?_
      refine g_iload_n 1 (q := 54) dX7_parse_53 rfl rfl ?_
      refine g_lload_n 2 (q := 55) dX7_parse_54 rfl rfl ?_
      obtain ⟨r5, e6, hf⟩ := Option.bind_eq_some_iff.mp hf
      refine g_callV (a := 0) (k2 := 0) (n2 := 0) (q := 58) (as := [.int a0, .long r2.1]) (st := []) (st1 := [.int r5.1]) tm_X7_store ml_X7_94 ti_X7_store rfl rfl dX7_parse_55 rfl (ev_X7_store e6) rfl rfl (Nat.le_of_ble_eq_true rfl) (by decide) rfl rfl (Or.inl (encX_len.trans encX_len.symm)) rfl ?_
      refine g_pop (q := 59) dX7_parse_58 rfl rfl ?_
      refine g_aload_n 0 (q := 60) dX7_parse_59 rfl rfl ?_
      refine g_get (q := 63) fl_X7_47 dX7_parse_60 rfl rfl rfl ?_
      refine g_get (q := 66) fl_X7_199 dX7_parse_63 rfl rfl rfl ?_
      have hf := Option.some.inj hf
      subst hf
      exact g_ireturn dX7_parse_66 rfl ⟨rfl, rfl⟩
    · rw [if_pos c4] at hf
      refine g_bipush (q := 43) (v := (-100)) dX7_parse_41 rfl rfl ?_
      refine g_aload_n 0 (q := 44) dX7_parse_43 rfl rfl ?_
      refine g_get (q := 47) fl_X7_47 dX7_parse_44 rfl rfl rfl ?_
      refine g_get (q := 50) fl_X7_196 dX7_parse_47 rfl rfl rfl ?_
      refine g_isub (q := 51) dX7_parse_50 rfl ?_
      have hf := Option.some.inj hf
      subst hf
      exact g_ireturn dX7_parse_51 rfl ⟨rfl, rfl⟩
  · rw [if_pos c1] at hf
    refine g_bipush (q := 9) (v := (-2)) dX7_parse_7 rfl rfl ?_
    have hf := Option.some.inj hf
    subst hf
    exact g_ireturn dX7_parse_9 rfl ⟨rfl, rfl⟩
def f_X7_applied (a0 : Int32) (a1 : Int64) (a2 : Int64)  : Int64 := (if a0 = 0 then (a1 &&& a2) else (if a0 = 1 then (a1 ||| a2) else (a1 ^^^ a2)))
set_option maxRecDepth 20000 in
set_option maxHeartbeats 4000000 in
theorem ev_X7_applied {l : Launch} {E : tEn}  {h : tHp} {a0 : Int32} {a1 : Int64} {a2 : Int64} : tEv l E yX7_applied cX7_applied 5 (some .long) 1 0 0 [.int a0, .long a1, .long a2] (h) (fun r h' => r = some (.long (f_X7_applied a0 a1 a2)) ∧ h' = h) := by
  refine tEv.of (own := RX7) (ini := false) (L := [(0, .int a0), (1, .long a1), (3, .long a2)]) (by decide +kernel) rfl (fun h9 => nomatch h9) rfl (Nat.le_of_ble_eq_true rfl) ?_
  obtain ⟨res, hf⟩ : ∃ z, f_X7_applied a0 a1 a2 = z := ⟨_, rfl⟩
  rw [hf]
  rw [f_X7_applied] at hf
  refine g_iload_n 0 (q := 1) dX7_applied_0 rfl rfl ?_
  refine g_if_ne (t := 8) (q := 4) dX7_applied_1 (by decide) rfl (fun c1 => ?_) (fun c1 => ?_)
  · rw [if_neg c1] at hf
    refine g_iload_n 0 (q := 9) dX7_applied_8 rfl rfl ?_
    refine g_iconst (q := 10) (v := 1) dX7_applied_9 rfl rfl ?_
    refine g_icmp_ne (t := 19) (q := 13) dX7_applied_10 (by decide) rfl (fun c2 => ?_) (fun c2 => ?_)
    · rw [if_neg c2] at hf
      refine g_lload_n 1 (q := 20) dX7_applied_19 rfl rfl ?_
      refine g_lload_n 2 (q := 21) dX7_applied_20 rfl rfl ?_
      refine g_lxor (q := 22) dX7_applied_21 rfl ?_
      subst hf
      exact g_lreturn dX7_applied_22 rfl ⟨rfl, rfl⟩
    · rw [if_pos c2] at hf
      refine g_lload_n 1 (q := 14) dX7_applied_13 rfl rfl ?_
      refine g_lload_n 2 (q := 15) dX7_applied_14 rfl rfl ?_
      refine g_lor (q := 16) dX7_applied_15 rfl ?_
      refine g_goto (t := 22) dX7_applied_16 (by decide) ?_
      subst hf
      exact g_lreturn dX7_applied_22 rfl ⟨rfl, rfl⟩
  · rw [if_pos c1] at hf
    refine g_lload_n 1 (q := 5) dX7_applied_4 rfl rfl ?_
    refine g_lload_n 2 (q := 6) dX7_applied_5 rfl rfl ?_
    refine g_land (q := 7) dX7_applied_6 rfl ?_
    subst hf
    exact g_lreturn dX7_applied_7 rfl ⟨rfl, rfl⟩
def f_X7_combine (a0 : Int32) (a1 : Int32) (a2 : Int32) (a3 : Int32) (s_f : List Int64) (h_k : Int32) (h_s : List Int32) (h_c : List Int64) : Option (Int32 × List Int64 × Int32 × List Int32 × List Int64) := (if (f_X7_isIndex a0 3) = 0 then some ((-2), s_f, h_k, h_s, h_c) else (if (f_X7_isSlot a1) = 0 then some ((-2), s_f, h_k, h_s, h_c) else (if (f_X7_isSlot a2) = 0 then some ((-2), s_f, h_k, h_s, h_c) else (if (f_X7_isSlot a3) = 0 then some ((-2), s_f, h_k, h_s, h_c) else (f_X6_holds a1 s_f).bind fun r5 => (if r5 = 0 then some ((-3), s_f, h_k, h_s, h_c) else (f_X6_holds a2 s_f).bind fun r8 => (if r8 = 0 then some ((-3), s_f, h_k, h_s, h_c) else (tld s_f a1).bind fun r11 => (tld s_f a2).bind fun r13 => (f_X7_store a3 (f_X7_applied a0 r11 r13) s_f h_k h_s h_c).bind fun r15 => some (r15.1, r15.2.1, r15.2.2.1, r15.2.2.2.1, r15.2.2.2.2)))))))
set_option maxRecDepth 20000 in
set_option maxHeartbeats 4000000 in
theorem ev_X7_combine {l : Launch} {E : tEn} {cr : Value} {tl : tHp} {x_hs : Int32} {s_n : Int32} {s_sp : Int64} {s_sb : Int64} {s_sc : Int32} {s_f : List Int64} {s_st : List Int32} {v_n : Int32} {v_sp : Int64} {v_sb : Int64} {v_sc : Int32} {v_f : List Int64} {v_st : List Int32} {h_k : Int32} {h_s : List Int32} {h_c : List Int64} {g_k : Int32} {g_v : Int32} {g_p : List Int32} {g_a : List Int32} {g_t : List Int32} {c_k : Int32} {c_t : List Int32} {c_p : List Int32} {i_l : Int32} {i_n : Int32} {i_f : Int64} {i_p : Int32} {i_o : Int32} {i_b : List Int32} {w_l : Int32} {w_s : List Int32} {x_e : List Int32} {x_l : List Int32} {a0 : Int32} {a1 : Int32} {a2 : Int32} {a3 : Int32} {res : Int32 × List Int64 × Int32 × List Int32 × List Int64} (hf : f_X7_combine a0 a1 a2 a3 s_f h_k h_s h_c = some res) : tEv l E yX7_combine cX7_combine 5 (some .int) 4 0 0 [.ref 0, .int a0, .int a1, .int a2, .int a3] (encX x_hs s_n s_sp s_sb s_sc s_f s_st v_n v_sp v_sb v_sc v_f v_st h_k h_s h_c g_k g_v g_p g_a g_t c_k c_t c_p i_l i_n i_f i_p i_o i_b w_l w_s x_e x_l cr tl) (fun r h' => r = some (.int res.1) ∧ h' = encX x_hs s_n s_sp s_sb s_sc (res.2.1) s_st v_n v_sp v_sb v_sc v_f v_st (res.2.2.1) (res.2.2.2.1) (res.2.2.2.2) g_k g_v g_p g_a g_t c_k c_t c_p i_l i_n i_f i_p i_o i_b w_l w_s x_e x_l cr tl) := by
  refine tEv.of (own := RX7) (ini := false) (L := [(0, .ref 0), (1, .int a0), (2, .int a1), (3, .int a2), (4, .int a3)]) (by decide +kernel) rfl (fun h9 => nomatch h9) rfl (Nat.le_of_ble_eq_true rfl) ?_
  rw [f_X7_combine] at hf
  refine g_iload_n 1 (q := 1) dX7_combine_0 rfl rfl ?_
  refine g_iconst (q := 2) (v := 3) dX7_combine_1 rfl rfl ?_
  refine g_callS (k2 := 0) (n2 := 0) (q := 5) (as := [.int a0, .int 3]) (st := []) (st1 := [.int (f_X7_isIndex a0 3)]) tm_X7_isIndex ml_X7_140 ts_X7_isIndex dX7_combine_2 rfl ev_X7_isIndex rfl rfl (Nat.le_of_ble_eq_true rfl) (by decide) rfl rfl (Or.inl rfl) rfl ?_
  refine g_if_eq (t := 30) (q := 8) dX7_combine_5 (by decide) rfl (fun c1 => ?_) (fun c1 => ?_)
  · rw [if_pos c1] at hf
    refine g_bipush (q := 32) (v := (-2)) dX7_combine_30 rfl rfl ?_
    have hf := Option.some.inj hf
    subst hf
    exact g_ireturn dX7_combine_32 rfl ⟨rfl, rfl⟩
  · rw [if_neg c1] at hf
    refine g_iload_n 2 (q := 9) dX7_combine_8 rfl rfl ?_
    refine g_callS (k2 := 0) (n2 := 0) (q := 12) (as := [.int a1]) (st := []) (st1 := [.int (f_X7_isSlot a1)]) tm_X7_isSlot ml_X7_86 ts_X7_isSlot dX7_combine_9 rfl ev_X7_isSlot rfl rfl (Nat.le_of_ble_eq_true rfl) (by decide) rfl rfl (Or.inl rfl) rfl ?_
    refine g_if_eq (t := 30) (q := 15) dX7_combine_12 (by decide) rfl (fun c2 => ?_) (fun c2 => ?_)
    · rw [if_pos c2] at hf
      refine g_bipush (q := 32) (v := (-2)) dX7_combine_30 rfl rfl ?_
      have hf := Option.some.inj hf
      subst hf
      exact g_ireturn dX7_combine_32 rfl ⟨rfl, rfl⟩
    · rw [if_neg c2] at hf
      refine g_iload_n 3 (q := 16) dX7_combine_15 rfl rfl ?_
      refine g_callS (k2 := 0) (n2 := 0) (q := 19) (as := [.int a2]) (st := []) (st1 := [.int (f_X7_isSlot a2)]) tm_X7_isSlot ml_X7_86 ts_X7_isSlot dX7_combine_16 rfl ev_X7_isSlot rfl rfl (Nat.le_of_ble_eq_true rfl) (by decide) rfl rfl (Or.inl rfl) rfl ?_
      refine g_if_eq (t := 30) (q := 22) dX7_combine_19 (by decide) rfl (fun c3 => ?_) (fun c3 => ?_)
      · rw [if_pos c3] at hf
        refine g_bipush (q := 32) (v := (-2)) dX7_combine_30 rfl rfl ?_
        have hf := Option.some.inj hf
        subst hf
        exact g_ireturn dX7_combine_32 rfl ⟨rfl, rfl⟩
      · rw [if_neg c3] at hf
        refine g_iload 4 (q := 24) dX7_combine_22 rfl rfl ?_
        refine g_callS (k2 := 0) (n2 := 0) (q := 27) (as := [.int a3]) (st := []) (st1 := [.int (f_X7_isSlot a3)]) tm_X7_isSlot ml_X7_86 ts_X7_isSlot dX7_combine_24 rfl ev_X7_isSlot rfl rfl (Nat.le_of_ble_eq_true rfl) (by decide) rfl rfl (Or.inl rfl) rfl ?_
        refine g_if_ne (t := 33) (q := 30) dX7_combine_27 (by decide) rfl (fun c4 => ?_) (fun c4 => ?_)
        · rw [if_neg c4] at hf
          refine g_aload_n 0 (q := 34) dX7_combine_33 rfl rfl ?_
          refine g_get (q := 37) fl_X7_10 dX7_combine_34 rfl rfl rfl ?_
          refine g_iload_n 2 (q := 38) dX7_combine_37 rfl rfl ?_
          obtain ⟨r5, e6, hf⟩ := Option.bind_eq_some_iff.mp hf
          refine g_callV (a := 1) (k2 := 0) (n2 := 0) (q := 41) (as := [.int a1]) (st := []) (st1 := [.int r5]) tm_X6_holds ml_X7_202 ti_X6_holds rfl rfl dX7_combine_38 rfl (ev_X6_holds e6) rfl rfl (Nat.le_of_ble_eq_true rfl) (by decide) rfl rfl (Or.inl rfl) rfl ?_
          refine g_if_eq (t := 55) (q := 44) dX7_combine_41 (by decide) rfl (fun c7 => ?_) (fun c7 => ?_)
          · rw [if_pos c7] at hf
            refine g_bipush (q := 57) (v := (-3)) dX7_combine_55 rfl rfl ?_
            have hf := Option.some.inj hf
            subst hf
            exact g_ireturn dX7_combine_57 rfl ⟨rfl, rfl⟩
          · rw [if_neg c7] at hf
            refine g_aload_n 0 (q := 45) dX7_combine_44 rfl rfl ?_
            refine g_get (q := 48) fl_X7_10 dX7_combine_45 rfl rfl rfl ?_
            refine g_iload_n 3 (q := 49) dX7_combine_48 rfl rfl ?_
            obtain ⟨r8, e9, hf⟩ := Option.bind_eq_some_iff.mp hf
            refine g_callV (a := 1) (k2 := 0) (n2 := 0) (q := 52) (as := [.int a2]) (st := []) (st1 := [.int r8]) tm_X6_holds ml_X7_202 ti_X6_holds rfl rfl dX7_combine_49 rfl (ev_X6_holds e9) rfl rfl (Nat.le_of_ble_eq_true rfl) (by decide) rfl rfl (Or.inl rfl) rfl ?_
            refine g_if_ne (t := 58) (q := 55) dX7_combine_52 (by decide) rfl (fun c10 => ?_) (fun c10 => ?_)
            · rw [if_neg c10] at hf
              refine g_aload_n 0 (q := 59) dX7_combine_58 rfl rfl ?_
              refine g_iload 4 (q := 61) dX7_combine_59 rfl rfl ?_
              refine g_iload_n 1 (q := 62) dX7_combine_61 rfl rfl ?_
              refine g_aload_n 0 (q := 63) dX7_combine_62 rfl rfl ?_
              refine g_get (q := 66) fl_X7_10 dX7_combine_63 rfl rfl rfl ?_
              refine g_get (q := 69) fl_X7_102 dX7_combine_66 rfl rfl rfl ?_
              refine g_iload_n 2 (q := 70) dX7_combine_69 rfl rfl ?_
              obtain ⟨r11, e12, hf⟩ := Option.bind_eq_some_iff.mp hf
              refine g_laload (q := 71) dX7_combine_70 rfl rfl e12 ?_
              refine g_aload_n 0 (q := 72) dX7_combine_71 rfl rfl ?_
              refine g_get (q := 75) fl_X7_10 dX7_combine_72 rfl rfl rfl ?_
              refine g_get (q := 78) fl_X7_102 dX7_combine_75 rfl rfl rfl ?_
              refine g_iload_n 3 (q := 79) dX7_combine_78 rfl rfl ?_
              obtain ⟨r13, e14, hf⟩ := Option.bind_eq_some_iff.mp hf
              refine g_laload (q := 80) dX7_combine_79 rfl rfl e14 ?_
              refine g_callS (k2 := 0) (n2 := 0) (q := 83) (as := [.int a0, .long r11, .long r13]) (st := [.int a3, .ref 0]) (st1 := [.long (f_X7_applied a0 r11 r13), .int a3, .ref 0]) tm_X7_applied ml_X7_205 ts_X7_applied dX7_combine_80 rfl ev_X7_applied rfl rfl (Nat.le_of_ble_eq_true rfl) (by decide) rfl rfl (Or.inl rfl) rfl ?_
              obtain ⟨r15, e16, hf⟩ := Option.bind_eq_some_iff.mp hf
              refine g_callV (a := 0) (k2 := 0) (n2 := 0) (q := 86) (as := [.int a3, .long (f_X7_applied a0 r11 r13)]) (st := []) (st1 := [.int r15.1]) tm_X7_store ml_X7_94 ti_X7_store rfl rfl dX7_combine_83 rfl (ev_X7_store e16) rfl rfl (Nat.le_of_ble_eq_true rfl) (by decide) rfl rfl (Or.inl (encX_len.trans encX_len.symm)) rfl ?_
              have hf := Option.some.inj hf
              subst hf
              exact g_ireturn dX7_combine_86 rfl ⟨rfl, rfl⟩
            · rw [if_pos c10] at hf
              refine g_bipush (q := 57) (v := (-3)) dX7_combine_55 rfl rfl ?_
              have hf := Option.some.inj hf
              subst hf
              exact g_ireturn dX7_combine_57 rfl ⟨rfl, rfl⟩
        · rw [if_pos c4] at hf
          refine g_bipush (q := 32) (v := (-2)) dX7_combine_30 rfl rfl ?_
          have hf := Option.some.inj hf
          subst hf
          exact g_ireturn dX7_combine_32 rfl ⟨rfl, rfl⟩
