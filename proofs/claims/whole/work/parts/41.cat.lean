/-! the catalog's constructor, openCatalog, the four methods that open it; written by wip/whole/gencat.py -/
def f_X0_build_L41  (K : Int32 → List Int64 → List Int32 → Option (Int32 × List Int64 × List Int32)) : Nat → Int32 → Int32 → List Int64 → List Int32 → Option (Int32 × List Int64 × List Int32)
  | 0, _, _, _, _ => none
  | fu + 1, v2, k_k, k_e, k_s => (if 32 ≤ v2 then K  k_k k_e k_s else (tst k_s v2 k_k).bind fun z6 => (f_X0_enterAll v2 k_k k_e z6).bind fun r8 => f_X0_build_L41 K fu (v2 + 1) (r8.1) (r8.2) z6)
def f_X0_build (k_k : Int32) (k_e : List Int64) (k_s : List Int32) : Option (Int32 × List Int64 × List Int32) := (f_X0_enter 0 0 0 k_k k_e).bind fun r1 => (f_X0_enter 4294967295 0 0 (r1.1) (r1.2)).bind fun r3 => f_X0_build_L41 (fun k10 k11 k12 => (f_X0_sort k10 k11).bind fun r13 => some (k10, r13, k12)) tFU 1 (r3.1) (r3.2) k_s
set_option maxRecDepth 20000 in
set_option maxHeartbeats 4000000 in
theorem ev_X0_build_L41 {l : Launch} {E : tEn} {cr : Value}  {x_hs : Int32} {s_n : Int32} {s_sp : Int64} {s_sb : Int64} {s_sc : Int32} {s_f : List Int64} {s_st : List Int32} {v_n : Int32} {v_sp : Int64} {v_sb : Int64} {v_sc : Int32} {v_f : List Int64} {v_st : List Int32} {h_k : Int32} {h_s : List Int32} {h_c : List Int64} {g_k : Int32} {g_v : Int32} {g_p : List Int32} {g_a : List Int32} {g_t : List Int32} {c_k : Int32} {c_t : List Int32} {c_p : List Int32} {i_l : Int32} {i_n : Int32} {i_f : Int64} {i_p : Int32} {i_o : Int32} {i_b : List Int32} {w_l : Int32} {w_s : List Int32} {x_e : List Int32} {x_l : List Int32}  {K : Int32 → List Int64 → List Int32 → Option (Int32 × List Int64 × List Int32)} (hK : ∀  (k_k : Int32) (k_e : List Int64) (k_s : List Int32) (res : Int32 × List Int64 × List Int32), K k_k k_e k_s = some res → tG l E RX0 cX0_init 3 none true 6 (fun r h' => r = none ∧ h' = encX x_hs s_n s_sp s_sb s_sc s_f s_st v_n v_sp v_sb v_sc v_f v_st h_k h_s h_c g_k g_v g_p g_a g_t c_k c_t c_p i_l i_n i_f i_p i_o i_b w_l w_s x_e x_l cr (tlC (res.1) (res.2.1) (res.2.2))) 0 0 66 [(0, .ref 23)] [] (encX x_hs s_n s_sp s_sb s_sc s_f s_st v_n v_sp v_sb v_sc v_f v_st h_k h_s h_c g_k g_v g_p g_a g_t c_k c_t c_p i_l i_n i_f i_p i_o i_b w_l w_s x_e x_l cr (tlC k_k k_e k_s))) :
    ∀ (fu : Nat) (v2 : Int32) (k_k : Int32) (k_e : List Int64) (k_s : List Int32) (res : Int32 × List Int64 × List Int32), f_X0_build_L41  K fu v2 k_k k_e k_s = some res → tG l E RX0 cX0_init 3 none true 6 (fun r h' => r = none ∧ h' = encX x_hs s_n s_sp s_sb s_sc s_f s_st v_n v_sp v_sb v_sc v_f v_st h_k h_s h_c g_k g_v g_p g_a g_t c_k c_t c_p i_l i_n i_f i_p i_o i_b w_l w_s x_e x_l cr (tlC (res.1) (res.2.1) (res.2.2))) 0 0 41 [(0, .ref 23), (1, .ref 25), (2, .int v2)] [] (encX x_hs s_n s_sp s_sb s_sc s_f s_st v_n v_sp v_sb v_sc v_f v_st h_k h_s h_c g_k g_v g_p g_a g_t c_k c_t c_p i_l i_n i_f i_p i_o i_b w_l w_s x_e x_l cr (tlC k_k k_e k_s)) := by
  intro fu
  induction fu with
  | zero => intro v2 k_k k_e k_s res hf; exact nomatch (show none = some res from hf)
  | succ fu ih =>
    intro v2 k_k k_e k_s res hf
    rw [f_X0_build_L41] at hf
    refine g_iload_n 2 (q := 42) dX0_init_41 rfl rfl ?_
    refine g_bipush (q := 44) (v := 32) dX0_init_42 rfl rfl ?_
    refine g_icmp_ge (t := 66) (q := 47) dX0_init_44 (by decide) rfl (fun c5 => ?_) (fun c5 => ?_)
    · rw [if_pos c5] at hf
      refine g_ls [0] rfl ?_
      exact hK _ _ _ _ hf
    · rw [if_neg c5] at hf
      refine g_aload_n 1 (q := 48) dX0_init_47 rfl rfl ?_
      refine g_iload_n 2 (q := 49) dX0_init_48 rfl rfl ?_
      refine g_aload_n 0 (q := 50) dX0_init_49 rfl rfl ?_
      refine g_get (q := 53) fl_X0_15 dX0_init_50 rfl rfl rfl ?_
      obtain ⟨z6, e7, hf⟩ := Option.bind_eq_some_iff.mp hf
      refine g_iastore (q := 54) (h' := encX x_hs s_n s_sp s_sb s_sc s_f s_st v_n v_sp v_sb v_sc v_f v_st h_k h_s h_c g_k g_v g_p g_a g_t c_k c_t c_p i_l i_n i_f i_p i_o i_b w_l w_s x_e x_l cr (tlC k_k k_e z6)) dX0_init_53 rfl rfl e7 rfl ?_
      refine g_aload_n 0 (q := 55) dX0_init_54 rfl rfl ?_
      refine g_iload_n 2 (q := 56) dX0_init_55 rfl rfl ?_
      refine g_aload_n 1 (q := 57) dX0_init_56 rfl rfl ?_
      obtain ⟨r8, e9, hf⟩ := Option.bind_eq_some_iff.mp hf
      refine g_callV (a := 23) (k2 := 0) (n2 := 0) (q := 60) (as := [.int v2, .ref 25]) (st := []) (st1 := []) tm_X0_enterAll ml_X0_25 ti_X0_enterAll rfl rfl dX0_init_57 rfl (ev_X0_enterAll e9) rfl rfl (Nat.le_of_ble_eq_true rfl) (by decide) rfl rfl (Or.inl (encC_len.trans encC_len.symm)) rfl ?_
      refine g_iinc 2 (q := 63) (v := (v2 + 1)) (L' := [(0, .ref 23), (1, .ref 25), (2, .int (v2 + 1))]) dX0_init_60 rfl rfl rfl (by decide) rfl ?_
      refine g_goto (t := 41) dX0_init_63 (by decide) ?_
      refine g_ls [0, 1, 2] rfl ?_
      exact ih _ _ _ _ _ hf
set_option maxRecDepth 20000 in
set_option maxHeartbeats 4000000 in
theorem ev_X0_tail {l : Launch} {E : tEn} {cr : Value} {x_hs : Int32} {s_n : Int32} {s_sp : Int64} {s_sb : Int64} {s_sc : Int32} {s_f : List Int64} {s_st : List Int32} {v_n : Int32} {v_sp : Int64} {v_sb : Int64} {v_sc : Int32} {v_f : List Int64} {v_st : List Int32} {h_k : Int32} {h_s : List Int32} {h_c : List Int64} {g_k : Int32} {g_v : Int32} {g_p : List Int32} {g_a : List Int32} {g_t : List Int32} {c_k : Int32} {c_t : List Int32} {c_p : List Int32} {i_l : Int32} {i_n : Int32} {i_f : Int64} {i_p : Int32} {i_o : Int32} {i_b : List Int32} {w_l : Int32} {w_s : List Int32} {x_e : List Int32} {x_l : List Int32} {k_k : Int32} {k_e : List Int64} {k_s : List Int32} {res : Int32 × List Int64 × List Int32} (hf : f_X0_build k_k k_e k_s = some res) : tG l E RX0 cX0_init 3 none true 6 (fun r h' => r = none ∧ h' = encX x_hs s_n s_sp s_sb s_sc s_f s_st v_n v_sp v_sb v_sc v_f v_st h_k h_s h_c g_k g_v g_p g_a g_t c_k c_t c_p i_l i_n i_f i_p i_o i_b w_l w_s x_e x_l cr (tlC (res.1) (res.2.1) (res.2.2))) 0 0 23 [(0, .ref 23), (1, .ref 25)] [] (encX x_hs s_n s_sp s_sb s_sc s_f s_st v_n v_sp v_sb v_sc v_f v_st h_k h_s h_c g_k g_v g_p g_a g_t c_k c_t c_p i_l i_n i_f i_p i_o i_b w_l w_s x_e x_l cr (tlC k_k k_e k_s)) := by
  rw [f_X0_build] at hf
  refine g_aload_n 0 (q := 24) dX0_init_23 rfl rfl ?_
  refine g_lconst (q := 25) (v := 0) dX0_init_24 rfl rfl ?_
  refine g_iconst (q := 26) (v := 0) dX0_init_25 rfl rfl ?_
  refine g_iconst (q := 27) (v := 0) dX0_init_26 rfl rfl ?_
  obtain ⟨r1, e2, hf⟩ := Option.bind_eq_some_iff.mp hf
  refine g_callV (a := 23) (k2 := 0) (n2 := 0) (q := 30) (as := [.long 0, .int 0, .int 0]) (st := []) (st1 := []) tm_X0_enter ml_X0_19 ti_X0_enter rfl rfl dX0_init_27 rfl (ev_X0_enter e2) rfl rfl (Nat.le_of_ble_eq_true rfl) (by decide) rfl rfl (Or.inl (encC_len.trans encC_len.symm)) rfl ?_
  refine g_aload_n 0 (q := 31) dX0_init_30 rfl rfl ?_
  refine g_ldc2_w (q := 34) kc_X0_23 dX0_init_31 rfl ?_
  refine g_iconst (q := 35) (v := 0) dX0_init_34 rfl rfl ?_
  refine g_iconst (q := 36) (v := 0) dX0_init_35 rfl rfl ?_
  obtain ⟨r3, e4, hf⟩ := Option.bind_eq_some_iff.mp hf
  refine g_callV (a := 23) (k2 := 0) (n2 := 0) (q := 39) (as := [.long 4294967295, .int 0, .int 0]) (st := []) (st1 := []) tm_X0_enter ml_X0_19 ti_X0_enter rfl rfl dX0_init_36 rfl (ev_X0_enter e4) rfl rfl (Nat.le_of_ble_eq_true rfl) (by decide) rfl rfl (Or.inl (encC_len.trans encC_len.symm)) rfl ?_
  refine g_iconst (q := 40) (v := 1) dX0_init_39 rfl rfl ?_
  refine g_istore_n (q := 41) (L' := [(0, .ref 23), (1, .ref 25), (2, .int 1)]) dX0_init_40 rfl (by decide) rfl ?_
  refine g_ls [0, 1, 2] rfl ?_
  refine ev_X0_build_L41 (fun k10 k11 k12 res hf => ?_) tFU _ _ _ _ res hf
  refine g_aload_n 0 (q := 67) dX0_init_66 rfl rfl ?_
  obtain ⟨r13, e14, hf⟩ := Option.bind_eq_some_iff.mp hf
  refine g_callV (a := 23) (k2 := 0) (n2 := 0) (q := 70) (as := []) (st := []) (st1 := []) tm_X0_sort ml_X0_29 ti_X0_sort rfl rfl dX0_init_67 rfl (ev_X0_sort e14) rfl rfl (Nat.le_of_ble_eq_true rfl) (by decide) rfl rfl (Or.inl (encC_len.trans encC_len.symm)) rfl ?_
  have hf := Option.some.inj hf
  subst hf
  exact g_return dX0_init_70 rfl ⟨rfl, rfl⟩
set_option maxRecDepth 20000 in
set_option maxHeartbeats 4000000 in
theorem ev_X0_init {l : Launch} {E : tEn} {x_hs : Int32} {s_n : Int32} {s_sp : Int64} {s_sb : Int64} {s_sc : Int32} {s_f : List Int64} {s_st : List Int32} {v_n : Int32} {v_sp : Int64} {v_sb : Int64} {v_sc : Int32} {v_f : List Int64} {v_st : List Int32} {h_k : Int32} {h_s : List Int32} {h_c : List Int64} {g_k : Int32} {g_v : Int32} {g_p : List Int32} {g_a : List Int32} {g_t : List Int32} {c_k : Int32} {c_t : List Int32} {c_p : List Int32} {i_l : Int32} {i_n : Int32} {i_f : Int64} {i_p : Int32} {i_o : Int32} {i_b : List Int32} {w_l : Int32} {w_s : List Int32} {x_e : List Int32} {x_l : List Int32} {res : Int32 × List Int64 × List Int32} (hf : f_X0_build 0 (List.replicate 839 0) (List.replicate 32 0) = some res) : tEv l E yX0_init cX0_init 3 none 6 2 871 [.ref 23] (encX x_hs s_n s_sp s_sb s_sc s_f s_st v_n v_sp v_sb v_sc v_f v_st h_k h_s h_c g_k g_v g_p g_a g_t c_k c_t c_p i_l i_n i_f i_p i_o i_b w_l w_s x_e x_l .null [.inl (0, [.null, .int 0])]) (fun r h' => r = none ∧ h' = encX x_hs s_n s_sp s_sb s_sc s_f s_st v_n v_sp v_sb v_sc v_f v_st h_k h_s h_c g_k g_v g_p g_a g_t c_k c_t c_p i_l i_n i_f i_p i_o i_b w_l w_s x_e x_l .null (tlC (res.1) (res.2.1) (res.2.2))) := by
  refine tEv.of (own := RX0) (ini := true) (L := [(0, .ref 23)]) (by decide +kernel) rfl (fun _ => rfl) rfl (Nat.le_of_ble_eq_true rfl) ?_
  refine g_aload_n 0 (q := 1) dX0_init_0 rfl rfl ?_
  refine g_objInit (q := 4) ol_X0_3 oi_inst oi_code dX0_init_1 rfl (by decide) (Nat.le_of_ble_eq_true rfl) ?_
  refine g_aload_n 0 (q := 5) dX0_init_4 rfl rfl ?_
  refine g_sipush (q := 8) (v := 839) dX0_init_5 rfl rfl ?_
  refine g_newarrJ (q := 10) (N := 839) (k' := 1) (n' := 32) (h' := encX x_hs s_n s_sp s_sb s_sc s_f s_st v_n v_sp v_sb v_sc v_f v_st h_k h_s h_c g_k g_v g_p g_a g_t c_k c_t c_p i_l i_n i_f i_p i_o i_b w_l w_s x_e x_l .null [.inl (0, [.null, .int 0]), .inr (.inr (.inl (List.replicate 839 0)))]) (a := 24) dX0_init_8 rfl (by decide) (by decide) (by decide) rfl rfl rfl rfl rfl ac_long ?_
  refine g_putF (q := 13) (h' := encX x_hs s_n s_sp s_sb s_sc s_f s_st v_n v_sp v_sb v_sc v_f v_st h_k h_s h_c g_k g_v g_p g_a g_t c_k c_t c_p i_l i_n i_f i_p i_o i_b w_l w_s x_e x_l .null [.inl (0, [.ref 24, .int 0]), .inr (.inr (.inl (List.replicate 839 0)))]) rfl fp_X0_11 dX0_init_10 rfl rfl (Nat.le_of_ble_eq_true rfl) (fun _ => ⟨rfl, rfl⟩) rfl ?_
  refine g_aload_n 0 (q := 14) dX0_init_13 rfl rfl ?_
  refine g_iconst (q := 15) (v := 0) dX0_init_14 rfl rfl ?_
  refine g_put (q := 18) (h' := encX x_hs s_n s_sp s_sb s_sc s_f s_st v_n v_sp v_sb v_sc v_f v_st h_k h_s h_c g_k g_v g_p g_a g_t c_k c_t c_p i_l i_n i_f i_p i_o i_b w_l w_s x_e x_l .null [.inl (0, [.ref 24, .int 0]), .inr (.inr (.inl (List.replicate 839 0)))]) fp_X0_15 dX0_init_15 rfl rfl (Nat.le_of_ble_eq_true rfl) (fun _ => ⟨rfl, rfl⟩) rfl ?_
  refine g_bipush (q := 20) (v := 32) dX0_init_18 rfl rfl ?_
  refine g_newarrI (q := 22) (N := 32) (k' := 0) (n' := 0) (h' := encX x_hs s_n s_sp s_sb s_sc s_f s_st v_n v_sp v_sb v_sc v_f v_st h_k h_s h_c g_k g_v g_p g_a g_t c_k c_t c_p i_l i_n i_f i_p i_o i_b w_l w_s x_e x_l .null (tlC 0 (List.replicate 839 0) (List.replicate 32 0))) (a := 25) dX0_init_20 rfl (by decide) (by decide) (by decide) rfl rfl rfl rfl rfl ac_int ?_
  refine g_astore_n (q := 23) (L' := [(0, .ref 23), (1, .ref 25)]) dX0_init_22 rfl (by decide) rfl ?_
  exact ev_X0_tail hf
set_option maxRecDepth 20000 in
set_option maxHeartbeats 4000000 in
theorem ev_open0 {l : Launch} {E : tEn} {x_hs : Int32} {s_n : Int32} {s_sp : Int64} {s_sb : Int64} {s_sc : Int32} {s_f : List Int64} {s_st : List Int32} {v_n : Int32} {v_sp : Int64} {v_sb : Int64} {v_sc : Int32} {v_f : List Int64} {v_st : List Int32} {h_k : Int32} {h_s : List Int32} {h_c : List Int64} {g_k : Int32} {g_v : Int32} {g_p : List Int32} {g_a : List Int32} {g_t : List Int32} {c_k : Int32} {c_t : List Int32} {c_p : List Int32} {i_l : Int32} {i_n : Int32} {i_f : Int64} {i_p : Int32} {i_o : Int32} {i_b : List Int32} {w_l : Int32} {w_s : List Int32} {x_e : List Int32} {x_l : List Int32} {res : Int32 × List Int64 × List Int32} (hf : f_X0_build 0 (List.replicate 839 0) (List.replicate 32 0) = some res) : tEv l E yX7_openCatalog cX7_openCatalog 1 (some (.object "ReadOnceRecognizer$Catalog")) 7 3 873 [.ref 0] (encX x_hs s_n s_sp s_sb s_sc s_f s_st v_n v_sp v_sb v_sc v_f v_st h_k h_s h_c g_k g_v g_p g_a g_t c_k c_t c_p i_l i_n i_f i_p i_o i_b w_l w_s x_e x_l .null []) (fun r h' => r = some (.ref 23) ∧ h' = encX x_hs s_n s_sp s_sb s_sc s_f s_st v_n v_sp v_sb v_sc v_f v_st h_k h_s h_c g_k g_v g_p g_a g_t c_k c_t c_p i_l i_n i_f i_p i_o i_b w_l w_s x_e x_l (.ref 23) (tlC res.1 res.2.1 res.2.2)) := by
  refine tEv.of (own := RX7) (ini := false) (L := [(0, .ref 0)]) (by decide +kernel) rfl (fun h9 => nomatch h9) rfl (Nat.le_of_ble_eq_true rfl) ?_
  refine g_aload_n 0 (q := 1) dX7_openCatalog_0 rfl rfl ?_
  refine g_get (q := 4) fl_X7_65 dX7_openCatalog_1 rfl rfl rfl ?_
  refine g_ifnonnullN (q := 7) dX7_openCatalog_4 rfl ?_
  refine g_aload_n 0 (q := 8) dX7_openCatalog_7 rfl rfl ?_
  refine g_new (q := 11) (k' := 2) (n' := 871) (h' := encX x_hs s_n s_sp s_sb s_sc s_f s_st v_n v_sp v_sb v_sc v_f v_st h_k h_s h_c g_k g_v g_p g_a g_t c_k c_t c_p i_l i_n i_f i_p i_o i_b w_l w_s x_e x_l .null [.inl (0, [.null, .int 0])]) (a := 23) fn_X7_244 dX7_openCatalog_8 rfl rfl rfl rfl rfl rfl ?_
  refine g_dup (q := 12) dX7_openCatalog_11 rfl rfl ?_
  refine g_callI (a := 23) (k2 := 0) (n2 := 0) (q := 15) (as := []) (st := [.ref 23, .ref 0]) (st1 := [.ref 23, .ref 0]) tm_X0_init ml_X7_306 ti_X0_init rfl dX7_openCatalog_12 rfl (ev_X0_init hf) rfl rfl (Nat.le_of_ble_eq_true rfl) (by decide) rfl rfl (Or.inr rfl) rfl ?_
  refine g_put (q := 18) (h' := encX x_hs s_n s_sp s_sb s_sc s_f s_st v_n v_sp v_sb v_sc v_f v_st h_k h_s h_c g_k g_v g_p g_a g_t c_k c_t c_p i_l i_n i_f i_p i_o i_b w_l w_s x_e x_l (.ref 23) (tlC res.1 res.2.1 res.2.2)) fp_X7_65 dX7_openCatalog_15 rfl rfl (Nat.le_of_ble_eq_true rfl) (fun _ => ⟨rfl, rfl⟩) rfl ?_
  refine g_aload_n 0 (q := 19) dX7_openCatalog_18 rfl rfl ?_
  refine g_get (q := 22) fl_X7_65 dX7_openCatalog_19 rfl rfl rfl ?_
  exact g_areturn dX7_openCatalog_22 rfl ⟨rfl, rfl⟩
set_option maxRecDepth 20000 in
set_option maxHeartbeats 4000000 in
theorem ev_open1 {l : Launch} {E : tEn} {x_hs : Int32} {s_n : Int32} {s_sp : Int64} {s_sb : Int64} {s_sc : Int32} {s_f : List Int64} {s_st : List Int32} {v_n : Int32} {v_sp : Int64} {v_sb : Int64} {v_sc : Int32} {v_f : List Int64} {v_st : List Int32} {h_k : Int32} {h_s : List Int32} {h_c : List Int64} {g_k : Int32} {g_v : Int32} {g_p : List Int32} {g_a : List Int32} {g_t : List Int32} {c_k : Int32} {c_t : List Int32} {c_p : List Int32} {i_l : Int32} {i_n : Int32} {i_f : Int64} {i_p : Int32} {i_o : Int32} {i_b : List Int32} {w_l : Int32} {w_s : List Int32} {x_e : List Int32} {x_l : List Int32} {k_k : Int32} {k_e : List Int64} {k_s : List Int32} : tEv l E yX7_openCatalog cX7_openCatalog 1 (some (.object "ReadOnceRecognizer$Catalog")) 7 3 873 [.ref 0] (encX x_hs s_n s_sp s_sb s_sc s_f s_st v_n v_sp v_sb v_sc v_f v_st h_k h_s h_c g_k g_v g_p g_a g_t c_k c_t c_p i_l i_n i_f i_p i_o i_b w_l w_s x_e x_l (.ref 23) (tlC k_k k_e k_s)) (fun r h' => r = some (.ref 23) ∧ h' = encX x_hs s_n s_sp s_sb s_sc s_f s_st v_n v_sp v_sb v_sc v_f v_st h_k h_s h_c g_k g_v g_p g_a g_t c_k c_t c_p i_l i_n i_f i_p i_o i_b w_l w_s x_e x_l (.ref 23) (tlC k_k k_e k_s)) := by
  refine tEv.of (own := RX7) (ini := false) (L := [(0, .ref 0)]) (by decide +kernel) rfl (fun h9 => nomatch h9) rfl (Nat.le_of_ble_eq_true rfl) ?_
  refine g_aload_n 0 (q := 1) dX7_openCatalog_0 rfl rfl ?_
  refine g_get (q := 4) fl_X7_65 dX7_openCatalog_1 rfl rfl rfl ?_
  refine g_ifnonnull (t := 18) dX7_openCatalog_4 (by decide) ?_
  refine g_aload_n 0 (q := 19) dX7_openCatalog_18 rfl rfl ?_
  refine g_get (q := 22) fl_X7_65 dX7_openCatalog_19 rfl rfl rfl ?_
  exact g_areturn dX7_openCatalog_22 rfl ⟨rfl, rfl⟩
def f_X7_extensions_L9 (s_n : Int32) (s_sp : Int64) (s_sb : Int64) (k_k : Int32) (k_e : List Int64) (K : Int32 → Option (Int32)) : Nat → Int32 → Int32 → Option (Int32)
  | 0, _, _ => none
  | fu + 1, v2, v3 => (if k_k ≤ v3 then K v2 else (f_X7_isExtension v3 s_n s_sp s_sb k_k k_e).bind fun r2 => (if r2 = 0 then f_X7_extensions_L9 s_n s_sp s_sb k_k k_e K fu v2 (v3 + 1) else f_X7_extensions_L9 s_n s_sp s_sb k_k k_e K fu (v2 + 1) (v3 + 1)))
def f_X7_extensions  (s_n : Int32) (s_sp : Int64) (s_sb : Int64) (k_k : Int32) (k_e : List Int64) : Option (Int32) := f_X7_extensions_L9 s_n s_sp s_sb k_k k_e (fun y5 => some y5) tFU 0 0
set_option maxRecDepth 20000 in
set_option maxHeartbeats 4000000 in
theorem ev_X7_extensions_L9 {l : Launch} {E : tEn}   {x_hs : Int32} {s_n : Int32} {s_sp : Int64} {s_sb : Int64} {s_sc : Int32} {s_f : List Int64} {s_st : List Int32} {v_n : Int32} {v_sp : Int64} {v_sb : Int64} {v_sc : Int32} {v_f : List Int64} {v_st : List Int32} {h_k : Int32} {h_s : List Int32} {h_c : List Int64} {g_k : Int32} {g_v : Int32} {g_p : List Int32} {g_a : List Int32} {g_t : List Int32} {c_k : Int32} {c_t : List Int32} {c_p : List Int32} {i_l : Int32} {i_n : Int32} {i_f : Int64} {i_p : Int32} {i_o : Int32} {i_b : List Int32} {w_l : Int32} {w_s : List Int32} {x_e : List Int32} {x_l : List Int32} {k_k : Int32} {k_e : List Int64} {k_s : List Int32}  {K : Int32 → Option (Int32)} (hK : ∀ (v2 : Int32)  (res : Int32), K v2 = some res → tG l E RX7 cX7_extensions 4 (some .int) false 8 (fun r h' => r = some (.int res) ∧ h' = encX x_hs s_n s_sp s_sb s_sc s_f s_st v_n v_sp v_sb v_sc v_f v_st h_k h_s h_c g_k g_v g_p g_a g_t c_k c_t c_p i_l i_n i_f i_p i_o i_b w_l w_s x_e x_l (.ref 23) (tlC k_k k_e k_s)) 0 0 35 [(2, .int v2)] [] (encX x_hs s_n s_sp s_sb s_sc s_f s_st v_n v_sp v_sb v_sc v_f v_st h_k h_s h_c g_k g_v g_p g_a g_t c_k c_t c_p i_l i_n i_f i_p i_o i_b w_l w_s x_e x_l (.ref 23) (tlC k_k k_e k_s))) :
    ∀ (fu : Nat) (v2 : Int32) (v3 : Int32) (res : Int32), f_X7_extensions_L9 s_n s_sp s_sb k_k k_e K fu v2 v3 = some res → tG l E RX7 cX7_extensions 4 (some .int) false 8 (fun r h' => r = some (.int res) ∧ h' = encX x_hs s_n s_sp s_sb s_sc s_f s_st v_n v_sp v_sb v_sc v_f v_st h_k h_s h_c g_k g_v g_p g_a g_t c_k c_t c_p i_l i_n i_f i_p i_o i_b w_l w_s x_e x_l (.ref 23) (tlC k_k k_e k_s)) 0 0 9 [(0, .ref 0), (1, .ref 23), (2, .int v2), (3, .int v3)] [] (encX x_hs s_n s_sp s_sb s_sc s_f s_st v_n v_sp v_sb v_sc v_f v_st h_k h_s h_c g_k g_v g_p g_a g_t c_k c_t c_p i_l i_n i_f i_p i_o i_b w_l w_s x_e x_l (.ref 23) (tlC k_k k_e k_s)) := by
  intro fu
  induction fu with
  | zero => intro v2 v3 res hf; exact nomatch (show none = some res from hf)
  | succ fu ih =>
    intro v2 v3 res hf
    rw [f_X7_extensions_L9] at hf
    refine g_iload_n 3 (q := 10) dX7_extensions_9 rfl rfl ?_
    refine g_aload_n 1 (q := 11) dX7_extensions_10 rfl rfl ?_
    refine g_get (q := 14) fl_X7_243 dX7_extensions_11 rfl rfl rfl ?_
    refine g_icmp_ge (t := 35) (q := 17) dX7_extensions_14 (by decide) rfl (fun c1 => ?_) (fun c1 => ?_)
    · rw [if_pos c1] at hf
      refine g_ls [2] rfl ?_
      exact hK _ _ hf
    · rw [if_neg c1] at hf
      refine g_aload_n 0 (q := 18) dX7_extensions_17 rfl rfl ?_
      refine g_aload_n 1 (q := 19) dX7_extensions_18 rfl rfl ?_
      refine g_iload_n 3 (q := 20) dX7_extensions_19 rfl rfl ?_
      obtain ⟨r2, e3, hf⟩ := Option.bind_eq_some_iff.mp hf
      refine g_callV (a := 0) (k2 := 0) (n2 := 0) (q := 23) (as := [.ref 23, .int v3]) (st := []) (st1 := [.int r2]) tm_X7_isExtension ml_X7_246 ti_X7_isExtension rfl rfl dX7_extensions_20 rfl (ev_X7_isExtension e3) rfl rfl (Nat.le_of_ble_eq_true rfl) (by decide) rfl rfl (Or.inl rfl) rfl ?_
      refine g_if_eq (t := 29) (q := 26) dX7_extensions_23 (by decide) rfl (fun c4 => ?_) (fun c4 => ?_)
      · rw [if_pos c4] at hf
        refine g_iinc 3 (q := 32) (v := (v3 + 1)) (L' := [(0, .ref 0), (1, .ref 23), (2, .int v2), (3, .int (v3 + 1))]) dX7_extensions_29 rfl rfl rfl (by decide) rfl ?_
        refine g_goto (t := 9) dX7_extensions_32 (by decide) ?_
        refine g_ls [0, 1, 2, 3] rfl ?_
        exact ih _ _ _ hf
      · rw [if_neg c4] at hf
        refine g_iinc 2 (q := 29) (v := (v2 + 1)) (L' := [(0, .ref 0), (1, .ref 23), (2, .int (v2 + 1)), (3, .int v3)]) dX7_extensions_26 rfl rfl rfl (by decide) rfl ?_
        refine g_iinc 3 (q := 32) (v := (v3 + 1)) (L' := [(0, .ref 0), (1, .ref 23), (2, .int (v2 + 1)), (3, .int (v3 + 1))]) dX7_extensions_29 rfl rfl rfl (by decide) rfl ?_
        refine g_goto (t := 9) dX7_extensions_32 (by decide) ?_
        refine g_ls [0, 1, 2, 3] rfl ?_
        exact ih _ _ _ hf
set_option maxRecDepth 20000 in
set_option maxHeartbeats 4000000 in
theorem ev_X7_extensions {l : Launch} {E : tEn} {cr : Value} {tl : tHp} {x_hs : Int32} {s_n : Int32} {s_sp : Int64} {s_sb : Int64} {s_sc : Int32} {s_f : List Int64} {s_st : List Int32} {v_n : Int32} {v_sp : Int64} {v_sb : Int64} {v_sc : Int32} {v_f : List Int64} {v_st : List Int32} {h_k : Int32} {h_s : List Int32} {h_c : List Int64} {g_k : Int32} {g_v : Int32} {g_p : List Int32} {g_a : List Int32} {g_t : List Int32} {c_k : Int32} {c_t : List Int32} {c_p : List Int32} {i_l : Int32} {i_n : Int32} {i_f : Int64} {i_p : Int32} {i_o : Int32} {i_b : List Int32} {w_l : Int32} {w_s : List Int32} {x_e : List Int32} {x_l : List Int32} {k_k : Int32} {k_e : List Int64} {k_s : List Int32}  {res : Int32} (hop : tEv l E yX7_openCatalog cX7_openCatalog 1 (some (.object "ReadOnceRecognizer$Catalog")) 7 3 873 [.ref 0] (encX x_hs s_n s_sp s_sb s_sc s_f s_st v_n v_sp v_sb v_sc v_f v_st h_k h_s h_c g_k g_v g_p g_a g_t c_k c_t c_p i_l i_n i_f i_p i_o i_b w_l w_s x_e x_l cr tl) (fun r h' => r = some (.ref 23) ∧ h' = encX x_hs s_n s_sp s_sb s_sc s_f s_st v_n v_sp v_sb v_sc v_f v_st h_k h_s h_c g_k g_v g_p g_a g_t c_k c_t c_p i_l i_n i_f i_p i_o i_b w_l w_s x_e x_l (.ref 23) (tlC k_k k_e k_s))) (hf : f_X7_extensions s_n s_sp s_sb k_k k_e = some res) : tEv l E yX7_extensions cX7_extensions 4 (some .int) 8 3 873 [.ref 0] (encX x_hs s_n s_sp s_sb s_sc s_f s_st v_n v_sp v_sb v_sc v_f v_st h_k h_s h_c g_k g_v g_p g_a g_t c_k c_t c_p i_l i_n i_f i_p i_o i_b w_l w_s x_e x_l cr tl) (fun r h' => r = some (.int res) ∧ h' = encX x_hs s_n s_sp s_sb s_sc s_f s_st v_n v_sp v_sb v_sc v_f v_st h_k h_s h_c g_k g_v g_p g_a g_t c_k c_t c_p i_l i_n i_f i_p i_o i_b w_l w_s x_e x_l (.ref 23) (tlC k_k k_e k_s)) := by
  refine tEv.of (own := RX7) (ini := false) (L := [(0, .ref 0)]) (by decide +kernel) rfl (fun h9 => nomatch h9) rfl (Nat.le_of_ble_eq_true rfl) ?_
  rw [f_X7_extensions] at hf
  refine g_aload_n 0 (q := 1) dX7_extensions_0 rfl rfl ?_
  refine g_callV (a := 0) (k2 := 0) (n2 := 0) (q := 4) (as := []) (st := []) (st1 := [.ref 23]) tm_X7_openCatalog ml_X7_239 ti_X7_openCatalog rfl rfl dX7_extensions_1 rfl hop rfl rfl (Nat.le_of_ble_eq_true rfl) (by decide) rfl rfl (Or.inr rfl) rfl ?_
  refine g_astore_n (q := 5) (L' := [(0, .ref 0), (1, .ref 23)]) dX7_extensions_4 rfl (by decide) rfl ?_
  refine g_iconst (q := 6) (v := 0) dX7_extensions_5 rfl rfl ?_
  refine g_istore_n (q := 7) (L' := [(0, .ref 0), (1, .ref 23), (2, .int 0)]) dX7_extensions_6 rfl (by decide) rfl ?_
  refine g_iconst (q := 8) (v := 0) dX7_extensions_7 rfl rfl ?_
  refine g_istore_n (q := 9) (L' := [(0, .ref 0), (1, .ref 23), (2, .int 0), (3, .int 0)]) dX7_extensions_8 rfl (by decide) rfl ?_
  refine g_ls [0, 1, 2, 3] rfl ?_
  refine ev_X7_extensions_L9 (fun y5 res hf => ?_) tFU _ _ res hf
  refine g_iload_n 0 (q := 36) dX7_extensions_35 rfl rfl ?_
  have hf := Option.some.inj hf
  subst hf
  exact g_ireturn dX7_extensions_36 rfl ⟨rfl, rfl⟩
def f_X7_extension_L10 (w1 : Int32) (s_n : Int32) (s_sp : Int64) (s_sb : Int64) (k_k : Int32) (k_e : List Int64) (K : Option (Int64)) : Nat → Int32 → Int32 → Option (Int64)
  | 0, _, _ => none
  | fu + 1, v3, v4 => (if k_k ≤ v4 then K else (f_X7_isExtension v4 s_n s_sp s_sb k_k k_e).bind fun r2 => (if r2 = 0 then f_X7_extension_L10 w1 s_n s_sp s_sb k_k k_e K fu v3 (v4 + 1) else (if v3 = w1 then (f_X0_tableAt v4 k_k k_e).bind fun r6 => some (r6 &&& (f_X7_fullTable s_n)) else f_X7_extension_L10 w1 s_n s_sp s_sb k_k k_e K fu (v3 + 1) (v4 + 1))))
def f_X7_extension (a0 : Int32) (s_n : Int32) (s_sp : Int64) (s_sb : Int64) (k_k : Int32) (k_e : List Int64) : Option (Int64) := f_X7_extension_L10 a0 s_n s_sp s_sb k_k k_e (some (-1)) tFU 0 0
set_option maxRecDepth 20000 in
set_option maxHeartbeats 4000000 in
theorem ev_X7_extension_L10 {l : Launch} {E : tEn}   {x_hs : Int32} {s_n : Int32} {s_sp : Int64} {s_sb : Int64} {s_sc : Int32} {s_f : List Int64} {s_st : List Int32} {v_n : Int32} {v_sp : Int64} {v_sb : Int64} {v_sc : Int32} {v_f : List Int64} {v_st : List Int32} {h_k : Int32} {h_s : List Int32} {h_c : List Int64} {g_k : Int32} {g_v : Int32} {g_p : List Int32} {g_a : List Int32} {g_t : List Int32} {c_k : Int32} {c_t : List Int32} {c_p : List Int32} {i_l : Int32} {i_n : Int32} {i_f : Int64} {i_p : Int32} {i_o : Int32} {i_b : List Int32} {w_l : Int32} {w_s : List Int32} {x_e : List Int32} {x_l : List Int32} {k_k : Int32} {k_e : List Int64} {k_s : List Int32} {w1 : Int32} {K : Option (Int64)} (hK : ∀   (res : Int64), K  = some res → tG l E RX7 cX7_extension 5 (some .long) false 8 (fun r h' => r = some (.long res) ∧ h' = encX x_hs s_n s_sp s_sb s_sc s_f s_st v_n v_sp v_sb v_sc v_f v_st h_k h_s h_c g_k g_v g_p g_a g_t c_k c_t c_p i_l i_n i_f i_p i_o i_b w_l w_s x_e x_l (.ref 23) (tlC k_k k_e k_s)) 0 0 61 [] [] (encX x_hs s_n s_sp s_sb s_sc s_f s_st v_n v_sp v_sb v_sc v_f v_st h_k h_s h_c g_k g_v g_p g_a g_t c_k c_t c_p i_l i_n i_f i_p i_o i_b w_l w_s x_e x_l (.ref 23) (tlC k_k k_e k_s))) :
    ∀ (fu : Nat) (v3 : Int32) (v4 : Int32) (res : Int64), f_X7_extension_L10 w1 s_n s_sp s_sb k_k k_e K fu v3 v4 = some res → tG l E RX7 cX7_extension 5 (some .long) false 8 (fun r h' => r = some (.long res) ∧ h' = encX x_hs s_n s_sp s_sb s_sc s_f s_st v_n v_sp v_sb v_sc v_f v_st h_k h_s h_c g_k g_v g_p g_a g_t c_k c_t c_p i_l i_n i_f i_p i_o i_b w_l w_s x_e x_l (.ref 23) (tlC k_k k_e k_s)) 0 0 10 [(0, .ref 0), (1, .int w1), (2, .ref 23), (3, .int v3), (4, .int v4)] [] (encX x_hs s_n s_sp s_sb s_sc s_f s_st v_n v_sp v_sb v_sc v_f v_st h_k h_s h_c g_k g_v g_p g_a g_t c_k c_t c_p i_l i_n i_f i_p i_o i_b w_l w_s x_e x_l (.ref 23) (tlC k_k k_e k_s)) := by
  intro fu
  induction fu with
  | zero => intro v3 v4 res hf; exact nomatch (show none = some res from hf)
  | succ fu ih =>
    intro v3 v4 res hf
    rw [f_X7_extension_L10] at hf
    refine g_iload 4 (q := 12) dX7_extension_10 rfl rfl ?_
    refine g_aload_n 2 (q := 13) dX7_extension_12 rfl rfl ?_
    refine g_get (q := 16) fl_X7_243 dX7_extension_13 rfl rfl rfl ?_
    refine g_icmp_ge (t := 61) (q := 19) dX7_extension_16 (by decide) rfl (fun c1 => ?_) (fun c1 => ?_)
    · rw [if_pos c1] at hf
      refine g_ls [] rfl ?_
      exact hK _ hf
    · rw [if_neg c1] at hf
      refine g_aload_n 0 (q := 20) dX7_extension_19 rfl rfl ?_
      refine g_aload_n 2 (q := 21) dX7_extension_20 rfl rfl ?_
      refine g_iload 4 (q := 23) dX7_extension_21 rfl rfl ?_
      obtain ⟨r2, e3, hf⟩ := Option.bind_eq_some_iff.mp hf
      refine g_callV (a := 0) (k2 := 0) (n2 := 0) (q := 26) (as := [.ref 23, .int v4]) (st := []) (st1 := [.int r2]) tm_X7_isExtension ml_X7_246 ti_X7_isExtension rfl rfl dX7_extension_23 rfl (ev_X7_isExtension e3) rfl rfl (Nat.le_of_ble_eq_true rfl) (by decide) rfl rfl (Or.inl rfl) rfl ?_
      refine g_if_eq (t := 55) (q := 29) dX7_extension_26 (by decide) rfl (fun c4 => ?_) (fun c4 => ?_)
      · rw [if_pos c4] at hf
        refine g_iinc 4 (q := 58) (v := (v4 + 1)) (L' := [(0, .ref 0), (1, .int w1), (2, .ref 23), (3, .int v3), (4, .int (v4 + 1))]) dX7_extension_55 rfl rfl rfl (by decide) rfl ?_
        refine g_goto (t := 10) dX7_extension_58 (by decide) ?_
        refine g_ls [0, 1, 2, 3, 4] rfl ?_
        exact ih _ _ _ hf
      · rw [if_neg c4] at hf
        refine g_iload_n 3 (q := 30) dX7_extension_29 rfl rfl ?_
        refine g_iload_n 1 (q := 31) dX7_extension_30 rfl rfl ?_
        refine g_icmp_ne (t := 52) (q := 34) dX7_extension_31 (by decide) rfl (fun c5 => ?_) (fun c5 => ?_)
        · rw [if_neg c5] at hf
          refine g_iinc 3 (q := 55) (v := (v3 + 1)) (L' := [(0, .ref 0), (1, .int w1), (2, .ref 23), (3, .int (v3 + 1)), (4, .int v4)]) dX7_extension_52 rfl rfl rfl (by decide) rfl ?_
          refine g_iinc 4 (q := 58) (v := (v4 + 1)) (L' := [(0, .ref 0), (1, .int w1), (2, .ref 23), (3, .int (v3 + 1)), (4, .int (v4 + 1))]) dX7_extension_55 rfl rfl rfl (by decide) rfl ?_
          refine g_goto (t := 10) dX7_extension_58 (by decide) ?_
          refine g_ls [0, 1, 2, 3, 4] rfl ?_
          exact ih _ _ _ hf
        · rw [if_pos c5] at hf
          refine g_aload_n 2 (q := 35) dX7_extension_34 rfl rfl ?_
          refine g_iload 4 (q := 37) dX7_extension_35 rfl rfl ?_
          obtain ⟨r6, e7, hf⟩ := Option.bind_eq_some_iff.mp hf
          refine g_callV (a := 23) (k2 := 0) (n2 := 0) (q := 40) (as := [.int v4]) (st := []) (st1 := [.long r6]) tm_X0_tableAt ml_X7_250 ti_X0_tableAt rfl rfl dX7_extension_37 rfl (ev_X0_tableAt e7) rfl rfl (Nat.le_of_ble_eq_true rfl) (by decide) rfl rfl (Or.inl rfl) rfl ?_
          refine g_aload_n 0 (q := 41) dX7_extension_40 rfl rfl ?_
          refine g_get (q := 44) fl_X7_10 dX7_extension_41 rfl rfl rfl ?_
          refine g_get (q := 47) fl_X7_75 dX7_extension_44 rfl rfl rfl ?_
          refine g_callS (k2 := 0) (n2 := 0) (q := 50) (as := [.int s_n]) (st := [.long r6]) (st1 := [.long (f_X7_fullTable s_n), .long r6]) tm_X7_fullTable ml_X7_90 ts_X7_fullTable dX7_extension_47 rfl ev_X7_fullTable rfl rfl (Nat.le_of_ble_eq_true rfl) (by decide) rfl rfl (Or.inl rfl) rfl ?_
          refine g_land (q := 51) dX7_extension_50 rfl ?_
          have hf := Option.some.inj hf
          subst hf
          exact g_lreturn dX7_extension_51 rfl ⟨rfl, rfl⟩
set_option maxRecDepth 20000 in
set_option maxHeartbeats 4000000 in
theorem ev_X7_extension {l : Launch} {E : tEn} {cr : Value} {tl : tHp} {x_hs : Int32} {s_n : Int32} {s_sp : Int64} {s_sb : Int64} {s_sc : Int32} {s_f : List Int64} {s_st : List Int32} {v_n : Int32} {v_sp : Int64} {v_sb : Int64} {v_sc : Int32} {v_f : List Int64} {v_st : List Int32} {h_k : Int32} {h_s : List Int32} {h_c : List Int64} {g_k : Int32} {g_v : Int32} {g_p : List Int32} {g_a : List Int32} {g_t : List Int32} {c_k : Int32} {c_t : List Int32} {c_p : List Int32} {i_l : Int32} {i_n : Int32} {i_f : Int64} {i_p : Int32} {i_o : Int32} {i_b : List Int32} {w_l : Int32} {w_s : List Int32} {x_e : List Int32} {x_l : List Int32} {k_k : Int32} {k_e : List Int64} {k_s : List Int32} {a0 : Int32} {res : Int64} (hop : tEv l E yX7_openCatalog cX7_openCatalog 1 (some (.object "ReadOnceRecognizer$Catalog")) 7 3 873 [.ref 0] (encX x_hs s_n s_sp s_sb s_sc s_f s_st v_n v_sp v_sb v_sc v_f v_st h_k h_s h_c g_k g_v g_p g_a g_t c_k c_t c_p i_l i_n i_f i_p i_o i_b w_l w_s x_e x_l cr tl) (fun r h' => r = some (.ref 23) ∧ h' = encX x_hs s_n s_sp s_sb s_sc s_f s_st v_n v_sp v_sb v_sc v_f v_st h_k h_s h_c g_k g_v g_p g_a g_t c_k c_t c_p i_l i_n i_f i_p i_o i_b w_l w_s x_e x_l (.ref 23) (tlC k_k k_e k_s))) (hf : f_X7_extension a0 s_n s_sp s_sb k_k k_e = some res) : tEv l E yX7_extension cX7_extension 5 (some .long) 8 3 873 [.ref 0, .int a0] (encX x_hs s_n s_sp s_sb s_sc s_f s_st v_n v_sp v_sb v_sc v_f v_st h_k h_s h_c g_k g_v g_p g_a g_t c_k c_t c_p i_l i_n i_f i_p i_o i_b w_l w_s x_e x_l cr tl) (fun r h' => r = some (.long res) ∧ h' = encX x_hs s_n s_sp s_sb s_sc s_f s_st v_n v_sp v_sb v_sc v_f v_st h_k h_s h_c g_k g_v g_p g_a g_t c_k c_t c_p i_l i_n i_f i_p i_o i_b w_l w_s x_e x_l (.ref 23) (tlC k_k k_e k_s)) := by
  refine tEv.of (own := RX7) (ini := false) (L := [(0, .ref 0), (1, .int a0)]) (by decide +kernel) rfl (fun h9 => nomatch h9) rfl (Nat.le_of_ble_eq_true rfl) ?_
  rw [f_X7_extension] at hf
  refine g_aload_n 0 (q := 1) dX7_extension_0 rfl rfl ?_
  refine g_callV (a := 0) (k2 := 0) (n2 := 0) (q := 4) (as := []) (st := []) (st1 := [.ref 23]) tm_X7_openCatalog ml_X7_239 ti_X7_openCatalog rfl rfl dX7_extension_1 rfl hop rfl rfl (Nat.le_of_ble_eq_true rfl) (by decide) rfl rfl (Or.inr rfl) rfl ?_
  refine g_astore_n (q := 5) (L' := [(0, .ref 0), (1, .int a0), (2, .ref 23)]) dX7_extension_4 rfl (by decide) rfl ?_
  refine g_iconst (q := 6) (v := 0) dX7_extension_5 rfl rfl ?_
  refine g_istore_n (q := 7) (L' := [(0, .ref 0), (1, .int a0), (2, .ref 23), (3, .int 0)]) dX7_extension_6 rfl (by decide) rfl ?_
  refine g_iconst (q := 8) (v := 0) dX7_extension_7 rfl rfl ?_
  refine g_istore (q := 10) (L' := [(0, .ref 0), (1, .int a0), (2, .ref 23), (3, .int 0), (4, .int 0)]) dX7_extension_8 rfl (by decide) rfl ?_
  refine g_ls [0, 1, 2, 3, 4] rfl ?_
  refine ev_X7_extension_L10 (fun  res hf => ?_) tFU _ _ res hf
  refine g_ldc2_w (q := 64) kc_X7_106 dX7_extension_61 rfl ?_
  have hf := Option.some.inj hf
  subst hf
  exact g_lreturn dX7_extension_64 rfl ⟨rfl, rfl⟩
def f_X7_simplestExtension_L16 (s_n : Int32) (s_sp : Int64) (s_sb : Int64) (k_k : Int32) (k_e : List Int64) (K : Int64 → Option (Int64)) : Nat → Int64 → Int32 → Int32 → Option (Int64)
  | 0, _, _, _ => none
  | fu + 1, v2, v4, v5 => (if k_k ≤ v5 then K v2 else (f_X0_supportAt v5 k_k k_e).bind fun r2 => (if v4 ≤ (f_J6_bitCount_0f7a4 r2) then f_X7_simplestExtension_L16 s_n s_sp s_sb k_k k_e K fu v2 v4 (v5 + 1) else (f_X7_isExtension v5 s_n s_sp s_sb k_k k_e).bind fun r5 => (if r5 = 0 then f_X7_simplestExtension_L16 s_n s_sp s_sb k_k k_e K fu v2 v4 (v5 + 1) else (f_X0_tableAt v5 k_k k_e).bind fun r8 => f_X7_simplestExtension_L16 s_n s_sp s_sb k_k k_e K fu (r8 &&& (f_X7_fullTable s_n)) (f_J6_bitCount_0f7a4 r2) (v5 + 1))))
def f_X7_simplestExtension  (s_n : Int32) (s_sp : Int64) (s_sb : Int64) (k_k : Int32) (k_e : List Int64) : Option (Int64) := f_X7_simplestExtension_L16 s_n s_sp s_sb k_k k_e (fun y10 => some y10) tFU (-1) 6 0
set_option maxRecDepth 20000 in
set_option maxHeartbeats 4000000 in
theorem ev_X7_simplestExtension_L16 {l : Launch} {E : tEn}   {x_hs : Int32} {s_n : Int32} {s_sp : Int64} {s_sb : Int64} {s_sc : Int32} {s_f : List Int64} {s_st : List Int32} {v_n : Int32} {v_sp : Int64} {v_sb : Int64} {v_sc : Int32} {v_f : List Int64} {v_st : List Int32} {h_k : Int32} {h_s : List Int32} {h_c : List Int64} {g_k : Int32} {g_v : Int32} {g_p : List Int32} {g_a : List Int32} {g_t : List Int32} {c_k : Int32} {c_t : List Int32} {c_p : List Int32} {i_l : Int32} {i_n : Int32} {i_f : Int64} {i_p : Int32} {i_o : Int32} {i_b : List Int32} {w_l : Int32} {w_s : List Int32} {x_e : List Int32} {x_l : List Int32} {k_k : Int32} {k_e : List Int64} {k_s : List Int32}  {K : Int64 → Option (Int64)} (hK : ∀ (v2 : Int64)  (res : Int64), K v2 = some res → tG l E RX7 cX7_simplestExtension 7 (some .long) false 8 (fun r h' => r = some (.long res) ∧ h' = encX x_hs s_n s_sp s_sb s_sc s_f s_st v_n v_sp v_sb v_sc v_f v_st h_k h_s h_c g_k g_v g_p g_a g_t c_k c_t c_p i_l i_n i_f i_p i_o i_b w_l w_s x_e x_l (.ref 23) (tlC k_k k_e k_s)) 0 0 81 [(2, .long v2)] [] (encX x_hs s_n s_sp s_sb s_sc s_f s_st v_n v_sp v_sb v_sc v_f v_st h_k h_s h_c g_k g_v g_p g_a g_t c_k c_t c_p i_l i_n i_f i_p i_o i_b w_l w_s x_e x_l (.ref 23) (tlC k_k k_e k_s))) :
    ∀ (fu : Nat) (v2 : Int64) (v4 : Int32) (v5 : Int32) (res : Int64), f_X7_simplestExtension_L16 s_n s_sp s_sb k_k k_e K fu v2 v4 v5 = some res → tG l E RX7 cX7_simplestExtension 7 (some .long) false 8 (fun r h' => r = some (.long res) ∧ h' = encX x_hs s_n s_sp s_sb s_sc s_f s_st v_n v_sp v_sb v_sc v_f v_st h_k h_s h_c g_k g_v g_p g_a g_t c_k c_t c_p i_l i_n i_f i_p i_o i_b w_l w_s x_e x_l (.ref 23) (tlC k_k k_e k_s)) 0 0 16 [(0, .ref 0), (1, .ref 23), (2, .long v2), (4, .int v4), (5, .int v5)] [] (encX x_hs s_n s_sp s_sb s_sc s_f s_st v_n v_sp v_sb v_sc v_f v_st h_k h_s h_c g_k g_v g_p g_a g_t c_k c_t c_p i_l i_n i_f i_p i_o i_b w_l w_s x_e x_l (.ref 23) (tlC k_k k_e k_s)) := by
  intro fu
  induction fu with
  | zero => intro v2 v4 v5 res hf; exact nomatch (show none = some res from hf)
  | succ fu ih =>
    intro v2 v4 v5 res hf
    rw [f_X7_simplestExtension_L16] at hf
    refine g_iload 4 (q := 18) dX7_simplestExtension_16 rfl rfl ?_
    refine g_aload_n 1 (q := 19) dX7_simplestExtension_18 rfl rfl ?_
    refine g_get (q := 22) fl_X7_243 dX7_simplestExtension_19 rfl rfl rfl ?_
    refine g_icmp_ge (t := 81) (q := 25) dX7_simplestExtension_22 (by decide) rfl (fun c1 => ?_) (fun c1 => ?_)
    · rw [if_pos c1] at hf
      refine g_ls [2] rfl ?_
      exact hK _ _ hf
    · rw [if_neg c1] at hf
      refine g_aload_n 1 (q := 26) dX7_simplestExtension_25 rfl rfl ?_
      refine g_iload 4 (q := 28) dX7_simplestExtension_26 rfl rfl ?_
      obtain ⟨r2, e3, hf⟩ := Option.bind_eq_some_iff.mp hf
      refine g_callV (a := 23) (k2 := 0) (n2 := 0) (q := 31) (as := [.int v5]) (st := []) (st1 := [.int r2]) tm_X0_supportAt ml_X7_253 ti_X0_supportAt rfl rfl dX7_simplestExtension_28 rfl (ev_X0_supportAt e3) rfl rfl (Nat.le_of_ble_eq_true rfl) (by decide) rfl rfl (Or.inl rfl) rfl ?_
      refine g_callS (k2 := 0) (n2 := 0) (q := 34) (as := [.int r2]) (st := []) (st1 := [.int (f_J6_bitCount_0f7a4 r2)]) tm_J6_bitCount_0f7a4 ml_X7_256 ts_J6_bitCount_0f7a4 dX7_simplestExtension_31 rfl ev_J6_bitCount_0f7a4 rfl rfl (Nat.le_of_ble_eq_true rfl) (by decide) rfl rfl (Or.inl rfl) rfl ?_
      refine g_istore (q := 36) (L' := [(0, .ref 0), (1, .ref 23), (2, .long v2), (4, .int v4), (5, .int v5), (6, .int (f_J6_bitCount_0f7a4 r2))]) dX7_simplestExtension_34 rfl (by decide) rfl ?_
      refine g_iload 5 (q := 38) dX7_simplestExtension_36 rfl rfl ?_
      refine g_iload 3 (q := 40) dX7_simplestExtension_38 rfl rfl ?_
      refine g_icmp_ge (t := 75) (q := 43) dX7_simplestExtension_40 (by decide) rfl (fun c4 => ?_) (fun c4 => ?_)
      · rw [if_pos c4] at hf
        refine g_iinc 4 (q := 78) (v := (v5 + 1)) (L' := [(0, .ref 0), (1, .ref 23), (2, .long v2), (4, .int v4), (5, .int (v5 + 1)), (6, .int (f_J6_bitCount_0f7a4 r2))]) dX7_simplestExtension_75 rfl rfl rfl (by decide) rfl ?_
        refine g_goto (t := 16) dX7_simplestExtension_78 (by decide) ?_
        refine g_ls [0, 1, 2, 3, 4] rfl ?_
        exact ih _ _ _ _ hf
      · rw [if_neg c4] at hf
        refine g_aload_n 0 (q := 44) dX7_simplestExtension_43 rfl rfl ?_
        refine g_aload_n 1 (q := 45) dX7_simplestExtension_44 rfl rfl ?_
        refine g_iload 4 (q := 47) dX7_simplestExtension_45 rfl rfl ?_
        obtain ⟨r5, e6, hf⟩ := Option.bind_eq_some_iff.mp hf
        refine g_callV (a := 0) (k2 := 0) (n2 := 0) (q := 50) (as := [.ref 23, .int v5]) (st := []) (st1 := [.int r5]) tm_X7_isExtension ml_X7_246 ti_X7_isExtension rfl rfl dX7_simplestExtension_47 rfl (ev_X7_isExtension e6) rfl rfl (Nat.le_of_ble_eq_true rfl) (by decide) rfl rfl (Or.inl rfl) rfl ?_
        refine g_if_eq (t := 75) (q := 53) dX7_simplestExtension_50 (by decide) rfl (fun c7 => ?_) (fun c7 => ?_)
        · rw [if_pos c7] at hf
          refine g_iinc 4 (q := 78) (v := (v5 + 1)) (L' := [(0, .ref 0), (1, .ref 23), (2, .long v2), (4, .int v4), (5, .int (v5 + 1)), (6, .int (f_J6_bitCount_0f7a4 r2))]) dX7_simplestExtension_75 rfl rfl rfl (by decide) rfl ?_
          refine g_goto (t := 16) dX7_simplestExtension_78 (by decide) ?_
          refine g_ls [0, 1, 2, 3, 4] rfl ?_
          exact ih _ _ _ _ hf
        · rw [if_neg c7] at hf
          refine g_iload 5 (q := 55) dX7_simplestExtension_53 rfl rfl ?_
          refine g_istore (q := 57) (L' := [(0, .ref 0), (1, .ref 23), (2, .long v2), (4, .int (f_J6_bitCount_0f7a4 r2)), (5, .int v5), (6, .int (f_J6_bitCount_0f7a4 r2))]) dX7_simplestExtension_55 rfl (by decide) rfl ?_
          refine g_aload_n 1 (q := 58) dX7_simplestExtension_57 rfl rfl ?_
          refine g_iload 4 (q := 60) dX7_simplestExtension_58 rfl rfl ?_
          obtain ⟨r8, e9, hf⟩ := Option.bind_eq_some_iff.mp hf
          refine g_callV (a := 23) (k2 := 0) (n2 := 0) (q := 63) (as := [.int v5]) (st := []) (st1 := [.long r8]) tm_X0_tableAt ml_X7_250 ti_X0_tableAt rfl rfl dX7_simplestExtension_60 rfl (ev_X0_tableAt e9) rfl rfl (Nat.le_of_ble_eq_true rfl) (by decide) rfl rfl (Or.inl rfl) rfl ?_
          refine g_aload_n 0 (q := 64) dX7_simplestExtension_63 rfl rfl ?_
          refine g_get (q := 67) fl_X7_10 dX7_simplestExtension_64 rfl rfl rfl ?_
          refine g_get (q := 70) fl_X7_75 dX7_simplestExtension_67 rfl rfl rfl ?_
          refine g_callS (k2 := 0) (n2 := 0) (q := 73) (as := [.int s_n]) (st := [.long r8]) (st1 := [.long (f_X7_fullTable s_n), .long r8]) tm_X7_fullTable ml_X7_90 ts_X7_fullTable dX7_simplestExtension_70 rfl ev_X7_fullTable rfl rfl (Nat.le_of_ble_eq_true rfl) (by decide) rfl rfl (Or.inl rfl) rfl ?_
          refine g_land (q := 74) dX7_simplestExtension_73 rfl ?_
          refine g_lstore_n (q := 75) (L' := [(0, .ref 0), (1, .ref 23), (2, .long (r8 &&& (f_X7_fullTable s_n))), (4, .int (f_J6_bitCount_0f7a4 r2)), (5, .int v5), (6, .int (f_J6_bitCount_0f7a4 r2))]) dX7_simplestExtension_74 rfl (by decide) rfl ?_
          refine g_iinc 4 (q := 78) (v := (v5 + 1)) (L' := [(0, .ref 0), (1, .ref 23), (2, .long (r8 &&& (f_X7_fullTable s_n))), (4, .int (f_J6_bitCount_0f7a4 r2)), (5, .int (v5 + 1)), (6, .int (f_J6_bitCount_0f7a4 r2))]) dX7_simplestExtension_75 rfl rfl rfl (by decide) rfl ?_
          refine g_goto (t := 16) dX7_simplestExtension_78 (by decide) ?_
          refine g_ls [0, 1, 2, 3, 4] rfl ?_
          exact ih _ _ _ _ hf
set_option maxRecDepth 20000 in
set_option maxHeartbeats 4000000 in
theorem ev_X7_simplestExtension {l : Launch} {E : tEn} {cr : Value} {tl : tHp} {x_hs : Int32} {s_n : Int32} {s_sp : Int64} {s_sb : Int64} {s_sc : Int32} {s_f : List Int64} {s_st : List Int32} {v_n : Int32} {v_sp : Int64} {v_sb : Int64} {v_sc : Int32} {v_f : List Int64} {v_st : List Int32} {h_k : Int32} {h_s : List Int32} {h_c : List Int64} {g_k : Int32} {g_v : Int32} {g_p : List Int32} {g_a : List Int32} {g_t : List Int32} {c_k : Int32} {c_t : List Int32} {c_p : List Int32} {i_l : Int32} {i_n : Int32} {i_f : Int64} {i_p : Int32} {i_o : Int32} {i_b : List Int32} {w_l : Int32} {w_s : List Int32} {x_e : List Int32} {x_l : List Int32} {k_k : Int32} {k_e : List Int64} {k_s : List Int32}  {res : Int64} (hop : tEv l E yX7_openCatalog cX7_openCatalog 1 (some (.object "ReadOnceRecognizer$Catalog")) 7 3 873 [.ref 0] (encX x_hs s_n s_sp s_sb s_sc s_f s_st v_n v_sp v_sb v_sc v_f v_st h_k h_s h_c g_k g_v g_p g_a g_t c_k c_t c_p i_l i_n i_f i_p i_o i_b w_l w_s x_e x_l cr tl) (fun r h' => r = some (.ref 23) ∧ h' = encX x_hs s_n s_sp s_sb s_sc s_f s_st v_n v_sp v_sb v_sc v_f v_st h_k h_s h_c g_k g_v g_p g_a g_t c_k c_t c_p i_l i_n i_f i_p i_o i_b w_l w_s x_e x_l (.ref 23) (tlC k_k k_e k_s))) (hf : f_X7_simplestExtension s_n s_sp s_sb k_k k_e = some res) : tEv l E yX7_simplestExtension cX7_simplestExtension 7 (some .long) 8 3 873 [.ref 0] (encX x_hs s_n s_sp s_sb s_sc s_f s_st v_n v_sp v_sb v_sc v_f v_st h_k h_s h_c g_k g_v g_p g_a g_t c_k c_t c_p i_l i_n i_f i_p i_o i_b w_l w_s x_e x_l cr tl) (fun r h' => r = some (.long res) ∧ h' = encX x_hs s_n s_sp s_sb s_sc s_f s_st v_n v_sp v_sb v_sc v_f v_st h_k h_s h_c g_k g_v g_p g_a g_t c_k c_t c_p i_l i_n i_f i_p i_o i_b w_l w_s x_e x_l (.ref 23) (tlC k_k k_e k_s)) := by
  refine tEv.of (own := RX7) (ini := false) (L := [(0, .ref 0)]) (by decide +kernel) rfl (fun h9 => nomatch h9) rfl (Nat.le_of_ble_eq_true rfl) ?_
  rw [f_X7_simplestExtension] at hf
  refine g_aload_n 0 (q := 1) dX7_simplestExtension_0 rfl rfl ?_
  refine g_callV (a := 0) (k2 := 0) (n2 := 0) (q := 4) (as := []) (st := []) (st1 := [.ref 23]) tm_X7_openCatalog ml_X7_239 ti_X7_openCatalog rfl rfl dX7_simplestExtension_1 rfl hop rfl rfl (Nat.le_of_ble_eq_true rfl) (by decide) rfl rfl (Or.inr rfl) rfl ?_
  refine g_astore_n (q := 5) (L' := [(0, .ref 0), (1, .ref 23)]) dX7_simplestExtension_4 rfl (by decide) rfl ?_
  refine g_ldc2_w (q := 8) kc_X7_106 dX7_simplestExtension_5 rfl ?_
  refine g_lstore_n (q := 9) (L' := [(0, .ref 0), (1, .ref 23), (2, .long (-1))]) dX7_simplestExtension_8 rfl (by decide) rfl ?_
  refine g_bipush (q := 11) (v := 6) dX7_simplestExtension_9 rfl rfl ?_
  refine g_istore (q := 13) (L' := [(0, .ref 0), (1, .ref 23), (2, .long (-1)), (4, .int 6)]) dX7_simplestExtension_11 rfl (by decide) rfl ?_
  refine g_iconst (q := 14) (v := 0) dX7_simplestExtension_13 rfl rfl ?_
  refine g_istore (q := 16) (L' := [(0, .ref 0), (1, .ref 23), (2, .long (-1)), (4, .int 6), (5, .int 0)]) dX7_simplestExtension_14 rfl (by decide) rfl ?_
  refine g_ls [0, 1, 2, 3, 4] rfl ?_
  refine ev_X7_simplestExtension_L16 (fun y10 res hf => ?_) tFU _ _ _ res hf
  refine g_lload_n 0 (q := 82) dX7_simplestExtension_81 rfl rfl ?_
  have hf := Option.some.inj hf
  subst hf
  exact g_lreturn dX7_simplestExtension_82 rfl ⟨rfl, rfl⟩
def f_X7_readOnceCount_L29 (w1 : Int32) (s_n : Int32) (k_k : Int32) (k_e : List Int64) (K : Int32 → Option (Int32)) : Nat → Int32 → Int32 → Option (Int32)
  | 0, _, _ => none
  | fu + 1, v3, v4 => (if k_k ≤ v4 then K v3 else (f_X0_supportAt v4 k_k k_e).bind fun r3 => (if (f_X7_isPoint r3 s_n) = 0 then f_X7_readOnceCount_L29 w1 s_n k_k k_e K fu v3 (v4 + 1) else (if (f_J6_bitCount_0f7a4 r3) = w1 then f_X7_readOnceCount_L29 w1 s_n k_k k_e K fu (v3 + 1) (v4 + 1) else f_X7_readOnceCount_L29 w1 s_n k_k k_e K fu v3 (v4 + 1))))
def f_X7_readOnceCount (a0 : Int32) (s_n : Int32) (k_k : Int32) (k_e : List Int64) : Option (Int32) := f_X7_readOnceCount_L29 a0 s_n k_k k_e (fun y7 => some y7) tFU 0 0
set_option maxRecDepth 20000 in
set_option maxHeartbeats 4000000 in
theorem ev_X7_readOnceCount_L29 {l : Launch} {E : tEn}   {x_hs : Int32} {s_n : Int32} {s_sp : Int64} {s_sb : Int64} {s_sc : Int32} {s_f : List Int64} {s_st : List Int32} {v_n : Int32} {v_sp : Int64} {v_sb : Int64} {v_sc : Int32} {v_f : List Int64} {v_st : List Int32} {h_k : Int32} {h_s : List Int32} {h_c : List Int64} {g_k : Int32} {g_v : Int32} {g_p : List Int32} {g_a : List Int32} {g_t : List Int32} {c_k : Int32} {c_t : List Int32} {c_p : List Int32} {i_l : Int32} {i_n : Int32} {i_f : Int64} {i_p : Int32} {i_o : Int32} {i_b : List Int32} {w_l : Int32} {w_s : List Int32} {x_e : List Int32} {x_l : List Int32} {k_k : Int32} {k_e : List Int64} {k_s : List Int32} {w1 : Int32} {K : Int32 → Option (Int32)} (hK : ∀ (v3 : Int32)  (res : Int32), K v3 = some res → tG l E RX7 cX7_readOnceCount 6 (some .int) false 8 (fun r h' => r = some (.int res) ∧ h' = encX x_hs s_n s_sp s_sb s_sc s_f s_st v_n v_sp v_sb v_sc v_f v_st h_k h_s h_c g_k g_v g_p g_a g_t c_k c_t c_p i_l i_n i_f i_p i_o i_b w_l w_s x_e x_l (.ref 23) (tlC k_k k_e k_s)) 0 0 73 [(3, .int v3)] [] (encX x_hs s_n s_sp s_sb s_sc s_f s_st v_n v_sp v_sb v_sc v_f v_st h_k h_s h_c g_k g_v g_p g_a g_t c_k c_t c_p i_l i_n i_f i_p i_o i_b w_l w_s x_e x_l (.ref 23) (tlC k_k k_e k_s))) :
    ∀ (fu : Nat) (v3 : Int32) (v4 : Int32) (res : Int32), f_X7_readOnceCount_L29 w1 s_n k_k k_e K fu v3 v4 = some res → tG l E RX7 cX7_readOnceCount 6 (some .int) false 8 (fun r h' => r = some (.int res) ∧ h' = encX x_hs s_n s_sp s_sb s_sc s_f s_st v_n v_sp v_sb v_sc v_f v_st h_k h_s h_c g_k g_v g_p g_a g_t c_k c_t c_p i_l i_n i_f i_p i_o i_b w_l w_s x_e x_l (.ref 23) (tlC k_k k_e k_s)) 0 0 29 [(0, .ref 0), (1, .int w1), (2, .ref 23), (3, .int v3), (4, .int v4)] [] (encX x_hs s_n s_sp s_sb s_sc s_f s_st v_n v_sp v_sb v_sc v_f v_st h_k h_s h_c g_k g_v g_p g_a g_t c_k c_t c_p i_l i_n i_f i_p i_o i_b w_l w_s x_e x_l (.ref 23) (tlC k_k k_e k_s)) := by
  intro fu
  induction fu with
  | zero => intro v3 v4 res hf; exact nomatch (show none = some res from hf)
  | succ fu ih =>
    intro v3 v4 res hf
    rw [f_X7_readOnceCount_L29] at hf
    refine g_iload 4 (q := 31) dX7_readOnceCount_29 rfl rfl ?_
    refine g_aload_n 2 (q := 32) dX7_readOnceCount_31 rfl rfl ?_
    refine g_get (q := 35) fl_X7_243 dX7_readOnceCount_32 rfl rfl rfl ?_
    refine g_icmp_ge (t := 73) (q := 38) dX7_readOnceCount_35 (by decide) rfl (fun c2 => ?_) (fun c2 => ?_)
    · rw [if_pos c2] at hf
      refine g_ls [3] rfl ?_
      exact hK _ _ hf
    · rw [if_neg c2] at hf
      refine g_aload_n 2 (q := 39) dX7_readOnceCount_38 rfl rfl ?_
      refine g_iload 4 (q := 41) dX7_readOnceCount_39 rfl rfl ?_
      obtain ⟨r3, e4, hf⟩ := Option.bind_eq_some_iff.mp hf
      refine g_callV (a := 23) (k2 := 0) (n2 := 0) (q := 44) (as := [.int v4]) (st := []) (st1 := [.int r3]) tm_X0_supportAt ml_X7_253 ti_X0_supportAt rfl rfl dX7_readOnceCount_41 rfl (ev_X0_supportAt e4) rfl rfl (Nat.le_of_ble_eq_true rfl) (by decide) rfl rfl (Or.inl rfl) rfl ?_
      refine g_istore (q := 46) (L' := [(0, .ref 0), (1, .int w1), (2, .ref 23), (3, .int v3), (4, .int v4), (5, .int r3)]) dX7_readOnceCount_44 rfl (by decide) rfl ?_
      refine g_aload_n 0 (q := 47) dX7_readOnceCount_46 rfl rfl ?_
      refine g_iload 5 (q := 49) dX7_readOnceCount_47 rfl rfl ?_
      refine g_callV (a := 0) (k2 := 0) (n2 := 0) (q := 52) (as := [.int r3]) (st := []) (st1 := [.int (f_X7_isPoint r3 s_n)]) tm_X7_isPoint ml_X7_112 ti_X7_isPoint rfl rfl dX7_readOnceCount_49 rfl ev_X7_isPoint rfl rfl (Nat.le_of_ble_eq_true rfl) (by decide) rfl rfl (Or.inl rfl) rfl ?_
      refine g_if_eq (t := 67) (q := 55) dX7_readOnceCount_52 (by decide) rfl (fun c5 => ?_) (fun c5 => ?_)
      · rw [if_pos c5] at hf
        refine g_iinc 4 (q := 70) (v := (v4 + 1)) (L' := [(0, .ref 0), (1, .int w1), (2, .ref 23), (3, .int v3), (4, .int (v4 + 1)), (5, .int r3)]) dX7_readOnceCount_67 rfl rfl rfl (by decide) rfl ?_
        refine g_goto (t := 29) dX7_readOnceCount_70 (by decide) ?_
        refine g_ls [0, 1, 2, 3, 4] rfl ?_
        exact ih _ _ _ hf
      · rw [if_neg c5] at hf
        refine g_iload 5 (q := 57) dX7_readOnceCount_55 rfl rfl ?_
        refine g_callS (k2 := 0) (n2 := 0) (q := 60) (as := [.int r3]) (st := []) (st1 := [.int (f_J6_bitCount_0f7a4 r3)]) tm_J6_bitCount_0f7a4 ml_X7_256 ts_J6_bitCount_0f7a4 dX7_readOnceCount_57 rfl ev_J6_bitCount_0f7a4 rfl rfl (Nat.le_of_ble_eq_true rfl) (by decide) rfl rfl (Or.inl rfl) rfl ?_
        refine g_iload_n 1 (q := 61) dX7_readOnceCount_60 rfl rfl ?_
        refine g_icmp_ne (t := 67) (q := 64) dX7_readOnceCount_61 (by decide) rfl (fun c6 => ?_) (fun c6 => ?_)
        · rw [if_neg c6] at hf
          refine g_iinc 4 (q := 70) (v := (v4 + 1)) (L' := [(0, .ref 0), (1, .int w1), (2, .ref 23), (3, .int v3), (4, .int (v4 + 1)), (5, .int r3)]) dX7_readOnceCount_67 rfl rfl rfl (by decide) rfl ?_
          refine g_goto (t := 29) dX7_readOnceCount_70 (by decide) ?_
          refine g_ls [0, 1, 2, 3, 4] rfl ?_
          exact ih _ _ _ hf
        · rw [if_pos c6] at hf
          refine g_iinc 3 (q := 67) (v := (v3 + 1)) (L' := [(0, .ref 0), (1, .int w1), (2, .ref 23), (3, .int (v3 + 1)), (4, .int v4), (5, .int r3)]) dX7_readOnceCount_64 rfl rfl rfl (by decide) rfl ?_
          refine g_iinc 4 (q := 70) (v := (v4 + 1)) (L' := [(0, .ref 0), (1, .int w1), (2, .ref 23), (3, .int (v3 + 1)), (4, .int (v4 + 1)), (5, .int r3)]) dX7_readOnceCount_67 rfl rfl rfl (by decide) rfl ?_
          refine g_goto (t := 29) dX7_readOnceCount_70 (by decide) ?_
          refine g_ls [0, 1, 2, 3, 4] rfl ?_
          exact ih _ _ _ hf
set_option maxRecDepth 20000 in
set_option maxHeartbeats 4000000 in
theorem ev_X7_readOnceCount {l : Launch} {E : tEn} {cr : Value} {tl : tHp} {x_hs : Int32} {s_n : Int32} {s_sp : Int64} {s_sb : Int64} {s_sc : Int32} {s_f : List Int64} {s_st : List Int32} {v_n : Int32} {v_sp : Int64} {v_sb : Int64} {v_sc : Int32} {v_f : List Int64} {v_st : List Int32} {h_k : Int32} {h_s : List Int32} {h_c : List Int64} {g_k : Int32} {g_v : Int32} {g_p : List Int32} {g_a : List Int32} {g_t : List Int32} {c_k : Int32} {c_t : List Int32} {c_p : List Int32} {i_l : Int32} {i_n : Int32} {i_f : Int64} {i_p : Int32} {i_o : Int32} {i_b : List Int32} {w_l : Int32} {w_s : List Int32} {x_e : List Int32} {x_l : List Int32} {k_k : Int32} {k_e : List Int64} {k_s : List Int32} {a0 : Int32} {res : Int32} (hop : tEv l E yX7_openCatalog cX7_openCatalog 1 (some (.object "ReadOnceRecognizer$Catalog")) 7 3 873 [.ref 0] (encX x_hs s_n s_sp s_sb s_sc s_f s_st v_n v_sp v_sb v_sc v_f v_st h_k h_s h_c g_k g_v g_p g_a g_t c_k c_t c_p i_l i_n i_f i_p i_o i_b w_l w_s x_e x_l cr tl) (fun r h' => r = some (.ref 23) ∧ h' = encX x_hs s_n s_sp s_sb s_sc s_f s_st v_n v_sp v_sb v_sc v_f v_st h_k h_s h_c g_k g_v g_p g_a g_t c_k c_t c_p i_l i_n i_f i_p i_o i_b w_l w_s x_e x_l (.ref 23) (tlC k_k k_e k_s))) (hc : ¬ f_X7_isIndex a0 (s_n + 1) = 0) (hf : f_X7_readOnceCount a0 s_n k_k k_e = some res) : tEv l E yX7_readOnceCount cX7_readOnceCount 6 (some .int) 8 3 873 [.ref 0, .int a0] (encX x_hs s_n s_sp s_sb s_sc s_f s_st v_n v_sp v_sb v_sc v_f v_st h_k h_s h_c g_k g_v g_p g_a g_t c_k c_t c_p i_l i_n i_f i_p i_o i_b w_l w_s x_e x_l cr tl) (fun r h' => r = some (.int res) ∧ h' = encX x_hs s_n s_sp s_sb s_sc s_f s_st v_n v_sp v_sb v_sc v_f v_st h_k h_s h_c g_k g_v g_p g_a g_t c_k c_t c_p i_l i_n i_f i_p i_o i_b w_l w_s x_e x_l (.ref 23) (tlC k_k k_e k_s)) := by
  refine tEv.of (own := RX7) (ini := false) (L := [(0, .ref 0), (1, .int a0)]) (by decide +kernel) rfl (fun h9 => nomatch h9) rfl (Nat.le_of_ble_eq_true rfl) ?_
  rw [f_X7_readOnceCount] at hf
  refine g_iload_n 1 (q := 1) dX7_readOnceCount_0 rfl rfl ?_
  refine g_aload_n 0 (q := 2) dX7_readOnceCount_1 rfl rfl ?_
  refine g_get (q := 5) fl_X7_10 dX7_readOnceCount_2 rfl rfl rfl ?_
  refine g_get (q := 8) fl_X7_75 dX7_readOnceCount_5 rfl rfl rfl ?_
  refine g_iconst (q := 9) (v := 1) dX7_readOnceCount_8 rfl rfl ?_
  refine g_iadd (q := 10) dX7_readOnceCount_9 rfl ?_
  refine g_callS (k2 := 3) (n2 := 873) (q := 13) (as := [.int a0, .int (s_n + 1)]) (st := []) (st1 := [.int (f_X7_isIndex a0 (s_n + 1))]) tm_X7_isIndex ml_X7_140 ts_X7_isIndex dX7_readOnceCount_10 rfl ev_X7_isIndex rfl rfl (Nat.le_of_ble_eq_true rfl) (by decide) rfl rfl (Or.inl rfl) rfl ?_
  refine g_if_ne (t := 19) (q := 16) dX7_readOnceCount_13 (by decide) rfl (fun _ => ?_) (fun c => absurd hc (by first | exact c | exact not_not_intro c))
  refine g_aload_n 0 (q := 20) dX7_readOnceCount_19 rfl rfl ?_
  refine g_callV (a := 0) (k2 := 0) (n2 := 0) (q := 23) (as := []) (st := []) (st1 := [.ref 23]) tm_X7_openCatalog ml_X7_239 ti_X7_openCatalog rfl rfl dX7_readOnceCount_20 rfl hop rfl rfl (Nat.le_of_ble_eq_true rfl) (by decide) rfl rfl (Or.inr rfl) rfl ?_
  refine g_astore_n (q := 24) (L' := [(0, .ref 0), (1, .int a0), (2, .ref 23)]) dX7_readOnceCount_23 rfl (by decide) rfl ?_
  refine g_iconst (q := 25) (v := 0) dX7_readOnceCount_24 rfl rfl ?_
  refine g_istore_n (q := 26) (L' := [(0, .ref 0), (1, .int a0), (2, .ref 23), (3, .int 0)]) dX7_readOnceCount_25 rfl (by decide) rfl ?_
  refine g_iconst (q := 27) (v := 0) dX7_readOnceCount_26 rfl rfl ?_
  refine g_istore (q := 29) (L' := [(0, .ref 0), (1, .int a0), (2, .ref 23), (3, .int 0), (4, .int 0)]) dX7_readOnceCount_27 rfl (by decide) rfl ?_
  refine g_ls [0, 1, 2, 3, 4] rfl ?_
  refine ev_X7_readOnceCount_L29 (fun y7 res hf => ?_) tFU _ _ res hf
  refine g_iload_n 0 (q := 74) dX7_readOnceCount_73 rfl rfl ?_
  have hf := Option.some.inj hf
  subst hf
  exact g_ireturn dX7_readOnceCount_74 rfl ⟨rfl, rfl⟩
set_option maxRecDepth 20000 in
set_option maxHeartbeats 4000000 in
theorem ev_X7_readOnceCount_bad {l : Launch} {E : tEn} {cr : Value} {tl : tHp} {x_hs : Int32} {s_n : Int32} {s_sp : Int64} {s_sb : Int64} {s_sc : Int32} {s_f : List Int64} {s_st : List Int32} {v_n : Int32} {v_sp : Int64} {v_sb : Int64} {v_sc : Int32} {v_f : List Int64} {v_st : List Int32} {h_k : Int32} {h_s : List Int32} {h_c : List Int64} {g_k : Int32} {g_v : Int32} {g_p : List Int32} {g_a : List Int32} {g_t : List Int32} {c_k : Int32} {c_t : List Int32} {c_p : List Int32} {i_l : Int32} {i_n : Int32} {i_f : Int64} {i_p : Int32} {i_o : Int32} {i_b : List Int32} {w_l : Int32} {w_s : List Int32} {x_e : List Int32} {x_l : List Int32} {a0 : Int32} (hc : f_X7_isIndex a0 (s_n + 1) = 0) : tEv l E yX7_readOnceCount cX7_readOnceCount 6 (some .int) 8 0 0 [.ref 0, .int a0] (encX x_hs s_n s_sp s_sb s_sc s_f s_st v_n v_sp v_sb v_sc v_f v_st h_k h_s h_c g_k g_v g_p g_a g_t c_k c_t c_p i_l i_n i_f i_p i_o i_b w_l w_s x_e x_l cr tl) (fun r h' => r = some (.int (-2)) ∧ h' = encX x_hs s_n s_sp s_sb s_sc s_f s_st v_n v_sp v_sb v_sc v_f v_st h_k h_s h_c g_k g_v g_p g_a g_t c_k c_t c_p i_l i_n i_f i_p i_o i_b w_l w_s x_e x_l cr tl) := by
  refine tEv.of (own := RX7) (ini := false) (L := [(0, .ref 0), (1, .int a0)]) (by decide +kernel) rfl (fun h9 => nomatch h9) rfl (Nat.le_of_ble_eq_true rfl) ?_
  refine g_iload_n 1 (q := 1) dX7_readOnceCount_0 rfl rfl ?_
  refine g_aload_n 0 (q := 2) dX7_readOnceCount_1 rfl rfl ?_
  refine g_get (q := 5) fl_X7_10 dX7_readOnceCount_2 rfl rfl rfl ?_
  refine g_get (q := 8) fl_X7_75 dX7_readOnceCount_5 rfl rfl rfl ?_
  refine g_iconst (q := 9) (v := 1) dX7_readOnceCount_8 rfl rfl ?_
  refine g_iadd (q := 10) dX7_readOnceCount_9 rfl ?_
  refine g_callS (k2 := 0) (n2 := 0) (q := 13) (as := [.int a0, .int (s_n + 1)]) (st := []) (st1 := [.int (f_X7_isIndex a0 (s_n + 1))]) tm_X7_isIndex ml_X7_140 ts_X7_isIndex dX7_readOnceCount_10 rfl ev_X7_isIndex rfl rfl (Nat.le_of_ble_eq_true rfl) (by decide) rfl rfl (Or.inl rfl) rfl ?_
  refine g_if_ne (t := 19) (q := 16) dX7_readOnceCount_13 (by decide) rfl (fun c => absurd hc (by first | exact c | exact not_not_intro c)) (fun _ => ?_)
  refine g_bipush (q := 18) (v := (-2)) dX7_readOnceCount_16 rfl rfl ?_
  exact g_ireturn dX7_readOnceCount_18 rfl ⟨rfl, rfl⟩
