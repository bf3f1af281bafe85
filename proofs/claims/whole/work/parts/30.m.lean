/-! written by wip/whole/main.py out of the bytecode: a pure function for each method, and its contract -/
def f_X8_isIn (a0 : Int64) (a1 : Int64) (a2 : Int64)  : Int32 := (if (lg_cmp a0 a1) < 0 then 0 else (if 0 < (lg_cmp a0 a2) then 0 else 1))
theorem bl_X8_isIn (a0 : Int64) (a1 : Int64) (a2 : Int64)  : f_X8_isIn a0 a1 a2 = 0 ∨ f_X8_isIn a0 a1 a2 = 1 := by
  unfold f_X8_isIn
  repeat' split
  all_goals first | exact Or.inl rfl | exact Or.inr rfl
set_option maxRecDepth 20000 in
set_option maxHeartbeats 4000000 in
theorem ev_X8_isIn {l : Launch} {E : tEn}  {h : tHp} {a0 : Int64} {a1 : Int64} {a2 : Int64} : tEv l E yX8_isIn cX8_isIn 6 (some .boolean) 1 0 0 [.long a0, .long a1, .long a2] (h) (fun r h' => r = some (.int (f_X8_isIn a0 a1 a2)) ∧ h' = h) := by
  refine tEv.of (own := RX8) (ini := false) (L := [(0, .long a0), (2, .long a1), (4, .long a2)]) (by decide +kernel) rfl (fun h9 => nomatch h9) rfl (Nat.le_of_ble_eq_true rfl) ?_
  obtain ⟨res, hf⟩ : ∃ z, f_X8_isIn a0 a1 a2 = z := ⟨_, rfl⟩
  rw [hf]
  rw [f_X8_isIn] at hf
  refine g_lload_n 0 (q := 1) dX8_isIn_0 rfl rfl ?_
  refine g_lload_n 1 (q := 2) dX8_isIn_1 rfl rfl ?_
  refine g_lcmp (q := 3) dX8_isIn_2 rfl ?_
  refine g_if_lt (t := 17) (q := 6) dX8_isIn_3 (by decide) rfl (fun c1 => ?_) (fun c1 => ?_)
  · rw [if_pos c1] at hf
    refine g_iconst (q := 18) (v := 0) dX8_isIn_17 rfl rfl ?_
    subst hf
    exact g_zreturn (Or.inl rfl) dX8_isIn_18 rfl ⟨rfl, rfl⟩
  · rw [if_neg c1] at hf
    refine g_lload_n 0 (q := 7) dX8_isIn_6 rfl rfl ?_
    refine g_lload 2 (q := 9) dX8_isIn_7 rfl rfl ?_
    refine g_lcmp (q := 10) dX8_isIn_9 rfl ?_
    refine g_if_gt (t := 17) (q := 13) dX8_isIn_10 (by decide) rfl (fun c2 => ?_) (fun c2 => ?_)
    · rw [if_pos c2] at hf
      refine g_iconst (q := 18) (v := 0) dX8_isIn_17 rfl rfl ?_
      subst hf
      exact g_zreturn (Or.inl rfl) dX8_isIn_18 rfl ⟨rfl, rfl⟩
    · rw [if_neg c2] at hf
      refine g_iconst (q := 14) (v := 1) dX8_isIn_13 rfl rfl ?_
      refine g_goto (t := 18) dX8_isIn_14 (by decide) ?_
      subst hf
      exact g_zreturn (Or.inr rfl) dX8_isIn_18 rfl ⟨rfl, rfl⟩
def f_X8_variable_L5 (w1 : Int32) (m_pt : Int32) (K : Int64 → Option (Int64)) : Nat → Int64 → Int32 → Option (Int64)
  | 0, _, _ => none
  | fu + 1, v2, v4 => (if m_pt ≤ v4 then K v2 else (if ((v4 >>> (w1 &&& 31)) &&& 1) = 1 then f_X8_variable_L5 w1 m_pt K fu (v2 ||| (tlshl 1 v4)) (v4 + 1) else f_X8_variable_L5 w1 m_pt K fu (v2 ||| 0) (v4 + 1)))
def f_X8_variable (a0 : Int32) (m_pt : Int32) : Option (Int64) := f_X8_variable_L5 a0 m_pt (fun y3 => some y3) tFU 0 0
set_option maxRecDepth 20000 in
set_option maxHeartbeats 4000000 in
theorem ev_X8_variable_L5 {l : Launch} {E : tEn}   {m_n : Int32} {m_pt : Int32} {m_rc : Int32} {m_sa : Int64} {m_sb : Int64} {m_sc : Int32} {m_is : Int32} {m_os : Int32} {m_vn : Int32} {m_vc : Int32} {m_va : Int64} {m_vb : Int64} {m_ve : Int32} {m_no : Int32} {m_pl : Int32} {m_fa : Int32} {m_oc : Int32} {m_fu : Int32} {m_ke : Int32} {m_t : List Int64} {m_f : List Int32} {m_rs : List Int32} {m_rt : List Int64} {m_rf : List Int32} {m_st : List Int32} {m_ib : List Int32} {m_ob : List Int32} {m_al : List Int32} {m_el : List Int32} {m_vt : List Int64} {m_vf : List Int32} {m_vs : List Int32} {m_nr : List Int32} {m_ty : List Int32} {m_pa : List Int32} {m_fn : List Int64} {m_md : List Int64} {m_ms : List Int32} {m_mr : List Int32} {w1 : Int32} {K : Int64 → Option (Int64)} (hK : ∀ (v2 : Int64)  (res : Int64), K v2 = some res → tG l E RX8 cX8_variable 5 (some .long) false 1 (fun r h' => r = some (.long res) ∧ h' = encM m_n m_pt m_rc m_sa m_sb m_sc m_is m_os m_vn m_vc m_va m_vb m_ve m_no m_pl m_fa m_oc m_fu m_ke m_t m_f m_rs m_rt m_rf m_st m_ib m_ob m_al m_el m_vt m_vf m_vs m_nr m_ty m_pa m_fn m_md m_ms m_mr) 0 0 41 [(2, .long v2)] [] (encM m_n m_pt m_rc m_sa m_sb m_sc m_is m_os m_vn m_vc m_va m_vb m_ve m_no m_pl m_fa m_oc m_fu m_ke m_t m_f m_rs m_rt m_rf m_st m_ib m_ob m_al m_el m_vt m_vf m_vs m_nr m_ty m_pa m_fn m_md m_ms m_mr)) :
    ∀ (fu : Nat) (v2 : Int64) (v4 : Int32) (res : Int64), f_X8_variable_L5 w1 m_pt K fu v2 v4 = some res → tG l E RX8 cX8_variable 5 (some .long) false 1 (fun r h' => r = some (.long res) ∧ h' = encM m_n m_pt m_rc m_sa m_sb m_sc m_is m_os m_vn m_vc m_va m_vb m_ve m_no m_pl m_fa m_oc m_fu m_ke m_t m_f m_rs m_rt m_rf m_st m_ib m_ob m_al m_el m_vt m_vf m_vs m_nr m_ty m_pa m_fn m_md m_ms m_mr) 0 0 5 [(0, .ref 0), (1, .int w1), (2, .long v2), (4, .int v4)] [] (encM m_n m_pt m_rc m_sa m_sb m_sc m_is m_os m_vn m_vc m_va m_vb m_ve m_no m_pl m_fa m_oc m_fu m_ke m_t m_f m_rs m_rt m_rf m_st m_ib m_ob m_al m_el m_vt m_vf m_vs m_nr m_ty m_pa m_fn m_md m_ms m_mr) := by
  intro fu
  induction fu with
  | zero => intro v2 v4 res hf; exact nomatch (show none = some res from hf)
  | succ fu ih =>
    intro v2 v4 res hf
    rw [f_X8_variable_L5] at hf
    refine g_iload 3 (q := 7) dX8_variable_5 rfl rfl ?_
    refine g_aload_n 0 (q := 8) dX8_variable_7 rfl rfl ?_
    refine g_get (q := 11) fl_X8_13 dX8_variable_8 rfl rfl rfl ?_
    refine g_icmp_ge (t := 41) (q := 14) dX8_variable_11 (by decide) rfl (fun c1 => ?_) (fun c1 => ?_)
    · rw [if_pos c1] at hf
      refine g_ls [2] rfl ?_
      exact hK _ _ hf
    · rw [if_neg c1] at hf
      refine g_lload_n 2 (q := 15) dX8_variable_14 rfl rfl ?_
      refine g_iload 3 (q := 17) dX8_variable_15 rfl rfl ?_
      refine g_iload_n 1 (q := 18) dX8_variable_17 rfl rfl ?_
      refine g_ishr (q := 19) dX8_variable_18 rfl ?_
      refine g_iconst (q := 20) (v := 1) dX8_variable_19 rfl rfl ?_
      refine g_iand (q := 21) dX8_variable_20 rfl ?_
      refine g_iconst (q := 22) (v := 1) dX8_variable_21 rfl rfl ?_
      refine g_icmp_ne (t := 32) (q := 25) dX8_variable_22 (by decide) rfl (fun c2 => ?_) (fun c2 => ?_)
      · rw [if_neg c2] at hf
        refine g_lconst (q := 33) (v := 0) dX8_variable_32 rfl rfl ?_
        refine g_lor (q := 34) dX8_variable_33 rfl ?_
        refine g_lstore_n (q := 35) (L' := [(0, .ref 0), (1, .int w1), (2, .long (v2 ||| 0)), (4, .int v4)]) dX8_variable_34 rfl (by decide) rfl ?_
        refine g_iinc 3 (q := 38) (v := (v4 + 1)) (L' := [(0, .ref 0), (1, .int w1), (2, .long (v2 ||| 0)), (4, .int (v4 + 1))]) dX8_variable_35 rfl rfl rfl (by decide) rfl ?_
        refine g_goto (t := 5) dX8_variable_38 (by decide) ?_
        refine g_ls [0, 1, 2, 3] rfl ?_
        exact ih _ _ _ hf
      · rw [if_pos c2] at hf
        refine g_lconst (q := 26) (v := 1) dX8_variable_25 rfl rfl ?_
        refine g_iload 3 (q := 28) dX8_variable_26 rfl rfl ?_
        refine g_lshl (q := 29) dX8_variable_28 rfl ?_
        refine g_goto (t := 33) dX8_variable_29 (by decide) ?_
        refine g_lor (q := 34) dX8_variable_33 rfl ?_
        refine g_lstore_n (q := 35) (L' := [(0, .ref 0), (1, .int w1), (2, .long (v2 ||| (tlshl 1 v4))), (4, .int v4)]) dX8_variable_34 rfl (by decide) rfl ?_
        refine g_iinc 3 (q := 38) (v := (v4 + 1)) (L' := [(0, .ref 0), (1, .int w1), (2, .long (v2 ||| (tlshl 1 v4))), (4, .int (v4 + 1))]) dX8_variable_35 rfl rfl rfl (by decide) rfl ?_
        refine g_goto (t := 5) dX8_variable_38 (by decide) ?_
        refine g_ls [0, 1, 2, 3] rfl ?_
        exact ih _ _ _ hf
set_option maxRecDepth 20000 in
set_option maxHeartbeats 4000000 in
theorem ev_X8_variable {l : Launch} {E : tEn}  {m_n : Int32} {m_pt : Int32} {m_rc : Int32} {m_sa : Int64} {m_sb : Int64} {m_sc : Int32} {m_is : Int32} {m_os : Int32} {m_vn : Int32} {m_vc : Int32} {m_va : Int64} {m_vb : Int64} {m_ve : Int32} {m_no : Int32} {m_pl : Int32} {m_fa : Int32} {m_oc : Int32} {m_fu : Int32} {m_ke : Int32} {m_t : List Int64} {m_f : List Int32} {m_rs : List Int32} {m_rt : List Int64} {m_rf : List Int32} {m_st : List Int32} {m_ib : List Int32} {m_ob : List Int32} {m_al : List Int32} {m_el : List Int32} {m_vt : List Int64} {m_vf : List Int32} {m_vs : List Int32} {m_nr : List Int32} {m_ty : List Int32} {m_pa : List Int32} {m_fn : List Int64} {m_md : List Int64} {m_ms : List Int32} {m_mr : List Int32} {a0 : Int32} {res : Int64} (hf : f_X8_variable a0 m_pt = some res) : tEv l E yX8_variable cX8_variable 5 (some .long) 1 0 0 [.ref 0, .int a0] (encM m_n m_pt m_rc m_sa m_sb m_sc m_is m_os m_vn m_vc m_va m_vb m_ve m_no m_pl m_fa m_oc m_fu m_ke m_t m_f m_rs m_rt m_rf m_st m_ib m_ob m_al m_el m_vt m_vf m_vs m_nr m_ty m_pa m_fn m_md m_ms m_mr) (fun r h' => r = some (.long res) ∧ h' = encM m_n m_pt m_rc m_sa m_sb m_sc m_is m_os m_vn m_vc m_va m_vb m_ve m_no m_pl m_fa m_oc m_fu m_ke m_t m_f m_rs m_rt m_rf m_st m_ib m_ob m_al m_el m_vt m_vf m_vs m_nr m_ty m_pa m_fn m_md m_ms m_mr) := by
  refine tEv.of (own := RX8) (ini := false) (L := [(0, .ref 0), (1, .int a0)]) (by decide +kernel) rfl (fun h9 => nomatch h9) rfl (Nat.le_of_ble_eq_true rfl) ?_
  rw [f_X8_variable] at hf
  refine g_lconst (q := 1) (v := 0) dX8_variable_0 rfl rfl ?_
  refine g_lstore_n (q := 2) (L' := [(0, .ref 0), (1, .int a0), (2, .long 0)]) dX8_variable_1 rfl (by decide) rfl ?_
  refine g_iconst (q := 3) (v := 0) dX8_variable_2 rfl rfl ?_
  refine g_istore (q := 5) (L' := [(0, .ref 0), (1, .int a0), (2, .long 0), (4, .int 0)]) dX8_variable_3 rfl (by decide) rfl ?_
  refine g_ls [0, 1, 2, 3] rfl ?_
  refine ev_X8_variable_L5 (fun y3 res hf => ?_) tFU _ _ res hf
  refine g_lload_n 0 (q := 42) dX8_variable_41 rfl rfl ?_
  have hf := Option.some.inj hf
  subst hf
  exact g_lreturn dX8_variable_42 rfl ⟨rfl, rfl⟩
def f_X8_make (a0 : Int32) (a1 : Int32) (a2 : Int64) (m_ke : Int32) (m_md : List Int64) (m_ms : List Int32) (m_mr : List Int32) : Option (Int32 × List Int64 × List Int32 × List Int32) := (tst m_md m_ke a2).bind fun z1 => (tst m_ms m_ke a0).bind fun z3 => (tst m_mr m_ke a1).bind fun z5 => some ((m_ke + 1), z1, z3, z5)
set_option maxRecDepth 20000 in
set_option maxHeartbeats 4000000 in
theorem ev_X8_make {l : Launch} {E : tEn}  {m_n : Int32} {m_pt : Int32} {m_rc : Int32} {m_sa : Int64} {m_sb : Int64} {m_sc : Int32} {m_is : Int32} {m_os : Int32} {m_vn : Int32} {m_vc : Int32} {m_va : Int64} {m_vb : Int64} {m_ve : Int32} {m_no : Int32} {m_pl : Int32} {m_fa : Int32} {m_oc : Int32} {m_fu : Int32} {m_ke : Int32} {m_t : List Int64} {m_f : List Int32} {m_rs : List Int32} {m_rt : List Int64} {m_rf : List Int32} {m_st : List Int32} {m_ib : List Int32} {m_ob : List Int32} {m_al : List Int32} {m_el : List Int32} {m_vt : List Int64} {m_vf : List Int32} {m_vs : List Int32} {m_nr : List Int32} {m_ty : List Int32} {m_pa : List Int32} {m_fn : List Int64} {m_md : List Int64} {m_ms : List Int32} {m_mr : List Int32} {a0 : Int32} {a1 : Int32} {a2 : Int64} {res : Int32 × List Int64 × List Int32 × List Int32} (hf : f_X8_make a0 a1 a2 m_ke m_md m_ms m_mr = some res) : tEv l E yX8_make cX8_make 5 none 1 0 0 [.ref 0, .int a0, .int a1, .long a2] (encM m_n m_pt m_rc m_sa m_sb m_sc m_is m_os m_vn m_vc m_va m_vb m_ve m_no m_pl m_fa m_oc m_fu m_ke m_t m_f m_rs m_rt m_rf m_st m_ib m_ob m_al m_el m_vt m_vf m_vs m_nr m_ty m_pa m_fn m_md m_ms m_mr) (fun r h' => r = none ∧ h' = encM m_n m_pt m_rc m_sa m_sb m_sc m_is m_os m_vn m_vc m_va m_vb m_ve m_no m_pl m_fa m_oc m_fu (res.1) m_t m_f m_rs m_rt m_rf m_st m_ib m_ob m_al m_el m_vt m_vf m_vs m_nr m_ty m_pa m_fn (res.2.1) (res.2.2.1) (res.2.2.2)) := by
  refine tEv.of (own := RX8) (ini := false) (L := [(0, .ref 0), (1, .int a0), (2, .int a1), (3, .long a2)]) (by decide +kernel) rfl (fun h9 => nomatch h9) rfl (Nat.le_of_ble_eq_true rfl) ?_
  rw [f_X8_make] at hf
  refine g_aload_n 0 (q := 1) dX8_make_0 rfl rfl ?_
  refine g_get (q := 4) fl_X8_73 dX8_make_1 rfl rfl rfl ?_
  refine g_aload_n 0 (q := 5) dX8_make_4 rfl rfl ?_
  refine g_get (q := 8) fl_X8_275 dX8_make_5 rfl rfl rfl ?_
  refine g_lload_n 3 (q := 9) dX8_make_8 rfl rfl ?_
  obtain ⟨z1, e2, hf⟩ := Option.bind_eq_some_iff.mp hf
  refine g_lastore (q := 10) (h' := encM m_n m_pt m_rc m_sa m_sb m_sc m_is m_os m_vn m_vc m_va m_vb m_ve m_no m_pl m_fa m_oc m_fu m_ke m_t m_f m_rs m_rt m_rf m_st m_ib m_ob m_al m_el m_vt m_vf m_vs m_nr m_ty m_pa m_fn z1 m_ms m_mr) dX8_make_9 rfl rfl e2 rfl ?_
  refine g_aload_n 0 (q := 11) dX8_make_10 rfl rfl ?_
  refine g_get (q := 14) fl_X8_76 dX8_make_11 rfl rfl rfl ?_
  refine g_aload_n 0 (q := 15) dX8_make_14 rfl rfl ?_
  refine g_get (q := 18) fl_X8_275 dX8_make_15 rfl rfl rfl ?_
  refine g_iload_n 1 (q := 19) dX8_make_18 rfl rfl ?_
  obtain ⟨z3, e4, hf⟩ := Option.bind_eq_some_iff.mp hf
  refine g_iastore (q := 20) (h' := encM m_n m_pt m_rc m_sa m_sb m_sc m_is m_os m_vn m_vc m_va m_vb m_ve m_no m_pl m_fa m_oc m_fu m_ke m_t m_f m_rs m_rt m_rf m_st m_ib m_ob m_al m_el m_vt m_vf m_vs m_nr m_ty m_pa m_fn z1 z3 m_mr) dX8_make_19 rfl rfl e4 rfl ?_
  refine g_aload_n 0 (q := 21) dX8_make_20 rfl rfl ?_
  refine g_get (q := 24) fl_X8_79 dX8_make_21 rfl rfl rfl ?_
  refine g_aload_n 0 (q := 25) dX8_make_24 rfl rfl ?_
  refine g_get (q := 28) fl_X8_275 dX8_make_25 rfl rfl rfl ?_
  refine g_iload_n 2 (q := 29) dX8_make_28 rfl rfl ?_
  obtain ⟨z5, e6, hf⟩ := Option.bind_eq_some_iff.mp hf
  refine g_iastore (q := 30) (h' := encM m_n m_pt m_rc m_sa m_sb m_sc m_is m_os m_vn m_vc m_va m_vb m_ve m_no m_pl m_fa m_oc m_fu m_ke m_t m_f m_rs m_rt m_rf m_st m_ib m_ob m_al m_el m_vt m_vf m_vs m_nr m_ty m_pa m_fn z1 z3 z5) dX8_make_29 rfl rfl e6 rfl ?_
  refine g_aload_n 0 (q := 31) dX8_make_30 rfl rfl ?_
  refine g_dup (q := 32) dX8_make_31 rfl rfl ?_
  refine g_get (q := 35) fl_X8_275 dX8_make_32 rfl rfl rfl ?_
  refine g_iconst (q := 36) (v := 1) dX8_make_35 rfl rfl ?_
  refine g_iadd (q := 37) dX8_make_36 rfl ?_
  refine g_put (q := 40) (h' := encM m_n m_pt m_rc m_sa m_sb m_sc m_is m_os m_vn m_vc m_va m_vb m_ve m_no m_pl m_fa m_oc m_fu (m_ke + 1) m_t m_f m_rs m_rt m_rf m_st m_ib m_ob m_al m_el m_vt m_vf m_vs m_nr m_ty m_pa m_fn z1 z3 z5) fp_X8_275 dX8_make_37 rfl rfl (Nat.le_of_ble_eq_true rfl) (fun _ => ⟨rfl, rfl⟩) rfl ?_
  have hf := Option.some.inj hf
  subst hf
  exact g_return dX8_make_40 rfl ⟨rfl, rfl⟩
def f_X8_bits_L4 (w0 : Int32) (K : Int32 → Option (Int32)) : Nat → Int32 → Int32 → Option (Int32)
  | 0, _, _ => none
  | fu + 1, v1, v2 => (if 5 ≤ v2 then K v1 else f_X8_bits_L4 w0 K fu (v1 + ((w0 >>> (v2 &&& 31)) &&& 1)) (v2 + 1))
def f_X8_bits (a0 : Int32)  : Option (Int32) := f_X8_bits_L4 a0 (fun y2 => some y2) tFU 0 0
set_option maxRecDepth 20000 in
set_option maxHeartbeats 4000000 in
theorem ev_X8_bits_L4 {l : Launch} {E : tEn}   {h : tHp} {w0 : Int32} {K : Int32 → Option (Int32)} (hK : ∀ (v1 : Int32)  (res : Int32), K v1 = some res → tG l E RX8 cX8_bits 3 (some .int) false 1 (fun r h' => r = some (.int res) ∧ h' = h) 0 0 23 [(1, .int v1)] [] (h)) :
    ∀ (fu : Nat) (v1 : Int32) (v2 : Int32) (res : Int32), f_X8_bits_L4 w0 K fu v1 v2 = some res → tG l E RX8 cX8_bits 3 (some .int) false 1 (fun r h' => r = some (.int res) ∧ h' = h) 0 0 4 [(0, .int w0), (1, .int v1), (2, .int v2)] [] (h) := by
  intro fu
  induction fu with
  | zero => intro v1 v2 res hf; exact nomatch (show none = some res from hf)
  | succ fu ih =>
    intro v1 v2 res hf
    rw [f_X8_bits_L4] at hf
    refine g_iload_n 2 (q := 5) dX8_bits_4 rfl rfl ?_
    refine g_iconst (q := 6) (v := 5) dX8_bits_5 rfl rfl ?_
    refine g_icmp_ge (t := 23) (q := 9) dX8_bits_6 (by decide) rfl (fun c1 => ?_) (fun c1 => ?_)
    · rw [if_pos c1] at hf
      refine g_ls [1] rfl ?_
      exact hK _ _ hf
    · rw [if_neg c1] at hf
      refine g_iload_n 1 (q := 10) dX8_bits_9 rfl rfl ?_
      refine g_iload_n 0 (q := 11) dX8_bits_10 rfl rfl ?_
      refine g_iload_n 2 (q := 12) dX8_bits_11 rfl rfl ?_
      refine g_ishr (q := 13) dX8_bits_12 rfl ?_
      refine g_iconst (q := 14) (v := 1) dX8_bits_13 rfl rfl ?_
      refine g_iand (q := 15) dX8_bits_14 rfl ?_
      refine g_iadd (q := 16) dX8_bits_15 rfl ?_
      refine g_istore_n (q := 17) (L' := [(0, .int w0), (1, .int (v1 + ((w0 >>> (v2 &&& 31)) &&& 1))), (2, .int v2)]) dX8_bits_16 rfl (by decide) rfl ?_
      refine g_iinc 2 (q := 20) (v := (v2 + 1)) (L' := [(0, .int w0), (1, .int (v1 + ((w0 >>> (v2 &&& 31)) &&& 1))), (2, .int (v2 + 1))]) dX8_bits_17 rfl rfl rfl (by decide) rfl ?_
      refine g_goto (t := 4) dX8_bits_20 (by decide) ?_
      refine g_ls [0, 1, 2] rfl ?_
      exact ih _ _ _ hf
set_option maxRecDepth 20000 in
set_option maxHeartbeats 4000000 in
theorem ev_X8_bits {l : Launch} {E : tEn}  {h : tHp} {a0 : Int32} {res : Int32} (hf : f_X8_bits a0 = some res) : tEv l E yX8_bits cX8_bits 3 (some .int) 1 0 0 [.int a0] (h) (fun r h' => r = some (.int res) ∧ h' = h) := by
  refine tEv.of (own := RX8) (ini := false) (L := [(0, .int a0)]) (by decide +kernel) rfl (fun h9 => nomatch h9) rfl (Nat.le_of_ble_eq_true rfl) ?_
  rw [f_X8_bits] at hf
  refine g_iconst (q := 1) (v := 0) dX8_bits_0 rfl rfl ?_
  refine g_istore_n (q := 2) (L' := [(0, .int a0), (1, .int 0)]) dX8_bits_1 rfl (by decide) rfl ?_
  refine g_iconst (q := 3) (v := 0) dX8_bits_2 rfl rfl ?_
  refine g_istore_n (q := 4) (L' := [(0, .int a0), (1, .int 0), (2, .int 0)]) dX8_bits_3 rfl (by decide) rfl ?_
  refine g_ls [0, 1, 2] rfl ?_
  refine ev_X8_bits_L4 (fun y2 res hf => ?_) tFU _ _ res hf
  refine g_iload_n 0 (q := 24) dX8_bits_23 rfl rfl ?_
  have hf := Option.some.inj hf
  subst hf
  exact g_ireturn dX8_bits_24 rfl ⟨rfl, rfl⟩
def f_X8_lowest_L2 (w0 : Int32) (K : Int32 → Option (Int32)) : Nat → Int32 → Option (Int32)
  | 0, _ => none
  | fu + 1, v1 => (if ((w0 >>> (v1 &&& 31)) &&& 1) = 0 then f_X8_lowest_L2 w0 K fu (v1 + 1) else K v1)
def f_X8_lowest (a0 : Int32)  : Option (Int32) := f_X8_lowest_L2 a0 (fun y2 => some y2) tFU 0
set_option maxRecDepth 20000 in
set_option maxHeartbeats 4000000 in
theorem ev_X8_lowest_L2 {l : Launch} {E : tEn}   {h : tHp} {w0 : Int32} {K : Int32 → Option (Int32)} (hK : ∀ (v1 : Int32)  (res : Int32), K v1 = some res → tG l E RX8 cX8_lowest 2 (some .int) false 1 (fun r h' => r = some (.int res) ∧ h' = h) 0 0 16 [(1, .int v1)] [] (h)) :
    ∀ (fu : Nat) (v1 : Int32) (res : Int32), f_X8_lowest_L2 w0 K fu v1 = some res → tG l E RX8 cX8_lowest 2 (some .int) false 1 (fun r h' => r = some (.int res) ∧ h' = h) 0 0 2 [(0, .int w0), (1, .int v1)] [] (h) := by
  intro fu
  induction fu with
  | zero => intro v1 res hf; exact nomatch (show none = some res from hf)
  | succ fu ih =>
    intro v1 res hf
    rw [f_X8_lowest_L2] at hf
    refine g_iload_n 0 (q := 3) dX8_lowest_2 rfl rfl ?_
    refine g_iload_n 1 (q := 4) dX8_lowest_3 rfl rfl ?_
    refine g_ishr (q := 5) dX8_lowest_4 rfl ?_
    refine g_iconst (q := 6) (v := 1) dX8_lowest_5 rfl rfl ?_
    refine g_iand (q := 7) dX8_lowest_6 rfl ?_
    refine g_if_ne (t := 16) (q := 10) dX8_lowest_7 (by decide) rfl (fun c1 => ?_) (fun c1 => ?_)
    · rw [if_neg c1] at hf
      refine g_ls [1] rfl ?_
      exact hK _ _ hf
    · rw [if_pos c1] at hf
      refine g_iinc 1 (q := 13) (v := (v1 + 1)) (L' := [(0, .int w0), (1, .int (v1 + 1))]) dX8_lowest_10 rfl rfl rfl (by decide) rfl ?_
      refine g_goto (t := 2) dX8_lowest_13 (by decide) ?_
      refine g_ls [0, 1] rfl ?_
      exact ih _ _ hf
set_option maxRecDepth 20000 in
set_option maxHeartbeats 4000000 in
theorem ev_X8_lowest {l : Launch} {E : tEn}  {h : tHp} {a0 : Int32} {res : Int32} (hf : f_X8_lowest a0 = some res) : tEv l E yX8_lowest cX8_lowest 2 (some .int) 1 0 0 [.int a0] (h) (fun r h' => r = some (.int res) ∧ h' = h) := by
  refine tEv.of (own := RX8) (ini := false) (L := [(0, .int a0)]) (by decide +kernel) rfl (fun h9 => nomatch h9) rfl (Nat.le_of_ble_eq_true rfl) ?_
  rw [f_X8_lowest] at hf
  refine g_iconst (q := 1) (v := 0) dX8_lowest_0 rfl rfl ?_
  refine g_istore_n (q := 2) (L' := [(0, .int a0), (1, .int 0)]) dX8_lowest_1 rfl (by decide) rfl ?_
  refine g_ls [0, 1] rfl ?_
  refine ev_X8_lowest_L2 (fun y2 res hf => ?_) tFU _ res hf
  refine g_iload_n 0 (q := 17) dX8_lowest_16 rfl rfl ?_
  have hf := Option.some.inj hf
  subst hf
  exact g_ireturn dX8_lowest_17 rfl ⟨rfl, rfl⟩
def f_X8_join_L72 (w1 : Int32) (w2 : Int32) (w3 : Int32) (w5 : Int32) (K : Int32 → List Int64 → List Int32 → List Int32 → Option (Int32 × List Int64 × List Int32 × List Int32)) : Nat → Int32 → Int32 → List Int64 → List Int32 → List Int32 → Option (Int32 × List Int64 × List Int32 × List Int32)
  | 0, _, _, _, _, _ => none
  | fu + 1, v6, m_ke, m_md, m_ms, m_mr => (if w3 ≤ v6 then K  m_ke m_md m_ms m_mr else (tld m_ms v6).bind fun r17 => (tld m_ms w5).bind fun r19 => (if r17 = (w1 &&& (r19 ^^^ (-1))) then (if w2 = 1 then (tld m_md w5).bind fun r29 => (tld m_md v6).bind fun r31 => (f_X8_make w1 w2 (r29 &&& r31) m_ke m_md m_ms m_mr).bind fun r33 => f_X8_join_L72 w1 w2 w3 w5 K fu (v6 + 1) (r33.1) (r33.2.1) (r33.2.2.1) (r33.2.2.2) else (tld m_md w5).bind fun r23 => (tld m_md v6).bind fun r25 => (f_X8_make w1 w2 (r23 ||| r25) m_ke m_md m_ms m_mr).bind fun r27 => f_X8_join_L72 w1 w2 w3 w5 K fu (v6 + 1) (r27.1) (r27.2.1) (r27.2.2.1) (r27.2.2.2)) else f_X8_join_L72 w1 w2 w3 w5 K fu (v6 + 1) m_ke m_md m_ms m_mr))
def f_X8_join_L11 (w1 : Int32) (w2 : Int32) (w3 : Int32) (w4 : Int32) (K : Int32 → List Int64 → List Int32 → List Int32 → Option (Int32 × List Int64 × List Int32 × List Int32)) : Nat → Int32 → Int32 → List Int64 → List Int32 → List Int32 → Option (Int32 × List Int64 × List Int32 × List Int32)
  | 0, _, _, _, _, _ => none
  | fu + 1, v5, m_ke, m_md, m_ms, m_mr => (if w3 ≤ v5 then K  m_ke m_md m_ms m_mr else (tld m_ms v5).bind fun r4 => (if (r4 &&& w4) = 0 then f_X8_join_L11 w1 w2 w3 w4 K fu (v5 + 1) m_ke m_md m_ms m_mr else (tld m_ms v5).bind fun r7 => (if (r7 &&& (w1 ^^^ (-1))) = 0 then (tld m_ms v5).bind fun r10 => (if r10 = w1 then f_X8_join_L11 w1 w2 w3 w4 K fu (v5 + 1) m_ke m_md m_ms m_mr else (tld m_mr v5).bind fun r13 => (if r13 = w2 then f_X8_join_L11 w1 w2 w3 w4 K fu (v5 + 1) m_ke m_md m_ms m_mr else f_X8_join_L72 w1 w2 w3 v5 (fun k35 k36 k37 k38 => f_X8_join_L11 w1 w2 w3 w4 K fu (v5 + 1) k35 k36 k37 k38) tFU 0 m_ke m_md m_ms m_mr)) else f_X8_join_L11 w1 w2 w3 w4 K fu (v5 + 1) m_ke m_md m_ms m_mr)))
def f_X8_join (a0 : Int32) (a1 : Int32) (a2 : Int32) (m_ke : Int32) (m_md : List Int64) (m_ms : List Int32) (m_mr : List Int32) : Option (Int32 × List Int64 × List Int32 × List Int32) := (f_X8_lowest a0).bind fun r1 => f_X8_join_L11 a0 a1 a2 ((1 : Int32) <<< (r1 &&& 31)) (fun k39 k40 k41 k42 => some (k39, k40, k41, k42)) tFU 0 m_ke m_md m_ms m_mr
set_option maxRecDepth 20000 in
set_option maxHeartbeats 4000000 in
theorem ev_X8_join_L72 {l : Launch} {E : tEn}   {m_n : Int32} {m_pt : Int32} {m_rc : Int32} {m_sa : Int64} {m_sb : Int64} {m_sc : Int32} {m_is : Int32} {m_os : Int32} {m_vn : Int32} {m_vc : Int32} {m_va : Int64} {m_vb : Int64} {m_ve : Int32} {m_no : Int32} {m_pl : Int32} {m_fa : Int32} {m_oc : Int32} {m_fu : Int32} {m_t : List Int64} {m_f : List Int32} {m_rs : List Int32} {m_rt : List Int64} {m_rf : List Int32} {m_st : List Int32} {m_ib : List Int32} {m_ob : List Int32} {m_al : List Int32} {m_el : List Int32} {m_vt : List Int64} {m_vf : List Int32} {m_vs : List Int32} {m_nr : List Int32} {m_ty : List Int32} {m_pa : List Int32} {m_fn : List Int64} {w1 : Int32} {w2 : Int32} {w3 : Int32} {w4 : Int32} {w5 : Int32} {K : Int32 → List Int64 → List Int32 → List Int32 → Option (Int32 × List Int64 × List Int32 × List Int32)} (hK : ∀  (m_ke : Int32) (m_md : List Int64) (m_ms : List Int32) (m_mr : List Int32) (res : Int32 × List Int64 × List Int32 × List Int32), K m_ke m_md m_ms m_mr = some res → tG l E RX8 cX8_join 7 none false 2 (fun r h' => r = none ∧ h' = encM m_n m_pt m_rc m_sa m_sb m_sc m_is m_os m_vn m_vc m_va m_vb m_ve m_no m_pl m_fa m_oc m_fu (res.1) m_t m_f m_rs m_rt m_rf m_st m_ib m_ob m_al m_el m_vt m_vf m_vs m_nr m_ty m_pa m_fn (res.2.1) (res.2.2.1) (res.2.2.2)) 0 0 149 [(0, .ref 0), (1, .int w1), (2, .int w2), (3, .int w3), (4, .int w4), (5, .int w5)] [] (encM m_n m_pt m_rc m_sa m_sb m_sc m_is m_os m_vn m_vc m_va m_vb m_ve m_no m_pl m_fa m_oc m_fu m_ke m_t m_f m_rs m_rt m_rf m_st m_ib m_ob m_al m_el m_vt m_vf m_vs m_nr m_ty m_pa m_fn m_md m_ms m_mr)) :
    ∀ (fu : Nat) (v6 : Int32) (m_ke : Int32) (m_md : List Int64) (m_ms : List Int32) (m_mr : List Int32) (res : Int32 × List Int64 × List Int32 × List Int32), f_X8_join_L72 w1 w2 w3 w5 K fu v6 m_ke m_md m_ms m_mr = some res → tG l E RX8 cX8_join 7 none false 2 (fun r h' => r = none ∧ h' = encM m_n m_pt m_rc m_sa m_sb m_sc m_is m_os m_vn m_vc m_va m_vb m_ve m_no m_pl m_fa m_oc m_fu (res.1) m_t m_f m_rs m_rt m_rf m_st m_ib m_ob m_al m_el m_vt m_vf m_vs m_nr m_ty m_pa m_fn (res.2.1) (res.2.2.1) (res.2.2.2)) 0 0 72 [(0, .ref 0), (1, .int w1), (2, .int w2), (3, .int w3), (4, .int w4), (5, .int w5), (6, .int v6)] [] (encM m_n m_pt m_rc m_sa m_sb m_sc m_is m_os m_vn m_vc m_va m_vb m_ve m_no m_pl m_fa m_oc m_fu m_ke m_t m_f m_rs m_rt m_rf m_st m_ib m_ob m_al m_el m_vt m_vf m_vs m_nr m_ty m_pa m_fn m_md m_ms m_mr) := by
  intro fu
  induction fu with
  | zero => intro v6 m_ke m_md m_ms m_mr res hf; exact nomatch (show none = some res from hf)
  | succ fu ih =>
    intro v6 m_ke m_md m_ms m_mr res hf
    rw [f_X8_join_L72] at hf
    refine g_iload 6 (q := 74) dX8_join_72 rfl rfl ?_
    refine g_iload_n 3 (q := 75) dX8_join_74 rfl rfl ?_
    refine g_icmp_ge (t := 149) (q := 78) dX8_join_75 (by decide) rfl (fun c16 => ?_) (fun c16 => ?_)
    · rw [if_pos c16] at hf
      refine g_ls [0, 1, 2, 3, 4, 5] rfl ?_
      exact hK _ _ _ _ _ hf
    · rw [if_neg c16] at hf
      refine g_aload_n 0 (q := 79) dX8_join_78 rfl rfl ?_
      refine g_get (q := 82) fl_X8_76 dX8_join_79 rfl rfl rfl ?_
      refine g_iload 6 (q := 84) dX8_join_82 rfl rfl ?_
      obtain ⟨r17, e18, hf⟩ := Option.bind_eq_some_iff.mp hf
      refine g_iaload (q := 85) dX8_join_84 rfl rfl e18 ?_
      refine g_iload_n 1 (q := 86) dX8_join_85 rfl rfl ?_
      refine g_aload_n 0 (q := 87) dX8_join_86 rfl rfl ?_
      refine g_get (q := 90) fl_X8_76 dX8_join_87 rfl rfl rfl ?_
      refine g_iload 5 (q := 92) dX8_join_90 rfl rfl ?_
      obtain ⟨r19, e20, hf⟩ := Option.bind_eq_some_iff.mp hf
      refine g_iaload (q := 93) dX8_join_92 rfl rfl e20 ?_
      refine g_iconst (q := 94) (v := (-1)) dX8_join_93 rfl rfl ?_
      refine g_ixor (q := 95) dX8_join_94 rfl ?_
      refine g_iand (q := 96) dX8_join_95 rfl ?_
      refine g_icmp_ne (t := 143) (q := 99) dX8_join_96 (by decide) rfl (fun c21 => ?_) (fun c21 => ?_)
      · rw [if_neg c21] at hf
        refine g_iinc 6 (q := 146) (v := (v6 + 1)) (L' := [(0, .ref 0), (1, .int w1), (2, .int w2), (3, .int w3), (4, .int w4), (5, .int w5), (6, .int (v6 + 1))]) dX8_join_143 rfl rfl rfl (by decide) rfl ?_
        refine g_goto (t := 72) dX8_join_146 (by decide) ?_
        refine g_ls [0, 1, 2, 3, 4, 5, 6] rfl ?_
        exact ih _ _ _ _ _ _ hf
      · rw [if_pos c21] at hf
        refine g_aload_n 0 (q := 100) dX8_join_99 rfl rfl ?_
        refine g_iload_n 1 (q := 101) dX8_join_100 rfl rfl ?_
        refine g_iload_n 2 (q := 102) dX8_join_101 rfl rfl ?_
        refine g_iload_n 2 (q := 103) dX8_join_102 rfl rfl ?_
        refine g_iconst (q := 104) (v := 1) dX8_join_103 rfl rfl ?_
        refine g_icmp_ne (t := 125) (q := 107) dX8_join_104 (by decide) rfl (fun c22 => ?_) (fun c22 => ?_)
        · rw [if_neg c22] at hf
          refine g_aload_n 0 (q := 126) dX8_join_125 rfl rfl ?_
          refine g_get (q := 129) fl_X8_73 dX8_join_126 rfl rfl rfl ?_
          refine g_iload 5 (q := 131) dX8_join_129 rfl rfl ?_
          obtain ⟨r23, e24, hf⟩ := Option.bind_eq_some_iff.mp hf
          refine g_laload (q := 132) dX8_join_131 rfl rfl e24 ?_
          refine g_aload_n 0 (q := 133) dX8_join_132 rfl rfl ?_
          refine g_get (q := 136) fl_X8_73 dX8_join_133 rfl rfl rfl ?_
          refine g_iload 6 (q := 138) dX8_join_136 rfl rfl ?_
          obtain ⟨r25, e26, hf⟩ := Option.bind_eq_some_iff.mp hf
          refine g_laload (q := 139) dX8_join_138 rfl rfl e26 ?_
          refine g_lor (q := 140) dX8_join_139 rfl ?_
          obtain ⟨r27, e28, hf⟩ := Option.bind_eq_some_iff.mp hf
          refine g_callV (a := 0) (k2 := 0) (n2 := 0) (q := 143) (as := [.int w1, .int w2, .long (r23 ||| r25)]) (st := []) (st1 := []) tm_X8_make ml_X8_278 ti_X8_make rfl rfl dX8_join_140 rfl (ev_X8_make e28) rfl rfl (Nat.le_of_ble_eq_true rfl) (by decide) rfl rfl (Or.inl (encM_len.trans encM_len.symm)) rfl ?_
          refine g_iinc 6 (q := 146) (v := (v6 + 1)) (L' := [(0, .ref 0), (1, .int w1), (2, .int w2), (3, .int w3), (4, .int w4), (5, .int w5), (6, .int (v6 + 1))]) dX8_join_143 rfl rfl rfl (by decide) rfl ?_
          refine g_goto (t := 72) dX8_join_146 (by decide) ?_
          refine g_ls [0, 1, 2, 3, 4, 5, 6] rfl ?_
          exact ih _ _ _ _ _ _ hf
        · rw [if_pos c22] at hf
          refine g_aload_n 0 (q := 108) dX8_join_107 rfl rfl ?_
          refine g_get (q := 111) fl_X8_73 dX8_join_108 rfl rfl rfl ?_
          refine g_iload 5 (q := 113) dX8_join_111 rfl rfl ?_
          obtain ⟨r29, e30, hf⟩ := Option.bind_eq_some_iff.mp hf
          refine g_laload (q := 114) dX8_join_113 rfl rfl e30 ?_
          refine g_aload_n 0 (q := 115) dX8_join_114 rfl rfl ?_
          refine g_get (q := 118) fl_X8_73 dX8_join_115 rfl rfl rfl ?_
          refine g_iload 6 (q := 120) dX8_join_118 rfl rfl ?_
          obtain ⟨r31, e32, hf⟩ := Option.bind_eq_some_iff.mp hf
          refine g_laload (q := 121) dX8_join_120 rfl rfl e32 ?_
          refine g_land (q := 122) dX8_join_121 rfl ?_
          refine g_goto (t := 140) dX8_join_122 (by decide) ?_
          obtain ⟨r33, e34, hf⟩ := Option.bind_eq_some_iff.mp hf
          refine g_callV (a := 0) (k2 := 0) (n2 := 0) (q := 143) (as := [.int w1, .int w2, .long (r29 &&& r31)]) (st := []) (st1 := []) tm_X8_make ml_X8_278 ti_X8_make rfl rfl dX8_join_140 rfl (ev_X8_make e34) rfl rfl (Nat.le_of_ble_eq_true rfl) (by decide) rfl rfl (Or.inl (encM_len.trans encM_len.symm)) rfl ?_
          refine g_iinc 6 (q := 146) (v := (v6 + 1)) (L' := [(0, .ref 0), (1, .int w1), (2, .int w2), (3, .int w3), (4, .int w4), (5, .int w5), (6, .int (v6 + 1))]) dX8_join_143 rfl rfl rfl (by decide) rfl ?_
          refine g_goto (t := 72) dX8_join_146 (by decide) ?_
          refine g_ls [0, 1, 2, 3, 4, 5, 6] rfl ?_
          exact ih _ _ _ _ _ _ hf
set_option maxRecDepth 20000 in
set_option maxHeartbeats 4000000 in
theorem ev_X8_join_L11 {l : Launch} {E : tEn}   {m_n : Int32} {m_pt : Int32} {m_rc : Int32} {m_sa : Int64} {m_sb : Int64} {m_sc : Int32} {m_is : Int32} {m_os : Int32} {m_vn : Int32} {m_vc : Int32} {m_va : Int64} {m_vb : Int64} {m_ve : Int32} {m_no : Int32} {m_pl : Int32} {m_fa : Int32} {m_oc : Int32} {m_fu : Int32} {m_t : List Int64} {m_f : List Int32} {m_rs : List Int32} {m_rt : List Int64} {m_rf : List Int32} {m_st : List Int32} {m_ib : List Int32} {m_ob : List Int32} {m_al : List Int32} {m_el : List Int32} {m_vt : List Int64} {m_vf : List Int32} {m_vs : List Int32} {m_nr : List Int32} {m_ty : List Int32} {m_pa : List Int32} {m_fn : List Int64} {w1 : Int32} {w2 : Int32} {w3 : Int32} {w4 : Int32} {K : Int32 → List Int64 → List Int32 → List Int32 → Option (Int32 × List Int64 × List Int32 × List Int32)} (hK : ∀  (m_ke : Int32) (m_md : List Int64) (m_ms : List Int32) (m_mr : List Int32) (res : Int32 × List Int64 × List Int32 × List Int32), K m_ke m_md m_ms m_mr = some res → tG l E RX8 cX8_join 7 none false 2 (fun r h' => r = none ∧ h' = encM m_n m_pt m_rc m_sa m_sb m_sc m_is m_os m_vn m_vc m_va m_vb m_ve m_no m_pl m_fa m_oc m_fu (res.1) m_t m_f m_rs m_rt m_rf m_st m_ib m_ob m_al m_el m_vt m_vf m_vs m_nr m_ty m_pa m_fn (res.2.1) (res.2.2.1) (res.2.2.2)) 0 0 155 [] [] (encM m_n m_pt m_rc m_sa m_sb m_sc m_is m_os m_vn m_vc m_va m_vb m_ve m_no m_pl m_fa m_oc m_fu m_ke m_t m_f m_rs m_rt m_rf m_st m_ib m_ob m_al m_el m_vt m_vf m_vs m_nr m_ty m_pa m_fn m_md m_ms m_mr)) :
    ∀ (fu : Nat) (v5 : Int32) (m_ke : Int32) (m_md : List Int64) (m_ms : List Int32) (m_mr : List Int32) (res : Int32 × List Int64 × List Int32 × List Int32), f_X8_join_L11 w1 w2 w3 w4 K fu v5 m_ke m_md m_ms m_mr = some res → tG l E RX8 cX8_join 7 none false 2 (fun r h' => r = none ∧ h' = encM m_n m_pt m_rc m_sa m_sb m_sc m_is m_os m_vn m_vc m_va m_vb m_ve m_no m_pl m_fa m_oc m_fu (res.1) m_t m_f m_rs m_rt m_rf m_st m_ib m_ob m_al m_el m_vt m_vf m_vs m_nr m_ty m_pa m_fn (res.2.1) (res.2.2.1) (res.2.2.2)) 0 0 11 [(0, .ref 0), (1, .int w1), (2, .int w2), (3, .int w3), (4, .int w4), (5, .int v5)] [] (encM m_n m_pt m_rc m_sa m_sb m_sc m_is m_os m_vn m_vc m_va m_vb m_ve m_no m_pl m_fa m_oc m_fu m_ke m_t m_f m_rs m_rt m_rf m_st m_ib m_ob m_al m_el m_vt m_vf m_vs m_nr m_ty m_pa m_fn m_md m_ms m_mr) := by
  intro fu
  induction fu with
  | zero => intro v5 m_ke m_md m_ms m_mr res hf; exact nomatch (show none = some res from hf)
  | succ fu ih =>
    intro v5 m_ke m_md m_ms m_mr res hf
    rw [f_X8_join_L11] at hf
    refine g_iload 5 (q := 13) dX8_join_11 rfl rfl ?_
    refine g_iload_n 3 (q := 14) dX8_join_13 rfl rfl ?_
    refine g_icmp_ge (t := 155) (q := 17) dX8_join_14 (by decide) rfl (fun c3 => ?_) (fun c3 => ?_)
    · rw [if_pos c3] at hf
      refine g_ls [] rfl ?_
      exact hK _ _ _ _ _ hf
    · rw [if_neg c3] at hf
      refine g_aload_n 0 (q := 18) dX8_join_17 rfl rfl ?_
      refine g_get (q := 21) fl_X8_76 dX8_join_18 rfl rfl rfl ?_
      refine g_iload 5 (q := 23) dX8_join_21 rfl rfl ?_
      obtain ⟨r4, e5, hf⟩ := Option.bind_eq_some_iff.mp hf
      refine g_iaload (q := 24) dX8_join_23 rfl rfl e5 ?_
      refine g_iload 4 (q := 26) dX8_join_24 rfl rfl ?_
      refine g_iand (q := 27) dX8_join_26 rfl ?_
      refine g_if_eq (t := 149) (q := 30) dX8_join_27 (by decide) rfl (fun c6 => ?_) (fun c6 => ?_)
      · rw [if_pos c6] at hf
        refine g_iinc 5 (q := 152) (v := (v5 + 1)) (L' := [(0, .ref 0), (1, .int w1), (2, .int w2), (3, .int w3), (4, .int w4), (5, .int (v5 + 1))]) dX8_join_149 rfl rfl rfl (by decide) rfl ?_
        refine g_goto (t := 11) dX8_join_152 (by decide) ?_
        refine g_ls [0, 1, 2, 3, 4, 5] rfl ?_
        exact ih _ _ _ _ _ _ hf
      · rw [if_neg c6] at hf
        refine g_aload_n 0 (q := 31) dX8_join_30 rfl rfl ?_
        refine g_get (q := 34) fl_X8_76 dX8_join_31 rfl rfl rfl ?_
        refine g_iload 5 (q := 36) dX8_join_34 rfl rfl ?_
        obtain ⟨r7, e8, hf⟩ := Option.bind_eq_some_iff.mp hf
        refine g_iaload (q := 37) dX8_join_36 rfl rfl e8 ?_
        refine g_iload_n 1 (q := 38) dX8_join_37 rfl rfl ?_
        refine g_iconst (q := 39) (v := (-1)) dX8_join_38 rfl rfl ?_
        refine g_ixor (q := 40) dX8_join_39 rfl ?_
        refine g_iand (q := 41) dX8_join_40 rfl ?_
        refine g_if_ne (t := 149) (q := 44) dX8_join_41 (by decide) rfl (fun c9 => ?_) (fun c9 => ?_)
        · rw [if_neg c9] at hf
          refine g_iinc 5 (q := 152) (v := (v5 + 1)) (L' := [(0, .ref 0), (1, .int w1), (2, .int w2), (3, .int w3), (4, .int w4), (5, .int (v5 + 1))]) dX8_join_149 rfl rfl rfl (by decide) rfl ?_
          refine g_goto (t := 11) dX8_join_152 (by decide) ?_
          refine g_ls [0, 1, 2, 3, 4, 5] rfl ?_
          exact ih _ _ _ _ _ _ hf
        · rw [if_pos c9] at hf
          refine g_aload_n 0 (q := 45) dX8_join_44 rfl rfl ?_
          refine g_get (q := 48) fl_X8_76 dX8_join_45 rfl rfl rfl ?_
          refine g_iload 5 (q := 50) dX8_join_48 rfl rfl ?_
          obtain ⟨r10, e11, hf⟩ := Option.bind_eq_some_iff.mp hf
          refine g_iaload (q := 51) dX8_join_50 rfl rfl e11 ?_
          refine g_iload_n 1 (q := 52) dX8_join_51 rfl rfl ?_
          refine g_icmp_eq (t := 149) (q := 55) dX8_join_52 (by decide) rfl (fun c12 => ?_) (fun c12 => ?_)
          · rw [if_pos c12] at hf
            refine g_iinc 5 (q := 152) (v := (v5 + 1)) (L' := [(0, .ref 0), (1, .int w1), (2, .int w2), (3, .int w3), (4, .int w4), (5, .int (v5 + 1))]) dX8_join_149 rfl rfl rfl (by decide) rfl ?_
            refine g_goto (t := 11) dX8_join_152 (by decide) ?_
            refine g_ls [0, 1, 2, 3, 4, 5] rfl ?_
            exact ih _ _ _ _ _ _ hf
          · rw [if_neg c12] at hf
            refine g_aload_n 0 (q := 56) dX8_join_55 rfl rfl ?_
            refine g_get (q := 59) fl_X8_79 dX8_join_56 rfl rfl rfl ?_
            refine g_iload 5 (q := 61) dX8_join_59 rfl rfl ?_
            obtain ⟨r13, e14, hf⟩ := Option.bind_eq_some_iff.mp hf
            refine g_iaload (q := 62) dX8_join_61 rfl rfl e14 ?_
            refine g_iload_n 2 (q := 63) dX8_join_62 rfl rfl ?_
            refine g_icmp_ne (t := 69) (q := 66) dX8_join_63 (by decide) rfl (fun c15 => ?_) (fun c15 => ?_)
            · rw [if_neg c15] at hf
              refine g_iconst (q := 70) (v := 0) dX8_join_69 rfl rfl ?_
              refine g_istore (q := 72) (L' := [(0, .ref 0), (1, .int w1), (2, .int w2), (3, .int w3), (4, .int w4), (5, .int v5), (6, .int 0)]) dX8_join_70 rfl (by decide) rfl ?_
              refine g_ls [0, 1, 2, 3, 4, 5, 6] rfl ?_
              refine ev_X8_join_L72 (fun k35 k36 k37 k38 res hf => ?_) tFU _ _ _ _ _ res hf
              refine g_iinc 5 (q := 152) (v := (v5 + 1)) (L' := [(0, .ref 0), (1, .int w1), (2, .int w2), (3, .int w3), (4, .int w4), (5, .int (v5 + 1))]) dX8_join_149 rfl rfl rfl (by decide) rfl ?_
              refine g_goto (t := 11) dX8_join_152 (by decide) ?_
              refine g_ls [0, 1, 2, 3, 4, 5] rfl ?_
              exact ih _ _ _ _ _ _ hf
            · rw [if_pos c15] at hf
              refine g_goto (t := 149) dX8_join_66 (by decide) ?_
              refine g_iinc 5 (q := 152) (v := (v5 + 1)) (L' := [(0, .ref 0), (1, .int w1), (2, .int w2), (3, .int w3), (4, .int w4), (5, .int (v5 + 1))]) dX8_join_149 rfl rfl rfl (by decide) rfl ?_
              refine g_goto (t := 11) dX8_join_152 (by decide) ?_
              refine g_ls [0, 1, 2, 3, 4, 5] rfl ?_
              exact ih _ _ _ _ _ _ hf
set_option maxRecDepth 20000 in
set_option maxHeartbeats 4000000 in
theorem ev_X8_join {l : Launch} {E : tEn}  {m_n : Int32} {m_pt : Int32} {m_rc : Int32} {m_sa : Int64} {m_sb : Int64} {m_sc : Int32} {m_is : Int32} {m_os : Int32} {m_vn : Int32} {m_vc : Int32} {m_va : Int64} {m_vb : Int64} {m_ve : Int32} {m_no : Int32} {m_pl : Int32} {m_fa : Int32} {m_oc : Int32} {m_fu : Int32} {m_ke : Int32} {m_t : List Int64} {m_f : List Int32} {m_rs : List Int32} {m_rt : List Int64} {m_rf : List Int32} {m_st : List Int32} {m_ib : List Int32} {m_ob : List Int32} {m_al : List Int32} {m_el : List Int32} {m_vt : List Int64} {m_vf : List Int32} {m_vs : List Int32} {m_nr : List Int32} {m_ty : List Int32} {m_pa : List Int32} {m_fn : List Int64} {m_md : List Int64} {m_ms : List Int32} {m_mr : List Int32} {a0 : Int32} {a1 : Int32} {a2 : Int32} {res : Int32 × List Int64 × List Int32 × List Int32} (hf : f_X8_join a0 a1 a2 m_ke m_md m_ms m_mr = some res) : tEv l E yX8_join cX8_join 7 none 2 0 0 [.ref 0, .int a0, .int a1, .int a2] (encM m_n m_pt m_rc m_sa m_sb m_sc m_is m_os m_vn m_vc m_va m_vb m_ve m_no m_pl m_fa m_oc m_fu m_ke m_t m_f m_rs m_rt m_rf m_st m_ib m_ob m_al m_el m_vt m_vf m_vs m_nr m_ty m_pa m_fn m_md m_ms m_mr) (fun r h' => r = none ∧ h' = encM m_n m_pt m_rc m_sa m_sb m_sc m_is m_os m_vn m_vc m_va m_vb m_ve m_no m_pl m_fa m_oc m_fu (res.1) m_t m_f m_rs m_rt m_rf m_st m_ib m_ob m_al m_el m_vt m_vf m_vs m_nr m_ty m_pa m_fn (res.2.1) (res.2.2.1) (res.2.2.2)) := by
  refine tEv.of (own := RX8) (ini := false) (L := [(0, .ref 0), (1, .int a0), (2, .int a1), (3, .int a2)]) (by decide +kernel) rfl (fun h9 => nomatch h9) rfl (Nat.le_of_ble_eq_true rfl) ?_
  rw [f_X8_join] at hf
  refine g_iconst (q := 1) (v := 1) dX8_join_0 rfl rfl ?_
  refine g_iload_n 1 (q := 2) dX8_join_1 rfl rfl ?_
  obtain ⟨r1, e2, hf⟩ := Option.bind_eq_some_iff.mp hf
  refine g_callS (k2 := 0) (n2 := 0) (q := 5) (as := [.int a0]) (st := [.int 1]) (st1 := [.int r1, .int 1]) tm_X8_lowest ml_X8_197 ts_X8_lowest dX8_join_2 rfl (ev_X8_lowest e2) rfl rfl (Nat.le_of_ble_eq_true rfl) (by decide) rfl rfl (Or.inl rfl) rfl ?_
  refine g_ishl (q := 6) dX8_join_5 rfl ?_
  refine g_istore (q := 8) (L' := [(0, .ref 0), (1, .int a0), (2, .int a1), (3, .int a2), (4, .int ((1 : Int32) <<< (r1 &&& 31)))]) dX8_join_6 rfl (by decide) rfl ?_
  refine g_iconst (q := 9) (v := 0) dX8_join_8 rfl rfl ?_
  refine g_istore (q := 11) (L' := [(0, .ref 0), (1, .int a0), (2, .int a1), (3, .int a2), (4, .int ((1 : Int32) <<< (r1 &&& 31))), (5, .int 0)]) dX8_join_9 rfl (by decide) rfl ?_
  refine g_ls [0, 1, 2, 3, 4, 5] rfl ?_
  refine ev_X8_join_L11 (fun k39 k40 k41 k42 res hf => ?_) tFU _ _ _ _ _ res hf
  have hf := Option.some.inj hf
  subst hf
  exact g_return dX8_join_155 rfl ⟨rfl, rfl⟩
def f_X8_insert_L5 (w1 : Int64) (K : Int32 → List Int64 → Option (Int32 × List Int64)) : Nat → Int32 → List Int64 → Option (Int32 × List Int64)
  | 0, _, _ => none
  | fu + 1, v3, m_fn => (if v3 ≤ 0 then K v3 m_fn else (tld m_fn (v3 - 1)).bind fun r2 => (if (lg_cmp r2 w1) ≤ 0 then K v3 m_fn else (tld m_fn (v3 - 1)).bind fun r5 => (tst m_fn v3 r5).bind fun z7 => f_X8_insert_L5 w1 K fu (v3 + (-1)) z7))
def f_X8_insert (a0 : Int64) (m_fu : Int32) (m_fn : List Int64) : Option (Int32 × List Int64) := f_X8_insert_L5 a0 (fun y9 k10 => (tst k10 y9 a0).bind fun z11 => some ((m_fu + 1), z11)) tFU m_fu m_fn
set_option maxRecDepth 20000 in
set_option maxHeartbeats 4000000 in
theorem ev_X8_insert_L5 {l : Launch} {E : tEn}   {m_n : Int32} {m_pt : Int32} {m_rc : Int32} {m_sa : Int64} {m_sb : Int64} {m_sc : Int32} {m_is : Int32} {m_os : Int32} {m_vn : Int32} {m_vc : Int32} {m_va : Int64} {m_vb : Int64} {m_ve : Int32} {m_no : Int32} {m_pl : Int32} {m_fa : Int32} {m_oc : Int32} {m_fu : Int32} {m_ke : Int32} {m_t : List Int64} {m_f : List Int32} {m_rs : List Int32} {m_rt : List Int64} {m_rf : List Int32} {m_st : List Int32} {m_ib : List Int32} {m_ob : List Int32} {m_al : List Int32} {m_el : List Int32} {m_vt : List Int64} {m_vf : List Int32} {m_vs : List Int32} {m_nr : List Int32} {m_ty : List Int32} {m_pa : List Int32} {m_md : List Int64} {m_ms : List Int32} {m_mr : List Int32} {w1 : Int64} {K : Int32 → List Int64 → Option (Int32 × List Int64)} (hK : ∀ (v3 : Int32) (m_fn : List Int64) (res : Int32 × List Int64), K v3 m_fn = some res → tG l E RX8 cX8_insert 4 none false 1 (fun r h' => r = none ∧ h' = encM m_n m_pt m_rc m_sa m_sb m_sc m_is m_os m_vn m_vc m_va m_vb m_ve m_no m_pl m_fa m_oc (res.1) m_ke m_t m_f m_rs m_rt m_rf m_st m_ib m_ob m_al m_el m_vt m_vf m_vs m_nr m_ty m_pa (res.2) m_md m_ms m_mr) 0 0 42 [(0, .ref 0), (1, .long w1), (3, .int v3)] [] (encM m_n m_pt m_rc m_sa m_sb m_sc m_is m_os m_vn m_vc m_va m_vb m_ve m_no m_pl m_fa m_oc m_fu m_ke m_t m_f m_rs m_rt m_rf m_st m_ib m_ob m_al m_el m_vt m_vf m_vs m_nr m_ty m_pa m_fn m_md m_ms m_mr)) :
    ∀ (fu : Nat) (v3 : Int32) (m_fn : List Int64) (res : Int32 × List Int64), f_X8_insert_L5 w1 K fu v3 m_fn = some res → tG l E RX8 cX8_insert 4 none false 1 (fun r h' => r = none ∧ h' = encM m_n m_pt m_rc m_sa m_sb m_sc m_is m_os m_vn m_vc m_va m_vb m_ve m_no m_pl m_fa m_oc (res.1) m_ke m_t m_f m_rs m_rt m_rf m_st m_ib m_ob m_al m_el m_vt m_vf m_vs m_nr m_ty m_pa (res.2) m_md m_ms m_mr) 0 0 5 [(0, .ref 0), (1, .long w1), (3, .int v3)] [] (encM m_n m_pt m_rc m_sa m_sb m_sc m_is m_os m_vn m_vc m_va m_vb m_ve m_no m_pl m_fa m_oc m_fu m_ke m_t m_f m_rs m_rt m_rf m_st m_ib m_ob m_al m_el m_vt m_vf m_vs m_nr m_ty m_pa m_fn m_md m_ms m_mr) := by
  intro fu
  induction fu with
  | zero => intro v3 m_fn res hf; exact nomatch (show none = some res from hf)
  | succ fu ih =>
    intro v3 m_fn res hf
    rw [f_X8_insert_L5] at hf
    refine g_iload_n 2 (q := 6) dX8_insert_5 rfl rfl ?_
    refine g_if_le (t := 42) (q := 9) dX8_insert_6 (by decide) rfl (fun c1 => ?_) (fun c1 => ?_)
    · rw [if_pos c1] at hf
      refine g_ls [0, 1, 2] rfl ?_
      exact hK _ _ _ hf
    · rw [if_neg c1] at hf
      refine g_aload_n 0 (q := 10) dX8_insert_9 rfl rfl ?_
      refine g_get (q := 13) fl_X8_70 dX8_insert_10 rfl rfl rfl ?_
      refine g_iload_n 2 (q := 14) dX8_insert_13 rfl rfl ?_
      refine g_iconst (q := 15) (v := 1) dX8_insert_14 rfl rfl ?_
      refine g_isub (q := 16) dX8_insert_15 rfl ?_
      obtain ⟨r2, e3, hf⟩ := Option.bind_eq_some_iff.mp hf
      refine g_laload (q := 17) dX8_insert_16 rfl rfl e3 ?_
      refine g_lload_n 1 (q := 18) dX8_insert_17 rfl rfl ?_
      refine g_lcmp (q := 19) dX8_insert_18 rfl ?_
      refine g_if_le (t := 42) (q := 22) dX8_insert_19 (by decide) rfl (fun c4 => ?_) (fun c4 => ?_)
      · rw [if_pos c4] at hf
        refine g_ls [0, 1, 2] rfl ?_
        exact hK _ _ _ hf
      · rw [if_neg c4] at hf
        refine g_aload_n 0 (q := 23) dX8_insert_22 rfl rfl ?_
        refine g_get (q := 26) fl_X8_70 dX8_insert_23 rfl rfl rfl ?_
        refine g_iload_n 2 (q := 27) dX8_insert_26 rfl rfl ?_
        refine g_aload_n 0 (q := 28) dX8_insert_27 rfl rfl ?_
        refine g_get (q := 31) fl_X8_70 dX8_insert_28 rfl rfl rfl ?_
        refine g_iload_n 2 (q := 32) dX8_insert_31 rfl rfl ?_
        refine g_iconst (q := 33) (v := 1) dX8_insert_32 rfl rfl ?_
        refine g_isub (q := 34) dX8_insert_33 rfl ?_
        obtain ⟨r5, e6, hf⟩ := Option.bind_eq_some_iff.mp hf
        refine g_laload (q := 35) dX8_insert_34 rfl rfl e6 ?_
        obtain ⟨z7, e8, hf⟩ := Option.bind_eq_some_iff.mp hf
        refine g_lastore (q := 36) (h' := encM m_n m_pt m_rc m_sa m_sb m_sc m_is m_os m_vn m_vc m_va m_vb m_ve m_no m_pl m_fa m_oc m_fu m_ke m_t m_f m_rs m_rt m_rf m_st m_ib m_ob m_al m_el m_vt m_vf m_vs m_nr m_ty m_pa z7 m_md m_ms m_mr) dX8_insert_35 rfl rfl e8 rfl ?_
        refine g_iinc 2 (q := 39) (v := (v3 + (-1))) (L' := [(0, .ref 0), (1, .long w1), (3, .int (v3 + (-1)))]) dX8_insert_36 rfl rfl rfl (by decide) rfl ?_
        refine g_goto (t := 5) dX8_insert_39 (by decide) ?_
        refine g_ls [0, 1, 2] rfl ?_
        exact ih _ _ _ hf
set_option maxRecDepth 20000 in
set_option maxHeartbeats 4000000 in
theorem ev_X8_insert {l : Launch} {E : tEn}  {m_n : Int32} {m_pt : Int32} {m_rc : Int32} {m_sa : Int64} {m_sb : Int64} {m_sc : Int32} {m_is : Int32} {m_os : Int32} {m_vn : Int32} {m_vc : Int32} {m_va : Int64} {m_vb : Int64} {m_ve : Int32} {m_no : Int32} {m_pl : Int32} {m_fa : Int32} {m_oc : Int32} {m_fu : Int32} {m_ke : Int32} {m_t : List Int64} {m_f : List Int32} {m_rs : List Int32} {m_rt : List Int64} {m_rf : List Int32} {m_st : List Int32} {m_ib : List Int32} {m_ob : List Int32} {m_al : List Int32} {m_el : List Int32} {m_vt : List Int64} {m_vf : List Int32} {m_vs : List Int32} {m_nr : List Int32} {m_ty : List Int32} {m_pa : List Int32} {m_fn : List Int64} {m_md : List Int64} {m_ms : List Int32} {m_mr : List Int32} {a0 : Int64} {res : Int32 × List Int64} (hf : f_X8_insert a0 m_fu m_fn = some res) : tEv l E yX8_insert cX8_insert 4 none 1 0 0 [.ref 0, .long a0] (encM m_n m_pt m_rc m_sa m_sb m_sc m_is m_os m_vn m_vc m_va m_vb m_ve m_no m_pl m_fa m_oc m_fu m_ke m_t m_f m_rs m_rt m_rf m_st m_ib m_ob m_al m_el m_vt m_vf m_vs m_nr m_ty m_pa m_fn m_md m_ms m_mr) (fun r h' => r = none ∧ h' = encM m_n m_pt m_rc m_sa m_sb m_sc m_is m_os m_vn m_vc m_va m_vb m_ve m_no m_pl m_fa m_oc (res.1) m_ke m_t m_f m_rs m_rt m_rf m_st m_ib m_ob m_al m_el m_vt m_vf m_vs m_nr m_ty m_pa (res.2) m_md m_ms m_mr) := by
  refine tEv.of (own := RX8) (ini := false) (L := [(0, .ref 0), (1, .long a0)]) (by decide +kernel) rfl (fun h9 => nomatch h9) rfl (Nat.le_of_ble_eq_true rfl) ?_
  rw [f_X8_insert] at hf
  refine g_aload_n 0 (q := 1) dX8_insert_0 rfl rfl ?_
  refine g_get (q := 4) fl_X8_286 dX8_insert_1 rfl rfl rfl ?_
  refine g_istore_n (q := 5) (L' := [(0, .ref 0), (1, .long a0), (3, .int m_fu)]) dX8_insert_4 rfl (by decide) rfl ?_
  refine g_ls [0, 1, 2] rfl ?_
  refine ev_X8_insert_L5 (fun y9 k10 res hf => ?_) tFU _ _ res hf
  refine g_aload_n 0 (q := 43) dX8_insert_42 rfl rfl ?_
  refine g_get (q := 46) fl_X8_70 dX8_insert_43 rfl rfl rfl ?_
  refine g_iload_n 2 (q := 47) dX8_insert_46 rfl rfl ?_
  refine g_lload_n 1 (q := 48) dX8_insert_47 rfl rfl ?_
  obtain ⟨z11, e12, hf⟩ := Option.bind_eq_some_iff.mp hf
  refine g_lastore (q := 49) (h' := encM m_n m_pt m_rc m_sa m_sb m_sc m_is m_os m_vn m_vc m_va m_vb m_ve m_no m_pl m_fa m_oc m_fu m_ke m_t m_f m_rs m_rt m_rf m_st m_ib m_ob m_al m_el m_vt m_vf m_vs m_nr m_ty m_pa z11 m_md m_ms m_mr) dX8_insert_48 rfl rfl e12 rfl ?_
  refine g_aload_n 0 (q := 50) dX8_insert_49 rfl rfl ?_
  refine g_dup (q := 51) dX8_insert_50 rfl rfl ?_
  refine g_get (q := 54) fl_X8_286 dX8_insert_51 rfl rfl rfl ?_
  refine g_iconst (q := 55) (v := 1) dX8_insert_54 rfl rfl ?_
  refine g_iadd (q := 56) dX8_insert_55 rfl ?_
  refine g_put (q := 59) (h' := encM m_n m_pt m_rc m_sa m_sb m_sc m_is m_os m_vn m_vc m_va m_vb m_ve m_no m_pl m_fa m_oc (m_fu + 1) m_ke m_t m_f m_rs m_rt m_rf m_st m_ib m_ob m_al m_el m_vt m_vf m_vs m_nr m_ty m_pa z11 m_md m_ms m_mr) fp_X8_286 dX8_insert_56 rfl rfl (Nat.le_of_ble_eq_true rfl) (fun _ => ⟨rfl, rfl⟩) rfl ?_
  have hf := Option.some.inj hf
  subst hf
  exact g_return dX8_insert_59 rfl ⟨rfl, rfl⟩
def f_X8_all  (m_pt : Int32) : Int64 := ((tlshl 1 m_pt) - 1)
set_option maxRecDepth 20000 in
set_option maxHeartbeats 4000000 in
theorem ev_X8_all {l : Launch} {E : tEn}  {m_n : Int32} {m_pt : Int32} {m_rc : Int32} {m_sa : Int64} {m_sb : Int64} {m_sc : Int32} {m_is : Int32} {m_os : Int32} {m_vn : Int32} {m_vc : Int32} {m_va : Int64} {m_vb : Int64} {m_ve : Int32} {m_no : Int32} {m_pl : Int32} {m_fa : Int32} {m_oc : Int32} {m_fu : Int32} {m_ke : Int32} {m_t : List Int64} {m_f : List Int32} {m_rs : List Int32} {m_rt : List Int64} {m_rf : List Int32} {m_st : List Int32} {m_ib : List Int32} {m_ob : List Int32} {m_al : List Int32} {m_el : List Int32} {m_vt : List Int64} {m_vf : List Int32} {m_vs : List Int32} {m_nr : List Int32} {m_ty : List Int32} {m_pa : List Int32} {m_fn : List Int64} {m_md : List Int64} {m_ms : List Int32} {m_mr : List Int32}  : tEv l E yX8_all cX8_all 1 (some .long) 1 0 0 [.ref 0] (encM m_n m_pt m_rc m_sa m_sb m_sc m_is m_os m_vn m_vc m_va m_vb m_ve m_no m_pl m_fa m_oc m_fu m_ke m_t m_f m_rs m_rt m_rf m_st m_ib m_ob m_al m_el m_vt m_vf m_vs m_nr m_ty m_pa m_fn m_md m_ms m_mr) (fun r h' => r = some (.long (f_X8_all m_pt)) ∧ h' = encM m_n m_pt m_rc m_sa m_sb m_sc m_is m_os m_vn m_vc m_va m_vb m_ve m_no m_pl m_fa m_oc m_fu m_ke m_t m_f m_rs m_rt m_rf m_st m_ib m_ob m_al m_el m_vt m_vf m_vs m_nr m_ty m_pa m_fn m_md m_ms m_mr) := by
  refine tEv.of (own := RX8) (ini := false) (L := [(0, .ref 0)]) (by decide +kernel) rfl (fun h9 => nomatch h9) rfl (Nat.le_of_ble_eq_true rfl) ?_
  obtain ⟨res, hf⟩ : ∃ z, f_X8_all m_pt = z := ⟨_, rfl⟩
  rw [hf]
  rw [f_X8_all] at hf
  refine g_lconst (q := 1) (v := 1) dX8_all_0 rfl rfl ?_
  refine g_aload_n 0 (q := 2) dX8_all_1 rfl rfl ?_
  refine g_get (q := 5) fl_X8_13 dX8_all_2 rfl rfl rfl ?_
  refine g_lshl (q := 6) dX8_all_5 rfl ?_
  refine g_lconst (q := 7) (v := 1) dX8_all_6 rfl rfl ?_
  refine g_lsub (q := 8) dX8_all_7 rfl ?_
  subst hf
  exact g_lreturn dX8_all_8 rfl ⟨rfl, rfl⟩
def f_X8_listFunctions_L7 (m_n : Int32) (m_pt : Int32) (K : Int32 → List Int64 → List Int32 → List Int32 → Option (Int32 × Int32 × List Int64 × List Int64 × List Int32 × List Int32)) : Nat → Int32 → Int32 → List Int64 → List Int32 → List Int32 → Option (Int32 × Int32 × List Int64 × List Int64 × List Int32 × List Int32)
  | 0, _, _, _, _, _ => none
  | fu + 1, v1, m_ke, m_md, m_ms, m_mr => (if m_n ≤ v1 then K  m_ke m_md m_ms m_mr else (f_X8_variable v1 m_pt).bind fun r2 => (f_X8_make ((1 : Int32) <<< (v1 &&& 31)) 0 r2 m_ke m_md m_ms m_mr).bind fun r4 => f_X8_listFunctions_L7 m_n m_pt K fu (v1 + 1) (r4.1) (r4.2.1) (r4.2.2.1) (r4.2.2.2))
def f_X8_listFunctions_L51 (w1 : Int32) (w2 : Int32) (m_pt : Int32) (K : Int32 → List Int64 → List Int32 → List Int32 → Option (Int32 × Int32 × List Int64 × List Int64 × List Int32 × List Int32)) : Nat → Int32 → Int32 → List Int64 → List Int32 → List Int32 → Option (Int32 × Int32 × List Int64 × List Int64 × List Int32 × List Int32)
  | 0, _, _, _, _, _ => none
  | fu + 1, v3, m_ke, m_md, m_ms, m_mr => (if m_pt ≤ v3 then K  m_ke m_md m_ms m_mr else (f_X8_bits v3).bind fun r12 => (if r12 = w1 then (f_X8_join v3 1 w2 m_ke m_md m_ms m_mr).bind fun r15 => (f_X8_join v3 2 w2 (r15.1) (r15.2.1) (r15.2.2.1) (r15.2.2.2)).bind fun r17 => f_X8_listFunctions_L51 w1 w2 m_pt K fu (v3 + 1) (r17.1) (r17.2.1) (r17.2.2.1) (r17.2.2.2) else f_X8_listFunctions_L51 w1 w2 m_pt K fu (v3 + 1) m_ke m_md m_ms m_mr))
def f_X8_listFunctions_L36 (m_n : Int32) (m_pt : Int32) (K : Int32 → List Int64 → List Int32 → List Int32 → Option (Int32 × Int32 × List Int64 × List Int64 × List Int32 × List Int32)) : Nat → Int32 → Int32 → List Int64 → List Int32 → List Int32 → Option (Int32 × Int32 × List Int64 × List Int64 × List Int32 × List Int32)
  | 0, _, _, _, _, _ => none
  | fu + 1, v1, m_ke, m_md, m_ms, m_mr => (if m_n < v1 then K  m_ke m_md m_ms m_mr else f_X8_listFunctions_L51 v1 m_ke m_pt (fun k19 k20 k21 k22 => f_X8_listFunctions_L36 m_n m_pt K fu (v1 + 1) k19 k20 k21 k22) tFU 1 m_ke m_md m_ms m_mr)
def f_X8_listFunctions_L116 (m_ke : Int32) (m_md : List Int64) (K : Int32 → List Int64 → Option (Int32 × Int32 × List Int64 × List Int64 × List Int32 × List Int32)) : Nat → Int32 → Int32 → List Int64 → Option (Int32 × Int32 × List Int64 × List Int64 × List Int32 × List Int32)
  | 0, _, _, _ => none
  | fu + 1, v1, m_fu, m_fn => (if m_ke ≤ v1 then K  m_fu m_fn else (tld m_md v1).bind fun r32 => (f_X8_insert r32 m_fu m_fn).bind fun r34 => f_X8_listFunctions_L116 m_ke m_md K fu (v1 + 1) (r34.1) (r34.2))
def f_X8_listFunctions  (m_n : Int32) (m_pt : Int32) (m_fu : Int32) (m_ke : Int32) (m_fn : List Int64) (m_md : List Int64) (m_ms : List Int32) (m_mr : List Int32) : Option (Int32 × Int32 × List Int64 × List Int64 × List Int32 × List Int32) := f_X8_listFunctions_L7 m_n m_pt (fun k6 k7 k8 k9 => f_X8_listFunctions_L36 m_n m_pt (fun k23 k24 k25 k26 => (f_X8_insert 0 0 m_fn).bind fun r27 => (f_X8_insert (f_X8_all m_pt) (r27.1) (r27.2)).bind fun r29 => f_X8_listFunctions_L116 k23 k24 (fun k36 k37 => some (k36, k23, k37, k24, k25, k26)) tFU 0 (r29.1) (r29.2)) tFU 2 k6 k7 k8 k9) tFU 0 0 m_md m_ms m_mr
set_option maxRecDepth 20000 in
set_option maxHeartbeats 4000000 in
theorem ev_X8_listFunctions_L7 {l : Launch} {E : tEn}   {m_n : Int32} {m_pt : Int32} {m_rc : Int32} {m_sa : Int64} {m_sb : Int64} {m_sc : Int32} {m_is : Int32} {m_os : Int32} {m_vn : Int32} {m_vc : Int32} {m_va : Int64} {m_vb : Int64} {m_ve : Int32} {m_no : Int32} {m_pl : Int32} {m_fa : Int32} {m_oc : Int32} {m_fu : Int32} {m_t : List Int64} {m_f : List Int32} {m_rs : List Int32} {m_rt : List Int64} {m_rf : List Int32} {m_st : List Int32} {m_ib : List Int32} {m_ob : List Int32} {m_al : List Int32} {m_el : List Int32} {m_vt : List Int64} {m_vf : List Int32} {m_vs : List Int32} {m_nr : List Int32} {m_ty : List Int32} {m_pa : List Int32} {m_fn : List Int64}  {K : Int32 → List Int64 → List Int32 → List Int32 → Option (Int32 × Int32 × List Int64 × List Int64 × List Int32 × List Int32)} (hK : ∀  (m_ke : Int32) (m_md : List Int64) (m_ms : List Int32) (m_mr : List Int32) (res : Int32 × Int32 × List Int64 × List Int64 × List Int32 × List Int32), K m_ke m_md m_ms m_mr = some res → tG l E RX8 cX8_listFunctions 4 none false 3 (fun r h' => r = none ∧ h' = encM m_n m_pt m_rc m_sa m_sb m_sc m_is m_os m_vn m_vc m_va m_vb m_ve m_no m_pl m_fa m_oc (res.1) (res.2.1) m_t m_f m_rs m_rt m_rf m_st m_ib m_ob m_al m_el m_vt m_vf m_vs m_nr m_ty m_pa (res.2.2.1) (res.2.2.2.1) (res.2.2.2.2.1) (res.2.2.2.2.2)) 0 0 34 [(0, .ref 0)] [] (encM m_n m_pt m_rc m_sa m_sb m_sc m_is m_os m_vn m_vc m_va m_vb m_ve m_no m_pl m_fa m_oc m_fu m_ke m_t m_f m_rs m_rt m_rf m_st m_ib m_ob m_al m_el m_vt m_vf m_vs m_nr m_ty m_pa m_fn m_md m_ms m_mr)) :
    ∀ (fu : Nat) (v1 : Int32) (m_ke : Int32) (m_md : List Int64) (m_ms : List Int32) (m_mr : List Int32) (res : Int32 × Int32 × List Int64 × List Int64 × List Int32 × List Int32), f_X8_listFunctions_L7 m_n m_pt K fu v1 m_ke m_md m_ms m_mr = some res → tG l E RX8 cX8_listFunctions 4 none false 3 (fun r h' => r = none ∧ h' = encM m_n m_pt m_rc m_sa m_sb m_sc m_is m_os m_vn m_vc m_va m_vb m_ve m_no m_pl m_fa m_oc (res.1) (res.2.1) m_t m_f m_rs m_rt m_rf m_st m_ib m_ob m_al m_el m_vt m_vf m_vs m_nr m_ty m_pa (res.2.2.1) (res.2.2.2.1) (res.2.2.2.2.1) (res.2.2.2.2.2)) 0 0 7 [(0, .ref 0), (1, .int v1)] [] (encM m_n m_pt m_rc m_sa m_sb m_sc m_is m_os m_vn m_vc m_va m_vb m_ve m_no m_pl m_fa m_oc m_fu m_ke m_t m_f m_rs m_rt m_rf m_st m_ib m_ob m_al m_el m_vt m_vf m_vs m_nr m_ty m_pa m_fn m_md m_ms m_mr) := by
  intro fu
  induction fu with
  | zero => intro v1 m_ke m_md m_ms m_mr res hf; exact nomatch (show none = some res from hf)
  | succ fu ih =>
    intro v1 m_ke m_md m_ms m_mr res hf
    rw [f_X8_listFunctions_L7] at hf
    refine g_iload_n 1 (q := 8) dX8_listFunctions_7 rfl rfl ?_
    refine g_aload_n 0 (q := 9) dX8_listFunctions_8 rfl rfl ?_
    refine g_get (q := 12) fl_X8_7 dX8_listFunctions_9 rfl rfl rfl ?_
    refine g_icmp_ge (t := 34) (q := 15) dX8_listFunctions_12 (by decide) rfl (fun c1 => ?_) (fun c1 => ?_)
    · rw [if_pos c1] at hf
      refine g_ls [0] rfl ?_
      exact hK _ _ _ _ _ hf
    · rw [if_neg c1] at hf
      refine g_aload_n 0 (q := 16) dX8_listFunctions_15 rfl rfl ?_
      refine g_iconst (q := 17) (v := 1) dX8_listFunctions_16 rfl rfl ?_
      refine g_iload_n 1 (q := 18) dX8_listFunctions_17 rfl rfl ?_
      refine g_ishl (q := 19) dX8_listFunctions_18 rfl ?_
      refine g_iconst (q := 20) (v := 0) dX8_listFunctions_19 rfl rfl ?_
      refine g_aload_n 0 (q := 21) dX8_listFunctions_20 rfl rfl ?_
      refine g_iload_n 1 (q := 22) dX8_listFunctions_21 rfl rfl ?_
      obtain ⟨r2, e3, hf⟩ := Option.bind_eq_some_iff.mp hf
      refine g_callV (a := 0) (k2 := 0) (n2 := 0) (q := 25) (as := [.int v1]) (st := [.int 0, .int ((1 : Int32) <<< (v1 &&& 31)), .ref 0]) (st1 := [.long r2, .int 0, .int ((1 : Int32) <<< (v1 &&& 31)), .ref 0]) tm_X8_variable ml_X8_242 ti_X8_variable rfl rfl dX8_listFunctions_22 rfl (ev_X8_variable e3) rfl rfl (Nat.le_of_ble_eq_true rfl) (by decide) rfl rfl (Or.inl rfl) rfl ?_
      obtain ⟨r4, e5, hf⟩ := Option.bind_eq_some_iff.mp hf
      refine g_callV (a := 0) (k2 := 0) (n2 := 0) (q := 28) (as := [.int ((1 : Int32) <<< (v1 &&& 31)), .int 0, .long r2]) (st := []) (st1 := []) tm_X8_make ml_X8_278 ti_X8_make rfl rfl dX8_listFunctions_25 rfl (ev_X8_make e5) rfl rfl (Nat.le_of_ble_eq_true rfl) (by decide) rfl rfl (Or.inl (encM_len.trans encM_len.symm)) rfl ?_
      refine g_iinc 1 (q := 31) (v := (v1 + 1)) (L' := [(0, .ref 0), (1, .int (v1 + 1))]) dX8_listFunctions_28 rfl rfl rfl (by decide) rfl ?_
      refine g_goto (t := 7) dX8_listFunctions_31 (by decide) ?_
      refine g_ls [0, 1] rfl ?_
      exact ih _ _ _ _ _ _ hf
set_option maxRecDepth 20000 in
set_option maxHeartbeats 4000000 in
theorem ev_X8_listFunctions_L51 {l : Launch} {E : tEn}   {m_n : Int32} {m_pt : Int32} {m_rc : Int32} {m_sa : Int64} {m_sb : Int64} {m_sc : Int32} {m_is : Int32} {m_os : Int32} {m_vn : Int32} {m_vc : Int32} {m_va : Int64} {m_vb : Int64} {m_ve : Int32} {m_no : Int32} {m_pl : Int32} {m_fa : Int32} {m_oc : Int32} {m_fu : Int32} {m_t : List Int64} {m_f : List Int32} {m_rs : List Int32} {m_rt : List Int64} {m_rf : List Int32} {m_st : List Int32} {m_ib : List Int32} {m_ob : List Int32} {m_al : List Int32} {m_el : List Int32} {m_vt : List Int64} {m_vf : List Int32} {m_vs : List Int32} {m_nr : List Int32} {m_ty : List Int32} {m_pa : List Int32} {m_fn : List Int64} {w1 : Int32} {w2 : Int32} {K : Int32 → List Int64 → List Int32 → List Int32 → Option (Int32 × Int32 × List Int64 × List Int64 × List Int32 × List Int32)} (hK : ∀  (m_ke : Int32) (m_md : List Int64) (m_ms : List Int32) (m_mr : List Int32) (res : Int32 × Int32 × List Int64 × List Int64 × List Int32 × List Int32), K m_ke m_md m_ms m_mr = some res → tG l E RX8 cX8_listFunctions 4 none false 3 (fun r h' => r = none ∧ h' = encM m_n m_pt m_rc m_sa m_sb m_sc m_is m_os m_vn m_vc m_va m_vb m_ve m_no m_pl m_fa m_oc (res.1) (res.2.1) m_t m_f m_rs m_rt m_rf m_st m_ib m_ob m_al m_el m_vt m_vf m_vs m_nr m_ty m_pa (res.2.2.1) (res.2.2.2.1) (res.2.2.2.2.1) (res.2.2.2.2.2)) 0 0 90 [(0, .ref 0), (1, .int w1)] [] (encM m_n m_pt m_rc m_sa m_sb m_sc m_is m_os m_vn m_vc m_va m_vb m_ve m_no m_pl m_fa m_oc m_fu m_ke m_t m_f m_rs m_rt m_rf m_st m_ib m_ob m_al m_el m_vt m_vf m_vs m_nr m_ty m_pa m_fn m_md m_ms m_mr)) :
    ∀ (fu : Nat) (v3 : Int32) (m_ke : Int32) (m_md : List Int64) (m_ms : List Int32) (m_mr : List Int32) (res : Int32 × Int32 × List Int64 × List Int64 × List Int32 × List Int32), f_X8_listFunctions_L51 w1 w2 m_pt K fu v3 m_ke m_md m_ms m_mr = some res → tG l E RX8 cX8_listFunctions 4 none false 3 (fun r h' => r = none ∧ h' = encM m_n m_pt m_rc m_sa m_sb m_sc m_is m_os m_vn m_vc m_va m_vb m_ve m_no m_pl m_fa m_oc (res.1) (res.2.1) m_t m_f m_rs m_rt m_rf m_st m_ib m_ob m_al m_el m_vt m_vf m_vs m_nr m_ty m_pa (res.2.2.1) (res.2.2.2.1) (res.2.2.2.2.1) (res.2.2.2.2.2)) 0 0 51 [(0, .ref 0), (1, .int w1), (2, .int w2), (3, .int v3)] [] (encM m_n m_pt m_rc m_sa m_sb m_sc m_is m_os m_vn m_vc m_va m_vb m_ve m_no m_pl m_fa m_oc m_fu m_ke m_t m_f m_rs m_rt m_rf m_st m_ib m_ob m_al m_el m_vt m_vf m_vs m_nr m_ty m_pa m_fn m_md m_ms m_mr) := by
  intro fu
  induction fu with
  | zero => intro v3 m_ke m_md m_ms m_mr res hf; exact nomatch (show none = some res from hf)
  | succ fu ih =>
    intro v3 m_ke m_md m_ms m_mr res hf
    rw [f_X8_listFunctions_L51] at hf
    refine g_iload_n 3 (q := 52) dX8_listFunctions_51 rfl rfl ?_
    refine g_aload_n 0 (q := 53) dX8_listFunctions_52 rfl rfl ?_
    refine g_get (q := 56) fl_X8_13 dX8_listFunctions_53 rfl rfl rfl ?_
    refine g_icmp_ge (t := 90) (q := 59) dX8_listFunctions_56 (by decide) rfl (fun c11 => ?_) (fun c11 => ?_)
    · rw [if_pos c11] at hf
      refine g_ls [0, 1] rfl ?_
      exact hK _ _ _ _ _ hf
    · rw [if_neg c11] at hf
      refine g_iload_n 3 (q := 60) dX8_listFunctions_59 rfl rfl ?_
      obtain ⟨r12, e13, hf⟩ := Option.bind_eq_some_iff.mp hf
      refine g_callS (k2 := 0) (n2 := 0) (q := 63) (as := [.int v3]) (st := []) (st1 := [.int r12]) tm_X8_bits ml_X8_194 ts_X8_bits dX8_listFunctions_60 rfl (ev_X8_bits e13) rfl rfl (Nat.le_of_ble_eq_true rfl) (by decide) rfl rfl (Or.inl rfl) rfl ?_
      refine g_iload_n 1 (q := 64) dX8_listFunctions_63 rfl rfl ?_
      refine g_icmp_eq (t := 70) (q := 67) dX8_listFunctions_64 (by decide) rfl (fun c14 => ?_) (fun c14 => ?_)
      · rw [if_pos c14] at hf
        refine g_aload_n 0 (q := 71) dX8_listFunctions_70 rfl rfl ?_
        refine g_iload_n 3 (q := 72) dX8_listFunctions_71 rfl rfl ?_
        refine g_iconst (q := 73) (v := 1) dX8_listFunctions_72 rfl rfl ?_
        refine g_iload_n 2 (q := 74) dX8_listFunctions_73 rfl rfl ?_
        obtain ⟨r15, e16, hf⟩ := Option.bind_eq_some_iff.mp hf
        refine g_callV (a := 0) (k2 := 0) (n2 := 0) (q := 77) (as := [.int v3, .int 1, .int w2]) (st := []) (st1 := []) tm_X8_join ml_X8_282 ti_X8_join rfl rfl dX8_listFunctions_74 rfl (ev_X8_join e16) rfl rfl (Nat.le_of_ble_eq_true rfl) (by decide) rfl rfl (Or.inl (encM_len.trans encM_len.symm)) rfl ?_
        refine g_aload_n 0 (q := 78) dX8_listFunctions_77 rfl rfl ?_
        refine g_iload_n 3 (q := 79) dX8_listFunctions_78 rfl rfl ?_
        refine g_iconst (q := 80) (v := 2) dX8_listFunctions_79 rfl rfl ?_
        refine g_iload_n 2 (q := 81) dX8_listFunctions_80 rfl rfl ?_
        obtain ⟨r17, e18, hf⟩ := Option.bind_eq_some_iff.mp hf
        refine g_callV (a := 0) (k2 := 0) (n2 := 0) (q := 84) (as := [.int v3, .int 2, .int w2]) (st := []) (st1 := []) tm_X8_join ml_X8_282 ti_X8_join rfl rfl dX8_listFunctions_81 rfl (ev_X8_join e18) rfl rfl (Nat.le_of_ble_eq_true rfl) (by decide) rfl rfl (Or.inl (encM_len.trans encM_len.symm)) rfl ?_
        refine g_iinc 3 (q := 87) (v := (v3 + 1)) (L' := [(0, .ref 0), (1, .int w1), (2, .int w2), (3, .int (v3 + 1))]) dX8_listFunctions_84 rfl rfl rfl (by decide) rfl ?_
        refine g_goto (t := 51) dX8_listFunctions_87 (by decide) ?_
        refine g_ls [0, 1, 2, 3] rfl ?_
        exact ih _ _ _ _ _ _ hf
      · rw [if_neg c14] at hf
        refine g_goto (t := 84) dX8_listFunctions_67 (by decide) ?_
        refine g_iinc 3 (q := 87) (v := (v3 + 1)) (L' := [(0, .ref 0), (1, .int w1), (2, .int w2), (3, .int (v3 + 1))]) dX8_listFunctions_84 rfl rfl rfl (by decide) rfl ?_
        refine g_goto (t := 51) dX8_listFunctions_87 (by decide) ?_
        refine g_ls [0, 1, 2, 3] rfl ?_
        exact ih _ _ _ _ _ _ hf
set_option maxRecDepth 20000 in
set_option maxHeartbeats 4000000 in
theorem ev_X8_listFunctions_L36 {l : Launch} {E : tEn}   {m_n : Int32} {m_pt : Int32} {m_rc : Int32} {m_sa : Int64} {m_sb : Int64} {m_sc : Int32} {m_is : Int32} {m_os : Int32} {m_vn : Int32} {m_vc : Int32} {m_va : Int64} {m_vb : Int64} {m_ve : Int32} {m_no : Int32} {m_pl : Int32} {m_fa : Int32} {m_oc : Int32} {m_fu : Int32} {m_t : List Int64} {m_f : List Int32} {m_rs : List Int32} {m_rt : List Int64} {m_rf : List Int32} {m_st : List Int32} {m_ib : List Int32} {m_ob : List Int32} {m_al : List Int32} {m_el : List Int32} {m_vt : List Int64} {m_vf : List Int32} {m_vs : List Int32} {m_nr : List Int32} {m_ty : List Int32} {m_pa : List Int32} {m_fn : List Int64}  {K : Int32 → List Int64 → List Int32 → List Int32 → Option (Int32 × Int32 × List Int64 × List Int64 × List Int32 × List Int32)} (hK : ∀  (m_ke : Int32) (m_md : List Int64) (m_ms : List Int32) (m_mr : List Int32) (res : Int32 × Int32 × List Int64 × List Int64 × List Int32 × List Int32), K m_ke m_md m_ms m_mr = some res → tG l E RX8 cX8_listFunctions 4 none false 3 (fun r h' => r = none ∧ h' = encM m_n m_pt m_rc m_sa m_sb m_sc m_is m_os m_vn m_vc m_va m_vb m_ve m_no m_pl m_fa m_oc (res.1) (res.2.1) m_t m_f m_rs m_rt m_rf m_st m_ib m_ob m_al m_el m_vt m_vf m_vs m_nr m_ty m_pa (res.2.2.1) (res.2.2.2.1) (res.2.2.2.2.1) (res.2.2.2.2.2)) 0 0 96 [(0, .ref 0)] [] (encM m_n m_pt m_rc m_sa m_sb m_sc m_is m_os m_vn m_vc m_va m_vb m_ve m_no m_pl m_fa m_oc m_fu m_ke m_t m_f m_rs m_rt m_rf m_st m_ib m_ob m_al m_el m_vt m_vf m_vs m_nr m_ty m_pa m_fn m_md m_ms m_mr)) :
    ∀ (fu : Nat) (v1 : Int32) (m_ke : Int32) (m_md : List Int64) (m_ms : List Int32) (m_mr : List Int32) (res : Int32 × Int32 × List Int64 × List Int64 × List Int32 × List Int32), f_X8_listFunctions_L36 m_n m_pt K fu v1 m_ke m_md m_ms m_mr = some res → tG l E RX8 cX8_listFunctions 4 none false 3 (fun r h' => r = none ∧ h' = encM m_n m_pt m_rc m_sa m_sb m_sc m_is m_os m_vn m_vc m_va m_vb m_ve m_no m_pl m_fa m_oc (res.1) (res.2.1) m_t m_f m_rs m_rt m_rf m_st m_ib m_ob m_al m_el m_vt m_vf m_vs m_nr m_ty m_pa (res.2.2.1) (res.2.2.2.1) (res.2.2.2.2.1) (res.2.2.2.2.2)) 0 0 36 [(0, .ref 0), (1, .int v1)] [] (encM m_n m_pt m_rc m_sa m_sb m_sc m_is m_os m_vn m_vc m_va m_vb m_ve m_no m_pl m_fa m_oc m_fu m_ke m_t m_f m_rs m_rt m_rf m_st m_ib m_ob m_al m_el m_vt m_vf m_vs m_nr m_ty m_pa m_fn m_md m_ms m_mr) := by
  intro fu
  induction fu with
  | zero => intro v1 m_ke m_md m_ms m_mr res hf; exact nomatch (show none = some res from hf)
  | succ fu ih =>
    intro v1 m_ke m_md m_ms m_mr res hf
    rw [f_X8_listFunctions_L36] at hf
    refine g_iload_n 1 (q := 37) dX8_listFunctions_36 rfl rfl ?_
    refine g_aload_n 0 (q := 38) dX8_listFunctions_37 rfl rfl ?_
    refine g_get (q := 41) fl_X8_7 dX8_listFunctions_38 rfl rfl rfl ?_
    refine g_icmp_gt (t := 96) (q := 44) dX8_listFunctions_41 (by decide) rfl (fun c10 => ?_) (fun c10 => ?_)
    · rw [if_pos c10] at hf
      refine g_ls [0] rfl ?_
      exact hK _ _ _ _ _ hf
    · rw [if_neg c10] at hf
      refine g_aload_n 0 (q := 45) dX8_listFunctions_44 rfl rfl ?_
      refine g_get (q := 48) fl_X8_275 dX8_listFunctions_45 rfl rfl rfl ?_
      refine g_istore_n (q := 49) (L' := [(0, .ref 0), (1, .int v1), (2, .int m_ke)]) dX8_listFunctions_48 rfl (by decide) rfl ?_
      refine g_iconst (q := 50) (v := 1) dX8_listFunctions_49 rfl rfl ?_
      refine g_istore_n (q := 51) (L' := [(0, .ref 0), (1, .int v1), (2, .int m_ke), (3, .int 1)]) dX8_listFunctions_50 rfl (by decide) rfl ?_
      refine g_ls [0, 1, 2, 3] rfl ?_
      refine ev_X8_listFunctions_L51 (fun k19 k20 k21 k22 res hf => ?_) tFU _ _ _ _ _ res hf
      refine g_iinc 1 (q := 93) (v := (v1 + 1)) (L' := [(0, .ref 0), (1, .int (v1 + 1))]) dX8_listFunctions_90 rfl rfl rfl (by decide) rfl ?_
      refine g_goto (t := 36) dX8_listFunctions_93 (by decide) ?_
      refine g_ls [0, 1] rfl ?_
      exact ih _ _ _ _ _ _ hf
set_option maxRecDepth 20000 in
set_option maxHeartbeats 4000000 in
theorem ev_X8_listFunctions_L116 {l : Launch} {E : tEn}   {m_n : Int32} {m_pt : Int32} {m_rc : Int32} {m_sa : Int64} {m_sb : Int64} {m_sc : Int32} {m_is : Int32} {m_os : Int32} {m_vn : Int32} {m_vc : Int32} {m_va : Int64} {m_vb : Int64} {m_ve : Int32} {m_no : Int32} {m_pl : Int32} {m_fa : Int32} {m_oc : Int32} {m_ke : Int32} {m_t : List Int64} {m_f : List Int32} {m_rs : List Int32} {m_rt : List Int64} {m_rf : List Int32} {m_st : List Int32} {m_ib : List Int32} {m_ob : List Int32} {m_al : List Int32} {m_el : List Int32} {m_vt : List Int64} {m_vf : List Int32} {m_vs : List Int32} {m_nr : List Int32} {m_ty : List Int32} {m_pa : List Int32} {m_md : List Int64} {m_ms : List Int32} {m_mr : List Int32}  {K : Int32 → List Int64 → Option (Int32 × Int32 × List Int64 × List Int64 × List Int32 × List Int32)} (hK : ∀  (m_fu : Int32) (m_fn : List Int64) (res : Int32 × Int32 × List Int64 × List Int64 × List Int32 × List Int32), K m_fu m_fn = some res → tG l E RX8 cX8_listFunctions 4 none false 3 (fun r h' => r = none ∧ h' = encM m_n m_pt m_rc m_sa m_sb m_sc m_is m_os m_vn m_vc m_va m_vb m_ve m_no m_pl m_fa m_oc (res.1) (res.2.1) m_t m_f m_rs m_rt m_rf m_st m_ib m_ob m_al m_el m_vt m_vf m_vs m_nr m_ty m_pa (res.2.2.1) (res.2.2.2.1) (res.2.2.2.2.1) (res.2.2.2.2.2)) 0 0 140 [] [] (encM m_n m_pt m_rc m_sa m_sb m_sc m_is m_os m_vn m_vc m_va m_vb m_ve m_no m_pl m_fa m_oc m_fu m_ke m_t m_f m_rs m_rt m_rf m_st m_ib m_ob m_al m_el m_vt m_vf m_vs m_nr m_ty m_pa m_fn m_md m_ms m_mr)) :
    ∀ (fu : Nat) (v1 : Int32) (m_fu : Int32) (m_fn : List Int64) (res : Int32 × Int32 × List Int64 × List Int64 × List Int32 × List Int32), f_X8_listFunctions_L116 m_ke m_md K fu v1 m_fu m_fn = some res → tG l E RX8 cX8_listFunctions 4 none false 3 (fun r h' => r = none ∧ h' = encM m_n m_pt m_rc m_sa m_sb m_sc m_is m_os m_vn m_vc m_va m_vb m_ve m_no m_pl m_fa m_oc (res.1) (res.2.1) m_t m_f m_rs m_rt m_rf m_st m_ib m_ob m_al m_el m_vt m_vf m_vs m_nr m_ty m_pa (res.2.2.1) (res.2.2.2.1) (res.2.2.2.2.1) (res.2.2.2.2.2)) 0 0 116 [(0, .ref 0), (1, .int v1)] [] (encM m_n m_pt m_rc m_sa m_sb m_sc m_is m_os m_vn m_vc m_va m_vb m_ve m_no m_pl m_fa m_oc m_fu m_ke m_t m_f m_rs m_rt m_rf m_st m_ib m_ob m_al m_el m_vt m_vf m_vs m_nr m_ty m_pa m_fn m_md m_ms m_mr) := by
  intro fu
  induction fu with
  | zero => intro v1 m_fu m_fn res hf; exact nomatch (show none = some res from hf)
  | succ fu ih =>
    intro v1 m_fu m_fn res hf
    rw [f_X8_listFunctions_L116] at hf
    refine g_iload_n 1 (q := 117) dX8_listFunctions_116 rfl rfl ?_
    refine g_aload_n 0 (q := 118) dX8_listFunctions_117 rfl rfl ?_
    refine g_get (q := 121) fl_X8_275 dX8_listFunctions_118 rfl rfl rfl ?_
    refine g_icmp_ge (t := 140) (q := 124) dX8_listFunctions_121 (by decide) rfl (fun c31 => ?_) (fun c31 => ?_)
    · rw [if_pos c31] at hf
      refine g_ls [] rfl ?_
      exact hK _ _ _ hf
    · rw [if_neg c31] at hf
      refine g_aload_n 0 (q := 125) dX8_listFunctions_124 rfl rfl ?_
      refine g_aload_n 0 (q := 126) dX8_listFunctions_125 rfl rfl ?_
      refine g_get (q := 129) fl_X8_73 dX8_listFunctions_126 rfl rfl rfl ?_
      refine g_iload_n 1 (q := 130) dX8_listFunctions_129 rfl rfl ?_
      obtain ⟨r32, e33, hf⟩ := Option.bind_eq_some_iff.mp hf
      refine g_laload (q := 131) dX8_listFunctions_130 rfl rfl e33 ?_
      obtain ⟨r34, e35, hf⟩ := Option.bind_eq_some_iff.mp hf
      refine g_callV (a := 0) (k2 := 0) (n2 := 0) (q := 134) (as := [.long r32]) (st := []) (st1 := []) tm_X8_insert ml_X8_289 ti_X8_insert rfl rfl dX8_listFunctions_131 rfl (ev_X8_insert e35) rfl rfl (Nat.le_of_ble_eq_true rfl) (by decide) rfl rfl (Or.inl (encM_len.trans encM_len.symm)) rfl ?_
      refine g_iinc 1 (q := 137) (v := (v1 + 1)) (L' := [(0, .ref 0), (1, .int (v1 + 1))]) dX8_listFunctions_134 rfl rfl rfl (by decide) rfl ?_
      refine g_goto (t := 116) dX8_listFunctions_137 (by decide) ?_
      refine g_ls [0, 1] rfl ?_
      exact ih _ _ _ _ hf
set_option maxRecDepth 20000 in
set_option maxHeartbeats 4000000 in
theorem ev_X8_listFunctions {l : Launch} {E : tEn}  {m_n : Int32} {m_pt : Int32} {m_rc : Int32} {m_sa : Int64} {m_sb : Int64} {m_sc : Int32} {m_is : Int32} {m_os : Int32} {m_vn : Int32} {m_vc : Int32} {m_va : Int64} {m_vb : Int64} {m_ve : Int32} {m_no : Int32} {m_pl : Int32} {m_fa : Int32} {m_oc : Int32} {m_fu : Int32} {m_ke : Int32} {m_t : List Int64} {m_f : List Int32} {m_rs : List Int32} {m_rt : List Int64} {m_rf : List Int32} {m_st : List Int32} {m_ib : List Int32} {m_ob : List Int32} {m_al : List Int32} {m_el : List Int32} {m_vt : List Int64} {m_vf : List Int32} {m_vs : List Int32} {m_nr : List Int32} {m_ty : List Int32} {m_pa : List Int32} {m_fn : List Int64} {m_md : List Int64} {m_ms : List Int32} {m_mr : List Int32}  {res : Int32 × Int32 × List Int64 × List Int64 × List Int32 × List Int32} (hf : f_X8_listFunctions m_n m_pt m_fu m_ke m_fn m_md m_ms m_mr = some res) : tEv l E yX8_listFunctions cX8_listFunctions 4 none 3 0 0 [.ref 0] (encM m_n m_pt m_rc m_sa m_sb m_sc m_is m_os m_vn m_vc m_va m_vb m_ve m_no m_pl m_fa m_oc m_fu m_ke m_t m_f m_rs m_rt m_rf m_st m_ib m_ob m_al m_el m_vt m_vf m_vs m_nr m_ty m_pa m_fn m_md m_ms m_mr) (fun r h' => r = none ∧ h' = encM m_n m_pt m_rc m_sa m_sb m_sc m_is m_os m_vn m_vc m_va m_vb m_ve m_no m_pl m_fa m_oc (res.1) (res.2.1) m_t m_f m_rs m_rt m_rf m_st m_ib m_ob m_al m_el m_vt m_vf m_vs m_nr m_ty m_pa (res.2.2.1) (res.2.2.2.1) (res.2.2.2.2.1) (res.2.2.2.2.2)) := by
  refine tEv.of (own := RX8) (ini := false) (L := [(0, .ref 0)]) (by decide +kernel) rfl (fun h9 => nomatch h9) rfl (Nat.le_of_ble_eq_true rfl) ?_
  rw [f_X8_listFunctions] at hf
  refine g_aload_n 0 (q := 1) dX8_listFunctions_0 rfl rfl ?_
  refine g_iconst (q := 2) (v := 0) dX8_listFunctions_1 rfl rfl ?_
  refine g_put (q := 5) (h' := encM m_n m_pt m_rc m_sa m_sb m_sc m_is m_os m_vn m_vc m_va m_vb m_ve m_no m_pl m_fa m_oc m_fu 0 m_t m_f m_rs m_rt m_rf m_st m_ib m_ob m_al m_el m_vt m_vf m_vs m_nr m_ty m_pa m_fn m_md m_ms m_mr) fp_X8_275 dX8_listFunctions_2 rfl rfl (Nat.le_of_ble_eq_true rfl) (fun _ => ⟨rfl, rfl⟩) rfl ?_
  refine g_iconst (q := 6) (v := 0) dX8_listFunctions_5 rfl rfl ?_
  refine g_istore_n (q := 7) (L' := [(0, .ref 0), (1, .int 0)]) dX8_listFunctions_6 rfl (by decide) rfl ?_
  refine g_ls [0, 1] rfl ?_
  refine ev_X8_listFunctions_L7 (fun k6 k7 k8 k9 res hf => ?_) tFU _ _ _ _ _ res hf
  refine g_iconst (q := 35) (v := 2) dX8_listFunctions_34 rfl rfl ?_
  refine g_istore_n (q := 36) (L' := [(0, .ref 0), (1, .int 2)]) dX8_listFunctions_35 rfl (by decide) rfl ?_
  refine g_ls [0, 1] rfl ?_
  refine ev_X8_listFunctions_L36 (fun k23 k24 k25 k26 res hf => ?_) tFU _ _ _ _ _ res hf
  refine g_aload_n 0 (q := 97) dX8_listFunctions_96 rfl rfl ?_
  refine g_iconst (q := 98) (v := 0) dX8_listFunctions_97 rfl rfl ?_
  refine g_put (q := 101) (h' := encM m_n m_pt m_rc m_sa m_sb m_sc m_is m_os m_vn m_vc m_va m_vb m_ve m_no m_pl m_fa m_oc 0 k23 m_t m_f m_rs m_rt m_rf m_st m_ib m_ob m_al m_el m_vt m_vf m_vs m_nr m_ty m_pa m_fn k24 k25 k26) fp_X8_286 dX8_listFunctions_98 rfl rfl (Nat.le_of_ble_eq_true rfl) (fun _ => ⟨rfl, rfl⟩) rfl ?_
  refine g_aload_n 0 (q := 102) dX8_listFunctions_101 rfl rfl ?_
  refine g_lconst (q := 103) (v := 0) dX8_listFunctions_102 rfl rfl ?_
  obtain ⟨r27, e28, hf⟩ := Option.bind_eq_some_iff.mp hf
  refine g_callV (a := 0) (k2 := 0) (n2 := 0) (q := 106) (as := [.long 0]) (st := []) (st1 := []) tm_X8_insert ml_X8_289 ti_X8_insert rfl rfl dX8_listFunctions_103 rfl (ev_X8_insert e28) rfl rfl (Nat.le_of_ble_eq_true rfl) (by decide) rfl rfl (Or.inl (encM_len.trans encM_len.symm)) rfl ?_
  refine g_aload_n 0 (q := 107) dX8_listFunctions_106 rfl rfl ?_
  refine g_aload_n 0 (q := 108) dX8_listFunctions_107 rfl rfl ?_
  refine g_callV (a := 0) (k2 := 0) (n2 := 0) (q := 111) (as := []) (st := [.ref 0]) (st1 := [.long (f_X8_all m_pt), .ref 0]) tm_X8_all ml_X8_246 ti_X8_all rfl rfl dX8_listFunctions_108 rfl ev_X8_all rfl rfl (Nat.le_of_ble_eq_true rfl) (by decide) rfl rfl (Or.inl rfl) rfl ?_
  obtain ⟨r29, e30, hf⟩ := Option.bind_eq_some_iff.mp hf
  refine g_callV (a := 0) (k2 := 0) (n2 := 0) (q := 114) (as := [.long (f_X8_all m_pt)]) (st := []) (st1 := []) tm_X8_insert ml_X8_289 ti_X8_insert rfl rfl dX8_listFunctions_111 rfl (ev_X8_insert e30) rfl rfl (Nat.le_of_ble_eq_true rfl) (by decide) rfl rfl (Or.inl (encM_len.trans encM_len.symm)) rfl ?_
  refine g_iconst (q := 115) (v := 0) dX8_listFunctions_114 rfl rfl ?_
  refine g_istore_n (q := 116) (L' := [(0, .ref 0), (1, .int 0)]) dX8_listFunctions_115 rfl (by decide) rfl ?_
  refine g_ls [0, 1] rfl ?_
  refine ev_X8_listFunctions_L116 (fun k36 k37 res hf => ?_) tFU _ _ _ res hf
  have hf := Option.some.inj hf
  subst hf
  exact g_return dX8_listFunctions_140 rfl ⟨rfl, rfl⟩
def f_X8_setVariables_L37  (K : List Int32 → Option (Int32 × Int32 × Int32 × Int32 × Int64 × Int64 × Int32 × Int32 × Int32 × List Int32 × List Int64 × List Int64 × List Int32 × List Int32)) : Nat → Int32 → List Int32 → Option (Int32 × Int32 × Int32 × Int32 × Int64 × Int64 × Int32 × Int32 × Int32 × List Int32 × List Int64 × List Int64 × List Int32 × List Int32)
  | 0, _, _ => none
  | fu + 1, v3, m_f => (if 8 ≤ v3 then K  m_f else (tst m_f v3 (vp_nar .boolean 0)).bind fun z3 => f_X8_setVariables_L37 K fu (v3 + 1) z3)
def f_X8_setVariables (a0 : Int32) (m_n : Int32) (m_pt : Int32) (m_rc : Int32) (m_sa : Int64) (m_sb : Int64) (m_sc : Int32) (m_fu : Int32) (m_ke : Int32) (m_f : List Int32) (m_fn : List Int64) (m_md : List Int64) (m_ms : List Int32) (m_mr : List Int32) : Option (Int32 × Int32 × Int32 × Int32 × Int64 × Int64 × Int32 × Int32 × Int32 × List Int32 × List Int64 × List Int64 × List Int32 × List Int32) := (if (f_X8_isIn (Int32.toInt64 a0) 1 5) = 0 then some ((-2), m_n, m_pt, m_rc, m_sa, m_sb, m_sc, m_fu, m_ke, m_f, m_fn, m_md, m_ms, m_mr) else f_X8_setVariables_L37 (fun k5 => (f_X8_listFunctions a0 ((1 : Int32) <<< (a0 &&& 31)) m_fu m_ke m_fn m_md m_ms m_mr).bind fun r6 => some (m_n, a0, ((1 : Int32) <<< (a0 &&& 31)), 0, 0, 0, 0, r6.1, r6.2.1, k5, r6.2.2.1, r6.2.2.2.1, r6.2.2.2.2.1, r6.2.2.2.2.2)) tFU 0 m_f)
set_option maxRecDepth 20000 in
set_option maxHeartbeats 4000000 in
theorem ev_X8_setVariables_L37 {l : Launch} {E : tEn}   {m_n : Int32} {m_pt : Int32} {m_rc : Int32} {m_sa : Int64} {m_sb : Int64} {m_sc : Int32} {m_is : Int32} {m_os : Int32} {m_vn : Int32} {m_vc : Int32} {m_va : Int64} {m_vb : Int64} {m_ve : Int32} {m_no : Int32} {m_pl : Int32} {m_fa : Int32} {m_oc : Int32} {m_fu : Int32} {m_ke : Int32} {m_t : List Int64} {m_rs : List Int32} {m_rt : List Int64} {m_rf : List Int32} {m_st : List Int32} {m_ib : List Int32} {m_ob : List Int32} {m_al : List Int32} {m_el : List Int32} {m_vt : List Int64} {m_vf : List Int32} {m_vs : List Int32} {m_nr : List Int32} {m_ty : List Int32} {m_pa : List Int32} {m_fn : List Int64} {m_md : List Int64} {m_ms : List Int32} {m_mr : List Int32} {w2 : Int32} {K : List Int32 → Option (Int32 × Int32 × Int32 × Int32 × Int64 × Int64 × Int32 × Int32 × Int32 × List Int32 × List Int64 × List Int64 × List Int32 × List Int32)} (hK : ∀  (m_f : List Int32) (res : Int32 × Int32 × Int32 × Int32 × Int64 × Int64 × Int32 × Int32 × Int32 × List Int32 × List Int64 × List Int64 × List Int32 × List Int32), K m_f = some res → tG l E RX8 cX8_setVariables 4 (some .int) false 4 (fun r h' => r = some (.int res.1) ∧ h' = encM (res.2.1) (res.2.2.1) (res.2.2.2.1) (res.2.2.2.2.1) (res.2.2.2.2.2.1) (res.2.2.2.2.2.2.1) m_is m_os m_vn m_vc m_va m_vb m_ve m_no m_pl m_fa m_oc (res.2.2.2.2.2.2.2.1) (res.2.2.2.2.2.2.2.2.1) m_t (res.2.2.2.2.2.2.2.2.2.1) m_rs m_rt m_rf m_st m_ib m_ob m_al m_el m_vt m_vf m_vs m_nr m_ty m_pa (res.2.2.2.2.2.2.2.2.2.2.1) (res.2.2.2.2.2.2.2.2.2.2.2.1) (res.2.2.2.2.2.2.2.2.2.2.2.2.1) (res.2.2.2.2.2.2.2.2.2.2.2.2.2)) 0 0 56 [(0, .ref 0), (2, .int w2)] [] (encM m_n m_pt m_rc m_sa m_sb m_sc m_is m_os m_vn m_vc m_va m_vb m_ve m_no m_pl m_fa m_oc m_fu m_ke m_t m_f m_rs m_rt m_rf m_st m_ib m_ob m_al m_el m_vt m_vf m_vs m_nr m_ty m_pa m_fn m_md m_ms m_mr)) :
    ∀ (fu : Nat) (v3 : Int32) (m_f : List Int32) (res : Int32 × Int32 × Int32 × Int32 × Int64 × Int64 × Int32 × Int32 × Int32 × List Int32 × List Int64 × List Int64 × List Int32 × List Int32), f_X8_setVariables_L37  K fu v3 m_f = some res → tG l E RX8 cX8_setVariables 4 (some .int) false 4 (fun r h' => r = some (.int res.1) ∧ h' = encM (res.2.1) (res.2.2.1) (res.2.2.2.1) (res.2.2.2.2.1) (res.2.2.2.2.2.1) (res.2.2.2.2.2.2.1) m_is m_os m_vn m_vc m_va m_vb m_ve m_no m_pl m_fa m_oc (res.2.2.2.2.2.2.2.1) (res.2.2.2.2.2.2.2.2.1) m_t (res.2.2.2.2.2.2.2.2.2.1) m_rs m_rt m_rf m_st m_ib m_ob m_al m_el m_vt m_vf m_vs m_nr m_ty m_pa (res.2.2.2.2.2.2.2.2.2.2.1) (res.2.2.2.2.2.2.2.2.2.2.2.1) (res.2.2.2.2.2.2.2.2.2.2.2.2.1) (res.2.2.2.2.2.2.2.2.2.2.2.2.2)) 0 0 37 [(0, .ref 0), (2, .int w2), (3, .int v3)] [] (encM m_n m_pt m_rc m_sa m_sb m_sc m_is m_os m_vn m_vc m_va m_vb m_ve m_no m_pl m_fa m_oc m_fu m_ke m_t m_f m_rs m_rt m_rf m_st m_ib m_ob m_al m_el m_vt m_vf m_vs m_nr m_ty m_pa m_fn m_md m_ms m_mr) := by
  intro fu
  induction fu with
  | zero => intro v3 m_f res hf; exact nomatch (show none = some res from hf)
  | succ fu ih =>
    intro v3 m_f res hf
    rw [f_X8_setVariables_L37] at hf
    refine g_iload_n 2 (q := 38) dX8_setVariables_37 rfl rfl ?_
    refine g_bipush (q := 40) (v := 8) dX8_setVariables_38 rfl rfl ?_
    refine g_icmp_ge (t := 56) (q := 43) dX8_setVariables_40 (by decide) rfl (fun c2 => ?_) (fun c2 => ?_)
    · rw [if_pos c2] at hf
      refine g_ls [0, 1] rfl ?_
      exact hK _ _ hf
    · rw [if_neg c2] at hf
      refine g_aload_n 0 (q := 44) dX8_setVariables_43 rfl rfl ?_
      refine g_get (q := 47) fl_X8_20 dX8_setVariables_44 rfl rfl rfl ?_
      refine g_iload_n 2 (q := 48) dX8_setVariables_47 rfl rfl ?_
      refine g_iconst (q := 49) (v := 0) dX8_setVariables_48 rfl rfl ?_
      obtain ⟨z3, e4, hf⟩ := Option.bind_eq_some_iff.mp hf
      refine g_bastore (q := 50) (h' := encM m_n m_pt m_rc m_sa m_sb m_sc m_is m_os m_vn m_vc m_va m_vb m_ve m_no m_pl m_fa m_oc m_fu m_ke m_t z3 m_rs m_rt m_rf m_st m_ib m_ob m_al m_el m_vt m_vf m_vs m_nr m_ty m_pa m_fn m_md m_ms m_mr) dX8_setVariables_49 rfl rfl e4 rfl ?_
      refine g_iinc 2 (q := 53) (v := (v3 + 1)) (L' := [(0, .ref 0), (2, .int w2), (3, .int (v3 + 1))]) dX8_setVariables_50 rfl rfl rfl (by decide) rfl ?_
      refine g_goto (t := 37) dX8_setVariables_53 (by decide) ?_
      refine g_ls [0, 1, 2] rfl ?_
      exact ih _ _ _ hf
set_option maxRecDepth 20000 in
set_option maxHeartbeats 4000000 in
theorem ev_X8_setVariables {l : Launch} {E : tEn}  {m_n : Int32} {m_pt : Int32} {m_rc : Int32} {m_sa : Int64} {m_sb : Int64} {m_sc : Int32} {m_is : Int32} {m_os : Int32} {m_vn : Int32} {m_vc : Int32} {m_va : Int64} {m_vb : Int64} {m_ve : Int32} {m_no : Int32} {m_pl : Int32} {m_fa : Int32} {m_oc : Int32} {m_fu : Int32} {m_ke : Int32} {m_t : List Int64} {m_f : List Int32} {m_rs : List Int32} {m_rt : List Int64} {m_rf : List Int32} {m_st : List Int32} {m_ib : List Int32} {m_ob : List Int32} {m_al : List Int32} {m_el : List Int32} {m_vt : List Int64} {m_vf : List Int32} {m_vs : List Int32} {m_nr : List Int32} {m_ty : List Int32} {m_pa : List Int32} {m_fn : List Int64} {m_md : List Int64} {m_ms : List Int32} {m_mr : List Int32} {a0 : Int32} {res : Int32 × Int32 × Int32 × Int32 × Int64 × Int64 × Int32 × Int32 × Int32 × List Int32 × List Int64 × List Int64 × List Int32 × List Int32} (hf : f_X8_setVariables a0 m_n m_pt m_rc m_sa m_sb m_sc m_fu m_ke m_f m_fn m_md m_ms m_mr = some res) : tEv l E yX8_setVariables cX8_setVariables 4 (some .int) 4 0 0 [.ref 0, .int a0] (encM m_n m_pt m_rc m_sa m_sb m_sc m_is m_os m_vn m_vc m_va m_vb m_ve m_no m_pl m_fa m_oc m_fu m_ke m_t m_f m_rs m_rt m_rf m_st m_ib m_ob m_al m_el m_vt m_vf m_vs m_nr m_ty m_pa m_fn m_md m_ms m_mr) (fun r h' => r = some (.int res.1) ∧ h' = encM (res.2.1) (res.2.2.1) (res.2.2.2.1) (res.2.2.2.2.1) (res.2.2.2.2.2.1) (res.2.2.2.2.2.2.1) m_is m_os m_vn m_vc m_va m_vb m_ve m_no m_pl m_fa m_oc (res.2.2.2.2.2.2.2.1) (res.2.2.2.2.2.2.2.2.1) m_t (res.2.2.2.2.2.2.2.2.2.1) m_rs m_rt m_rf m_st m_ib m_ob m_al m_el m_vt m_vf m_vs m_nr m_ty m_pa (res.2.2.2.2.2.2.2.2.2.2.1) (res.2.2.2.2.2.2.2.2.2.2.2.1) (res.2.2.2.2.2.2.2.2.2.2.2.2.1) (res.2.2.2.2.2.2.2.2.2.2.2.2.2)) := by
  refine tEv.of (own := RX8) (ini := false) (L := [(0, .ref 0), (1, .int a0)]) (by decide +kernel) rfl (fun h9 => nomatch h9) rfl (Nat.le_of_ble_eq_true rfl) ?_
  rw [f_X8_setVariables] at hf
  refine g_iload_n 1 (q := 1) dX8_setVariables_0 rfl rfl ?_
  refine g_i2l (q := 2) dX8_setVariables_1 rfl ?_
  refine g_lconst (q := 3) (v := 1) dX8_setVariables_2 rfl rfl ?_
  refine g_ldc2_w (q := 6) kc_X8_106 dX8_setVariables_3 rfl ?_
  refine g_callS (k2 := 0) (n2 := 0) (q := 9) (as := [.long (Int32.toInt64 a0), .long 1, .long 5]) (st := []) (st1 := [.int (f_X8_isIn (Int32.toInt64 a0) 1 5)]) tm_X8_isIn ml_X8_87 ts_X8_isIn dX8_setVariables_6 rfl ev_X8_isIn rfl rfl (Nat.le_of_ble_eq_true rfl) (by decide) rfl rfl (Or.inl rfl) rfl ?_
  refine g_if_ne (t := 15) (q := 12) dX8_setVariables_9 (by decide) rfl (fun c1 => ?_) (fun c1 => ?_)
  · rw [if_neg c1] at hf
    refine g_aload_n 0 (q := 16) dX8_setVariables_15 rfl rfl ?_
    refine g_get (q := 19) fl_X8_7 dX8_setVariables_16 rfl rfl rfl ?_
    refine g_istore_n (q := 20) (L' := [(0, .ref 0), (1, .int a0), (2, .int m_n)]) dX8_setVariables_19 rfl (by decide) rfl ?_
    refine g_aload_n 0 (q := 21) dX8_setVariables_20 rfl rfl ?_
    refine g_iload_n 1 (q := 22) dX8_setVariables_21 rfl rfl ?_
    refine g_put (q := 25) (h' := encM a0 m_pt m_rc m_sa m_sb m_sc m_is m_os m_vn m_vc m_va m_vb m_ve m_no m_pl m_fa m_oc m_fu m_ke m_t m_f m_rs m_rt m_rf m_st m_ib m_ob m_al m_el m_vt m_vf m_vs m_nr m_ty m_pa m_fn m_md m_ms m_mr) fp_X8_7 dX8_setVariables_22 rfl rfl (Nat.le_of_ble_eq_true rfl) (fun _ => ⟨rfl, rfl⟩) rfl ?_
    refine g_aload_n 0 (q := 26) dX8_setVariables_25 rfl rfl ?_
    refine g_iconst (q := 27) (v := 1) dX8_setVariables_26 rfl rfl ?_
    refine g_aload_n 0 (q := 28) dX8_setVariables_27 rfl rfl ?_
    refine g_get (q := 31) fl_X8_7 dX8_setVariables_28 rfl rfl rfl ?_
    refine g_ishl (q := 32) dX8_setVariables_31 rfl ?_
    refine g_put (q := 35) (h' := encM a0 ((1 : Int32) <<< (a0 &&& 31)) m_rc m_sa m_sb m_sc m_is m_os m_vn m_vc m_va m_vb m_ve m_no m_pl m_fa m_oc m_fu m_ke m_t m_f m_rs m_rt m_rf m_st m_ib m_ob m_al m_el m_vt m_vf m_vs m_nr m_ty m_pa m_fn m_md m_ms m_mr) fp_X8_13 dX8_setVariables_32 rfl rfl (Nat.le_of_ble_eq_true rfl) (fun _ => ⟨rfl, rfl⟩) rfl ?_
    refine g_iconst (q := 36) (v := 0) dX8_setVariables_35 rfl rfl ?_
    refine g_istore_n (q := 37) (L' := [(0, .ref 0), (1, .int a0), (2, .int m_n), (3, .int 0)]) dX8_setVariables_36 rfl (by decide) rfl ?_
    refine g_ls [0, 2, 3] rfl ?_
    refine ev_X8_setVariables_L37 (fun k5 res hf => ?_) tFU _ _ res hf
    refine g_aload_n 0 (q := 57) dX8_setVariables_56 rfl rfl ?_
    refine g_iconst (q := 58) (v := 0) dX8_setVariables_57 rfl rfl ?_
    refine g_put (q := 61) (h' := encM a0 ((1 : Int32) <<< (a0 &&& 31)) 0 m_sa m_sb m_sc m_is m_os m_vn m_vc m_va m_vb m_ve m_no m_pl m_fa m_oc m_fu m_ke m_t k5 m_rs m_rt m_rf m_st m_ib m_ob m_al m_el m_vt m_vf m_vs m_nr m_ty m_pa m_fn m_md m_ms m_mr) fp_X8_95 dX8_setVariables_58 rfl rfl (Nat.le_of_ble_eq_true rfl) (fun _ => ⟨rfl, rfl⟩) rfl ?_
    refine g_aload_n 0 (q := 62) dX8_setVariables_61 rfl rfl ?_
    refine g_lconst (q := 63) (v := 0) dX8_setVariables_62 rfl rfl ?_
    refine g_put (q := 66) (h' := encM a0 ((1 : Int32) <<< (a0 &&& 31)) 0 0 m_sb m_sc m_is m_os m_vn m_vc m_va m_vb m_ve m_no m_pl m_fa m_oc m_fu m_ke m_t k5 m_rs m_rt m_rf m_st m_ib m_ob m_al m_el m_vt m_vf m_vs m_nr m_ty m_pa m_fn m_md m_ms m_mr) fp_X8_108 dX8_setVariables_63 rfl rfl (Nat.le_of_ble_eq_true rfl) (fun _ => ⟨rfl, rfl⟩) rfl ?_
    refine g_aload_n 0 (q := 67) dX8_setVariables_66 rfl rfl ?_
    refine g_lconst (q := 68) (v := 0) dX8_setVariables_67 rfl rfl ?_
    refine g_put (q := 71) (h' := encM a0 ((1 : Int32) <<< (a0 &&& 31)) 0 0 0 m_sc m_is m_os m_vn m_vc m_va m_vb m_ve m_no m_pl m_fa m_oc m_fu m_ke m_t k5 m_rs m_rt m_rf m_st m_ib m_ob m_al m_el m_vt m_vf m_vs m_nr m_ty m_pa m_fn m_md m_ms m_mr) fp_X8_112 dX8_setVariables_68 rfl rfl (Nat.le_of_ble_eq_true rfl) (fun _ => ⟨rfl, rfl⟩) rfl ?_
    refine g_aload_n 0 (q := 72) dX8_setVariables_71 rfl rfl ?_
    refine g_iconst (q := 73) (v := 0) dX8_setVariables_72 rfl rfl ?_
    refine g_put (q := 76) (h' := encM a0 ((1 : Int32) <<< (a0 &&& 31)) 0 0 0 0 m_is m_os m_vn m_vc m_va m_vb m_ve m_no m_pl m_fa m_oc m_fu m_ke m_t k5 m_rs m_rt m_rf m_st m_ib m_ob m_al m_el m_vt m_vf m_vs m_nr m_ty m_pa m_fn m_md m_ms m_mr) fp_X8_115 dX8_setVariables_73 rfl rfl (Nat.le_of_ble_eq_true rfl) (fun _ => ⟨rfl, rfl⟩) rfl ?_
    refine g_aload_n 0 (q := 77) dX8_setVariables_76 rfl rfl ?_
    obtain ⟨r6, e7, hf⟩ := Option.bind_eq_some_iff.mp hf
    refine g_callV (a := 0) (k2 := 0) (n2 := 0) (q := 80) (as := []) (st := []) (st1 := []) tm_X8_listFunctions ml_X8_82 ti_X8_listFunctions rfl rfl dX8_setVariables_77 rfl (ev_X8_listFunctions e7) rfl rfl (Nat.le_of_ble_eq_true rfl) (by decide) rfl rfl (Or.inl (encM_len.trans encM_len.symm)) rfl ?_
    refine g_iload_n 1 (q := 81) dX8_setVariables_80 rfl rfl ?_
    have hf := Option.some.inj hf
    subst hf
    exact g_ireturn dX8_setVariables_81 rfl ⟨rfl, rfl⟩
  · rw [if_pos c1] at hf
    refine g_bipush (q := 14) (v := (-2)) dX8_setVariables_12 rfl rfl ?_
    have hf := Option.some.inj hf
    subst hf
    exact g_ireturn dX8_setVariables_14 rfl ⟨rfl, rfl⟩
def f_X8_variables  (m_n : Int32) : Int32 := m_n
set_option maxRecDepth 20000 in
set_option maxHeartbeats 4000000 in
theorem ev_X8_variables {l : Launch} {E : tEn}  {m_n : Int32} {m_pt : Int32} {m_rc : Int32} {m_sa : Int64} {m_sb : Int64} {m_sc : Int32} {m_is : Int32} {m_os : Int32} {m_vn : Int32} {m_vc : Int32} {m_va : Int64} {m_vb : Int64} {m_ve : Int32} {m_no : Int32} {m_pl : Int32} {m_fa : Int32} {m_oc : Int32} {m_fu : Int32} {m_ke : Int32} {m_t : List Int64} {m_f : List Int32} {m_rs : List Int32} {m_rt : List Int64} {m_rf : List Int32} {m_st : List Int32} {m_ib : List Int32} {m_ob : List Int32} {m_al : List Int32} {m_el : List Int32} {m_vt : List Int64} {m_vf : List Int32} {m_vs : List Int32} {m_nr : List Int32} {m_ty : List Int32} {m_pa : List Int32} {m_fn : List Int64} {m_md : List Int64} {m_ms : List Int32} {m_mr : List Int32}  : tEv l E yX8_variables cX8_variables 1 (some .int) 1 0 0 [.ref 0] (encM m_n m_pt m_rc m_sa m_sb m_sc m_is m_os m_vn m_vc m_va m_vb m_ve m_no m_pl m_fa m_oc m_fu m_ke m_t m_f m_rs m_rt m_rf m_st m_ib m_ob m_al m_el m_vt m_vf m_vs m_nr m_ty m_pa m_fn m_md m_ms m_mr) (fun r h' => r = some (.int (f_X8_variables m_n)) ∧ h' = encM m_n m_pt m_rc m_sa m_sb m_sc m_is m_os m_vn m_vc m_va m_vb m_ve m_no m_pl m_fa m_oc m_fu m_ke m_t m_f m_rs m_rt m_rf m_st m_ib m_ob m_al m_el m_vt m_vf m_vs m_nr m_ty m_pa m_fn m_md m_ms m_mr) := by
  refine tEv.of (own := RX8) (ini := false) (L := [(0, .ref 0)]) (by decide +kernel) rfl (fun h9 => nomatch h9) rfl (Nat.le_of_ble_eq_true rfl) ?_
  obtain ⟨res, hf⟩ : ∃ z, f_X8_variables m_n = z := ⟨_, rfl⟩
  rw [hf]
  rw [f_X8_variables] at hf
  refine g_aload_n 0 (q := 1) dX8_variables_0 rfl rfl ?_
  refine g_get (q := 4) fl_X8_7 dX8_variables_1 rfl rfl rfl ?_
  subst hf
  exact g_ireturn dX8_variables_4 rfl ⟨rfl, rfl⟩
def f_X8_isSlot (a0 : Int32)  : Int32 := (f_X8_isIn (Int32.toInt64 a0) 0 7)
theorem bl_X8_isSlot (a0 : Int32)  : f_X8_isSlot a0 = 0 ∨ f_X8_isSlot a0 = 1 := by
  unfold f_X8_isSlot
  repeat' split
  all_goals first | exact Or.inl rfl | exact Or.inr rfl | exact bl_X8_isIn _ _ _
set_option maxRecDepth 20000 in
set_option maxHeartbeats 4000000 in
theorem ev_X8_isSlot {l : Launch} {E : tEn}  {h : tHp} {a0 : Int32} : tEv l E yX8_isSlot cX8_isSlot 1 (some .boolean) 2 0 0 [.int a0] (h) (fun r h' => r = some (.int (f_X8_isSlot a0)) ∧ h' = h) := by
  refine tEv.of (own := RX8) (ini := false) (L := [(0, .int a0)]) (by decide +kernel) rfl (fun h9 => nomatch h9) rfl (Nat.le_of_ble_eq_true rfl) ?_
  obtain ⟨res, hf⟩ : ∃ z, f_X8_isSlot a0 = z := ⟨_, rfl⟩
  rw [hf]
  rw [f_X8_isSlot] at hf
  refine g_iload_n 0 (q := 1) dX8_isSlot_0 rfl rfl ?_
  refine g_i2l (q := 2) dX8_isSlot_1 rfl ?_
  refine g_lconst (q := 3) (v := 0) dX8_isSlot_2 rfl rfl ?_
  refine g_ldc2_w (q := 6) kc_X8_85 dX8_isSlot_3 rfl ?_
  refine g_callS (k2 := 0) (n2 := 0) (q := 9) (as := [.long (Int32.toInt64 a0), .long 0, .long 7]) (st := []) (st1 := [.int (f_X8_isIn (Int32.toInt64 a0) 0 7)]) tm_X8_isIn ml_X8_87 ts_X8_isIn dX8_isSlot_6 rfl ev_X8_isIn rfl rfl (Nat.le_of_ble_eq_true rfl) (by decide) rfl rfl (Or.inl rfl) rfl ?_
  subst hf
  exact g_zreturn (bl_X8_isIn (Int32.toInt64 a0) 0 7) dX8_isSlot_9 rfl ⟨rfl, rfl⟩
def f_X8_record_L11  (K : List Int32 → List Int64 → List Int32 → Option (Int32 × List Int32 × List Int64 × List Int32)) : Nat → Int32 → List Int32 → List Int64 → List Int32 → Option (Int32 × List Int32 × List Int64 × List Int32)
  | 0, _, _, _, _ => none
  | fu + 1, v2, m_rs, m_rt, m_rf => (if 10 ≤ v2 then K  m_rs m_rt m_rf else (tld m_rs v2).bind fun r13 => (tst m_rs (v2 - 1) r13).bind fun z15 => (tld m_rt v2).bind fun r17 => (tst m_rt (v2 - 1) r17).bind fun z19 => (tld m_rf v2).bind fun r21 => (tst m_rf (v2 - 1) (vp_nar .boolean r21)).bind fun z23 => f_X8_record_L11 K fu (v2 + 1) z15 z19 z23)
def f_X8_record (a0 : Int32) (m_rc : Int32) (m_t : List Int64) (m_f : List Int32) (m_rs : List Int32) (m_rt : List Int64) (m_rf : List Int32) : Option (Int32 × List Int32 × List Int64 × List Int32) := (if m_rc = 10 then f_X8_record_L11 (fun k25 k26 k27 => (tst k25 (m_rc - 1) a0).bind fun z28 => (tld m_t a0).bind fun r30 => (tst k26 (m_rc - 1) r30).bind fun z32 => (tld m_f a0).bind fun r34 => (tst k27 (m_rc - 1) (vp_nar .boolean r34)).bind fun z36 => some (((m_rc - 1) + 1), z28, z32, z36)) tFU 1 m_rs m_rt m_rf else (tst m_rs m_rc a0).bind fun z2 => (tld m_t a0).bind fun r4 => (tst m_rt m_rc r4).bind fun z6 => (tld m_f a0).bind fun r8 => (tst m_rf m_rc (vp_nar .boolean r8)).bind fun z10 => some ((m_rc + 1), z2, z6, z10))
set_option maxRecDepth 20000 in
set_option maxHeartbeats 4000000 in
theorem ev_X8_record_L11 {l : Launch} {E : tEn}   {m_n : Int32} {m_pt : Int32} {m_rc : Int32} {m_sa : Int64} {m_sb : Int64} {m_sc : Int32} {m_is : Int32} {m_os : Int32} {m_vn : Int32} {m_vc : Int32} {m_va : Int64} {m_vb : Int64} {m_ve : Int32} {m_no : Int32} {m_pl : Int32} {m_fa : Int32} {m_oc : Int32} {m_fu : Int32} {m_ke : Int32} {m_t : List Int64} {m_f : List Int32} {m_st : List Int32} {m_ib : List Int32} {m_ob : List Int32} {m_al : List Int32} {m_el : List Int32} {m_vt : List Int64} {m_vf : List Int32} {m_vs : List Int32} {m_nr : List Int32} {m_ty : List Int32} {m_pa : List Int32} {m_fn : List Int64} {m_md : List Int64} {m_ms : List Int32} {m_mr : List Int32} {w1 : Int32} {K : List Int32 → List Int64 → List Int32 → Option (Int32 × List Int32 × List Int64 × List Int32)} (hK : ∀  (m_rs : List Int32) (m_rt : List Int64) (m_rf : List Int32) (res : Int32 × List Int32 × List Int64 × List Int32), K m_rs m_rt m_rf = some res → tG l E RX8 cX8_record 3 none false 1 (fun r h' => r = none ∧ h' = encM m_n m_pt (res.1) m_sa m_sb m_sc m_is m_os m_vn m_vc m_va m_vb m_ve m_no m_pl m_fa m_oc m_fu m_ke m_t m_f (res.2.1) (res.2.2.1) (res.2.2.2) m_st m_ib m_ob m_al m_el m_vt m_vf m_vs m_nr m_ty m_pa m_fn m_md m_ms m_mr) 0 0 65 [(0, .ref 0), (1, .int w1)] [] (encM m_n m_pt m_rc m_sa m_sb m_sc m_is m_os m_vn m_vc m_va m_vb m_ve m_no m_pl m_fa m_oc m_fu m_ke m_t m_f m_rs m_rt m_rf m_st m_ib m_ob m_al m_el m_vt m_vf m_vs m_nr m_ty m_pa m_fn m_md m_ms m_mr)) :
    ∀ (fu : Nat) (v2 : Int32) (m_rs : List Int32) (m_rt : List Int64) (m_rf : List Int32) (res : Int32 × List Int32 × List Int64 × List Int32), f_X8_record_L11  K fu v2 m_rs m_rt m_rf = some res → tG l E RX8 cX8_record 3 none false 1 (fun r h' => r = none ∧ h' = encM m_n m_pt (res.1) m_sa m_sb m_sc m_is m_os m_vn m_vc m_va m_vb m_ve m_no m_pl m_fa m_oc m_fu m_ke m_t m_f (res.2.1) (res.2.2.1) (res.2.2.2) m_st m_ib m_ob m_al m_el m_vt m_vf m_vs m_nr m_ty m_pa m_fn m_md m_ms m_mr) 0 0 11 [(0, .ref 0), (1, .int w1), (2, .int v2)] [] (encM m_n m_pt m_rc m_sa m_sb m_sc m_is m_os m_vn m_vc m_va m_vb m_ve m_no m_pl m_fa m_oc m_fu m_ke m_t m_f m_rs m_rt m_rf m_st m_ib m_ob m_al m_el m_vt m_vf m_vs m_nr m_ty m_pa m_fn m_md m_ms m_mr) := by
  intro fu
  induction fu with
  | zero => intro v2 m_rs m_rt m_rf res hf; exact nomatch (show none = some res from hf)
  | succ fu ih =>
    intro v2 m_rs m_rt m_rf res hf
    rw [f_X8_record_L11] at hf
    refine g_iload_n 2 (q := 12) dX8_record_11 rfl rfl ?_
    refine g_bipush (q := 14) (v := 10) dX8_record_12 rfl rfl ?_
    refine g_icmp_ge (t := 65) (q := 17) dX8_record_14 (by decide) rfl (fun c12 => ?_) (fun c12 => ?_)
    · rw [if_pos c12] at hf
      refine g_ls [0, 1] rfl ?_
      exact hK _ _ _ _ hf
    · rw [if_neg c12] at hf
      refine g_aload_n 0 (q := 18) dX8_record_17 rfl rfl ?_
      refine g_get (q := 21) fl_X8_24 dX8_record_18 rfl rfl rfl ?_
      refine g_iload_n 2 (q := 22) dX8_record_21 rfl rfl ?_
      refine g_iconst (q := 23) (v := 1) dX8_record_22 rfl rfl ?_
      refine g_isub (q := 24) dX8_record_23 rfl ?_
      refine g_aload_n 0 (q := 25) dX8_record_24 rfl rfl ?_
      refine g_get (q := 28) fl_X8_24 dX8_record_25 rfl rfl rfl ?_
      refine g_iload_n 2 (q := 29) dX8_record_28 rfl rfl ?_
      obtain ⟨r13, e14, hf⟩ := Option.bind_eq_some_iff.mp hf
      refine g_iaload (q := 30) dX8_record_29 rfl rfl e14 ?_
      obtain ⟨z15, e16, hf⟩ := Option.bind_eq_some_iff.mp hf
      refine g_iastore (q := 31) (h' := encM m_n m_pt m_rc m_sa m_sb m_sc m_is m_os m_vn m_vc m_va m_vb m_ve m_no m_pl m_fa m_oc m_fu m_ke m_t m_f z15 m_rt m_rf m_st m_ib m_ob m_al m_el m_vt m_vf m_vs m_nr m_ty m_pa m_fn m_md m_ms m_mr) dX8_record_30 rfl rfl e16 rfl ?_
      refine g_aload_n 0 (q := 32) dX8_record_31 rfl rfl ?_
      refine g_get (q := 35) fl_X8_28 dX8_record_32 rfl rfl rfl ?_
      refine g_iload_n 2 (q := 36) dX8_record_35 rfl rfl ?_
      refine g_iconst (q := 37) (v := 1) dX8_record_36 rfl rfl ?_
      refine g_isub (q := 38) dX8_record_37 rfl ?_
      refine g_aload_n 0 (q := 39) dX8_record_38 rfl rfl ?_
      refine g_get (q := 42) fl_X8_28 dX8_record_39 rfl rfl rfl ?_
      refine g_iload_n 2 (q := 43) dX8_record_42 rfl rfl ?_
      obtain ⟨r17, e18, hf⟩ := Option.bind_eq_some_iff.mp hf
      refine g_laload (q := 44) dX8_record_43 rfl rfl e18 ?_
      obtain ⟨z19, e20, hf⟩ := Option.bind_eq_some_iff.mp hf
      refine g_lastore (q := 45) (h' := encM m_n m_pt m_rc m_sa m_sb m_sc m_is m_os m_vn m_vc m_va m_vb m_ve m_no m_pl m_fa m_oc m_fu m_ke m_t m_f z15 z19 m_rf m_st m_ib m_ob m_al m_el m_vt m_vf m_vs m_nr m_ty m_pa m_fn m_md m_ms m_mr) dX8_record_44 rfl rfl e20 rfl ?_
      refine g_aload_n 0 (q := 46) dX8_record_45 rfl rfl ?_
      refine g_get (q := 49) fl_X8_31 dX8_record_46 rfl rfl rfl ?_
      refine g_iload_n 2 (q := 50) dX8_record_49 rfl rfl ?_
      refine g_iconst (q := 51) (v := 1) dX8_record_50 rfl rfl ?_
      refine g_isub (q := 52) dX8_record_51 rfl ?_
      refine g_aload_n 0 (q := 53) dX8_record_52 rfl rfl ?_
      refine g_get (q := 56) fl_X8_31 dX8_record_53 rfl rfl rfl ?_
      refine g_iload_n 2 (q := 57) dX8_record_56 rfl rfl ?_
      obtain ⟨r21, e22, hf⟩ := Option.bind_eq_some_iff.mp hf
      refine g_baload (q := 58) dX8_record_57 rfl rfl e22 ?_
      obtain ⟨z23, e24, hf⟩ := Option.bind_eq_some_iff.mp hf
      refine g_bastore (q := 59) (h' := encM m_n m_pt m_rc m_sa m_sb m_sc m_is m_os m_vn m_vc m_va m_vb m_ve m_no m_pl m_fa m_oc m_fu m_ke m_t m_f z15 z19 z23 m_st m_ib m_ob m_al m_el m_vt m_vf m_vs m_nr m_ty m_pa m_fn m_md m_ms m_mr) dX8_record_58 rfl rfl e24 rfl ?_
      refine g_iinc 2 (q := 62) (v := (v2 + 1)) (L' := [(0, .ref 0), (1, .int w1), (2, .int (v2 + 1))]) dX8_record_59 rfl rfl rfl (by decide) rfl ?_
      refine g_goto (t := 11) dX8_record_62 (by decide) ?_
      refine g_ls [0, 1, 2] rfl ?_
      exact ih _ _ _ _ _ hf
set_option maxRecDepth 20000 in
set_option maxHeartbeats 4000000 in
theorem ev_X8_record {l : Launch} {E : tEn}  {m_n : Int32} {m_pt : Int32} {m_rc : Int32} {m_sa : Int64} {m_sb : Int64} {m_sc : Int32} {m_is : Int32} {m_os : Int32} {m_vn : Int32} {m_vc : Int32} {m_va : Int64} {m_vb : Int64} {m_ve : Int32} {m_no : Int32} {m_pl : Int32} {m_fa : Int32} {m_oc : Int32} {m_fu : Int32} {m_ke : Int32} {m_t : List Int64} {m_f : List Int32} {m_rs : List Int32} {m_rt : List Int64} {m_rf : List Int32} {m_st : List Int32} {m_ib : List Int32} {m_ob : List Int32} {m_al : List Int32} {m_el : List Int32} {m_vt : List Int64} {m_vf : List Int32} {m_vs : List Int32} {m_nr : List Int32} {m_ty : List Int32} {m_pa : List Int32} {m_fn : List Int64} {m_md : List Int64} {m_ms : List Int32} {m_mr : List Int32} {a0 : Int32} {res : Int32 × List Int32 × List Int64 × List Int32} (hf : f_X8_record a0 m_rc m_t m_f m_rs m_rt m_rf = some res) : tEv l E yX8_record cX8_record 3 none 1 0 0 [.ref 0, .int a0] (encM m_n m_pt m_rc m_sa m_sb m_sc m_is m_os m_vn m_vc m_va m_vb m_ve m_no m_pl m_fa m_oc m_fu m_ke m_t m_f m_rs m_rt m_rf m_st m_ib m_ob m_al m_el m_vt m_vf m_vs m_nr m_ty m_pa m_fn m_md m_ms m_mr) (fun r h' => r = none ∧ h' = encM m_n m_pt (res.1) m_sa m_sb m_sc m_is m_os m_vn m_vc m_va m_vb m_ve m_no m_pl m_fa m_oc m_fu m_ke m_t m_f (res.2.1) (res.2.2.1) (res.2.2.2) m_st m_ib m_ob m_al m_el m_vt m_vf m_vs m_nr m_ty m_pa m_fn m_md m_ms m_mr) := by
  refine tEv.of (own := RX8) (ini := false) (L := [(0, .ref 0), (1, .int a0)]) (by decide +kernel) rfl (fun h9 => nomatch h9) rfl (Nat.le_of_ble_eq_true rfl) ?_
  rw [f_X8_record] at hf
  refine g_aload_n 0 (q := 1) dX8_record_0 rfl rfl ?_
  refine g_get (q := 4) fl_X8_95 dX8_record_1 rfl rfl rfl ?_
  refine g_bipush (q := 6) (v := 10) dX8_record_4 rfl rfl ?_
  refine g_icmp_ne (t := 75) (q := 9) dX8_record_6 (by decide) rfl (fun c1 => ?_) (fun c1 => ?_)
  · rw [if_neg c1] at hf
    refine g_aload_n 0 (q := 76) dX8_record_75 rfl rfl ?_
    refine g_get (q := 79) fl_X8_24 dX8_record_76 rfl rfl rfl ?_
    refine g_aload_n 0 (q := 80) dX8_record_79 rfl rfl ?_
    refine g_get (q := 83) fl_X8_95 dX8_record_80 rfl rfl rfl ?_
    refine g_iload_n 1 (q := 84) dX8_record_83 rfl rfl ?_
    obtain ⟨z2, e3, hf⟩ := Option.bind_eq_some_iff.mp hf
    refine g_iastore (q := 85) (h' := encM m_n m_pt m_rc m_sa m_sb m_sc m_is m_os m_vn m_vc m_va m_vb m_ve m_no m_pl m_fa m_oc m_fu m_ke m_t m_f z2 m_rt m_rf m_st m_ib m_ob m_al m_el m_vt m_vf m_vs m_nr m_ty m_pa m_fn m_md m_ms m_mr) dX8_record_84 rfl rfl e3 rfl ?_
    refine g_aload_n 0 (q := 86) dX8_record_85 rfl rfl ?_
    refine g_get (q := 89) fl_X8_28 dX8_record_86 rfl rfl rfl ?_
    refine g_aload_n 0 (q := 90) dX8_record_89 rfl rfl ?_
    refine g_get (q := 93) fl_X8_95 dX8_record_90 rfl rfl rfl ?_
    refine g_aload_n 0 (q := 94) dX8_record_93 rfl rfl ?_
    refine g_get (q := 97) fl_X8_16 dX8_record_94 rfl rfl rfl ?_
    refine g_iload_n 1 (q := 98) dX8_record_97 rfl rfl ?_
    obtain ⟨r4, e5, hf⟩ := Option.bind_eq_some_iff.mp hf
    refine g_laload (q := 99) dX8_record_98 rfl rfl e5 ?_
    obtain ⟨z6, e7, hf⟩ := Option.bind_eq_some_iff.mp hf
    refine g_lastore (q := 100) (h' := encM m_n m_pt m_rc m_sa m_sb m_sc m_is m_os m_vn m_vc m_va m_vb m_ve m_no m_pl m_fa m_oc m_fu m_ke m_t m_f z2 z6 m_rf m_st m_ib m_ob m_al m_el m_vt m_vf m_vs m_nr m_ty m_pa m_fn m_md m_ms m_mr) dX8_record_99 rfl rfl e7 rfl ?_
    refine g_aload_n 0 (q := 101) dX8_record_100 rfl rfl ?_
    refine g_get (q := 104) fl_X8_31 dX8_record_101 rfl rfl rfl ?_
    refine g_aload_n 0 (q := 105) dX8_record_104 rfl rfl ?_
    refine g_get (q := 108) fl_X8_95 dX8_record_105 rfl rfl rfl ?_
    refine g_aload_n 0 (q := 109) dX8_record_108 rfl rfl ?_
    refine g_get (q := 112) fl_X8_20 dX8_record_109 rfl rfl rfl ?_
    refine g_iload_n 1 (q := 113) dX8_record_112 rfl rfl ?_
    obtain ⟨r8, e9, hf⟩ := Option.bind_eq_some_iff.mp hf
    refine g_baload (q := 114) dX8_record_113 rfl rfl e9 ?_
    obtain ⟨z10, e11, hf⟩ := Option.bind_eq_some_iff.mp hf
    refine g_bastore (q := 115) (h' := encM m_n m_pt m_rc m_sa m_sb m_sc m_is m_os m_vn m_vc m_va m_vb m_ve m_no m_pl m_fa m_oc m_fu m_ke m_t m_f z2 z6 z10 m_st m_ib m_ob m_al m_el m_vt m_vf m_vs m_nr m_ty m_pa m_fn m_md m_ms m_mr) dX8_record_114 rfl rfl e11 rfl ?_
    refine g_aload_n 0 (q := 116) dX8_record_115 rfl rfl ?_
    refine g_dup (q := 117) dX8_record_116 rfl rfl ?_
    refine g_get (q := 120) fl_X8_95 dX8_record_117 rfl rfl rfl ?_
    refine g_iconst (q := 121) (v := 1) dX8_record_120 rfl rfl ?_
    refine g_iadd (q := 122) dX8_record_121 rfl ?_
    refine g_put (q := 125) (h' := encM m_n m_pt (m_rc + 1) m_sa m_sb m_sc m_is m_os m_vn m_vc m_va m_vb m_ve m_no m_pl m_fa m_oc m_fu m_ke m_t m_f z2 z6 z10 m_st m_ib m_ob m_al m_el m_vt m_vf m_vs m_nr m_ty m_pa m_fn m_md m_ms m_mr) fp_X8_95 dX8_record_122 rfl rfl (Nat.le_of_ble_eq_true rfl) (fun _ => ⟨rfl, rfl⟩) rfl ?_
    have hf := Option.some.inj hf
    subst hf
    exact g_return dX8_record_125 rfl ⟨rfl, rfl⟩
  · rw [if_pos c1] at hf
    refine g_iconst (q := 10) (v := 1) dX8_record_9 rfl rfl ?_
    refine g_istore_n (q := 11) (L' := [(0, .ref 0), (1, .int a0), (2, .int 1)]) dX8_record_10 rfl (by decide) rfl ?_
    refine g_ls [0, 1, 2] rfl ?_
    refine ev_X8_record_L11 (fun k25 k26 k27 res hf => ?_) tFU _ _ _ _ res hf
    refine g_aload_n 0 (q := 66) dX8_record_65 rfl rfl ?_
    refine g_dup (q := 67) dX8_record_66 rfl rfl ?_
    refine g_get (q := 70) fl_X8_95 dX8_record_67 rfl rfl rfl ?_
    refine g_iconst (q := 71) (v := 1) dX8_record_70 rfl rfl ?_
    refine g_isub (q := 72) dX8_record_71 rfl ?_
    refine g_put (q := 75) (h' := encM m_n m_pt (m_rc - 1) m_sa m_sb m_sc m_is m_os m_vn m_vc m_va m_vb m_ve m_no m_pl m_fa m_oc m_fu m_ke m_t m_f k25 k26 k27 m_st m_ib m_ob m_al m_el m_vt m_vf m_vs m_nr m_ty m_pa m_fn m_md m_ms m_mr) fp_X8_95 dX8_record_72 rfl rfl (Nat.le_of_ble_eq_true rfl) (fun _ => ⟨rfl, rfl⟩) rfl ?_
    refine g_aload_n 0 (q := 76) dX8_record_75 rfl rfl ?_
    refine g_get (q := 79) fl_X8_24 dX8_record_76 rfl rfl rfl ?_
    refine g_aload_n 0 (q := 80) dX8_record_79 rfl rfl ?_
    refine g_get (q := 83) fl_X8_95 dX8_record_80 rfl rfl rfl ?_
    refine g_iload_n 1 (q := 84) dX8_record_83 rfl rfl ?_
    obtain ⟨z28, e29, hf⟩ := Option.bind_eq_some_iff.mp hf
    refine g_iastore (q := 85) (h' := encM m_n m_pt (m_rc - 1) m_sa m_sb m_sc m_is m_os m_vn m_vc m_va m_vb m_ve m_no m_pl m_fa m_oc m_fu m_ke m_t m_f z28 k26 k27 m_st m_ib m_ob m_al m_el m_vt m_vf m_vs m_nr m_ty m_pa m_fn m_md m_ms m_mr) dX8_record_84 rfl rfl e29 rfl ?_
    refine g_aload_n 0 (q := 86) dX8_record_85 rfl rfl ?_
    refine g_get (q := 89) fl_X8_28 dX8_record_86 rfl rfl rfl ?_
    refine g_aload_n 0 (q := 90) dX8_record_89 rfl rfl ?_
    refine g_get (q := 93) fl_X8_95 dX8_record_90 rfl rfl rfl ?_
    refine g_aload_n 0 (q := 94) dX8_record_93 rfl rfl ?_
    refine g_get (q := 97) fl_X8_16 dX8_record_94 rfl rfl rfl ?_
    refine g_iload_n 1 (q := 98) dX8_record_97 rfl rfl ?_
    obtain ⟨r30, e31, hf⟩ := Option.bind_eq_some_iff.mp hf
    refine g_laload (q := 99) dX8_record_98 rfl rfl e31 ?_
    obtain ⟨z32, e33, hf⟩ := Option.bind_eq_some_iff.mp hf
    refine g_lastore (q := 100) (h' := encM m_n m_pt (m_rc - 1) m_sa m_sb m_sc m_is m_os m_vn m_vc m_va m_vb m_ve m_no m_pl m_fa m_oc m_fu m_ke m_t m_f z28 z32 k27 m_st m_ib m_ob m_al m_el m_vt m_vf m_vs m_nr m_ty m_pa m_fn m_md m_ms m_mr) dX8_record_99 rfl rfl e33 rfl ?_
    refine g_aload_n 0 (q := 101) dX8_record_100 rfl rfl ?_
    refine g_get (q := 104) fl_X8_31 dX8_record_101 rfl rfl rfl ?_
    refine g_aload_n 0 (q := 105) dX8_record_104 rfl rfl ?_
    refine g_get (q := 108) fl_X8_95 dX8_record_105 rfl rfl rfl ?_
    refine g_aload_n 0 (q := 109) dX8_record_108 rfl rfl ?_
    refine g_get (q := 112) fl_X8_20 dX8_record_109 rfl rfl rfl ?_
    refine g_iload_n 1 (q := 113) dX8_record_112 rfl rfl ?_
    obtain ⟨r34, e35, hf⟩ := Option.bind_eq_some_iff.mp hf
    refine g_baload (q := 114) dX8_record_113 rfl rfl e35 ?_
    obtain ⟨z36, e37, hf⟩ := Option.bind_eq_some_iff.mp hf
    refine g_bastore (q := 115) (h' := encM m_n m_pt (m_rc - 1) m_sa m_sb m_sc m_is m_os m_vn m_vc m_va m_vb m_ve m_no m_pl m_fa m_oc m_fu m_ke m_t m_f z28 z32 z36 m_st m_ib m_ob m_al m_el m_vt m_vf m_vs m_nr m_ty m_pa m_fn m_md m_ms m_mr) dX8_record_114 rfl rfl e37 rfl ?_
    refine g_aload_n 0 (q := 116) dX8_record_115 rfl rfl ?_
    refine g_dup (q := 117) dX8_record_116 rfl rfl ?_
    refine g_get (q := 120) fl_X8_95 dX8_record_117 rfl rfl rfl ?_
    refine g_iconst (q := 121) (v := 1) dX8_record_120 rfl rfl ?_
    refine g_iadd (q := 122) dX8_record_121 rfl ?_
    refine g_put (q := 125) (h' := encM m_n m_pt ((m_rc - 1) + 1) m_sa m_sb m_sc m_is m_os m_vn m_vc m_va m_vb m_ve m_no m_pl m_fa m_oc m_fu m_ke m_t m_f z28 z32 z36 m_st m_ib m_ob m_al m_el m_vt m_vf m_vs m_nr m_ty m_pa m_fn m_md m_ms m_mr) fp_X8_95 dX8_record_122 rfl rfl (Nat.le_of_ble_eq_true rfl) (fun _ => ⟨rfl, rfl⟩) rfl ?_
    have hf := Option.some.inj hf
    subst hf
    exact g_return dX8_record_125 rfl ⟨rfl, rfl⟩
def f_X8_at (a0 : Int64) (a1 : Int32)  : Int32 := (if (lg_cmp ((tlshr a0 a1) &&& 1) 1) = 0 then 1 else 0)
theorem bl_X8_at (a0 : Int64) (a1 : Int32)  : f_X8_at a0 a1 = 0 ∨ f_X8_at a0 a1 = 1 := by
  unfold f_X8_at
  repeat' split
  all_goals first | exact Or.inl rfl | exact Or.inr rfl
set_option maxRecDepth 20000 in
set_option maxHeartbeats 4000000 in
theorem ev_X8_at {l : Launch} {E : tEn}  {h : tHp} {a0 : Int64} {a1 : Int32} : tEv l E yX8_at cX8_at 3 (some .boolean) 1 0 0 [.long a0, .int a1] (h) (fun r h' => r = some (.int (f_X8_at a0 a1)) ∧ h' = h) := by
  refine tEv.of (own := RX8) (ini := false) (L := [(0, .long a0), (2, .int a1)]) (by decide +kernel) rfl (fun h9 => nomatch h9) rfl (Nat.le_of_ble_eq_true rfl) ?_
  obtain ⟨res, hf⟩ : ∃ z, f_X8_at a0 a1 = z := ⟨_, rfl⟩
  rw [hf]
  rw [f_X8_at] at hf
  refine g_lload_n 0 (q := 1) dX8_at_0 rfl rfl ?_
  refine g_iload_n 1 (q := 2) dX8_at_1 rfl rfl ?_
  refine g_lshr (q := 3) dX8_at_2 rfl ?_
  refine g_lconst (q := 4) (v := 1) dX8_at_3 rfl rfl ?_
  refine g_land (q := 5) dX8_at_4 rfl ?_
  refine g_lconst (q := 6) (v := 1) dX8_at_5 rfl rfl ?_
  refine g_lcmp (q := 7) dX8_at_6 rfl ?_
  refine g_if_ne (t := 14) (q := 10) dX8_at_7 (by decide) rfl (fun c1 => ?_) (fun c1 => ?_)
  · rw [if_neg c1] at hf
    refine g_iconst (q := 15) (v := 0) dX8_at_14 rfl rfl ?_
    subst hf
    exact g_zreturn (Or.inl rfl) dX8_at_15 rfl ⟨rfl, rfl⟩
  · rw [if_pos c1] at hf
    refine g_iconst (q := 11) (v := 1) dX8_at_10 rfl rfl ?_
    refine g_goto (t := 15) dX8_at_11 (by decide) ?_
    subst hf
    exact g_zreturn (Or.inr rfl) dX8_at_15 rfl ⟨rfl, rfl⟩
def f_X8_ones_L5 (w1 : Int64) (m_pt : Int32) (K : Int32 → Option (Int32)) : Nat → Int32 → Int32 → Option (Int32)
  | 0, _, _ => none
  | fu + 1, v3, v4 => (if m_pt ≤ v4 then K v3 else (if (f_X8_at w1 v4) = 0 then f_X8_ones_L5 w1 m_pt K fu (v3 + 0) (v4 + 1) else f_X8_ones_L5 w1 m_pt K fu (v3 + 1) (v4 + 1)))
def f_X8_ones (a0 : Int64) (m_pt : Int32) : Option (Int32) := f_X8_ones_L5 a0 m_pt (fun y3 => some y3) tFU 0 0
set_option maxRecDepth 20000 in
set_option maxHeartbeats 4000000 in
theorem ev_X8_ones_L5 {l : Launch} {E : tEn}   {m_n : Int32} {m_pt : Int32} {m_rc : Int32} {m_sa : Int64} {m_sb : Int64} {m_sc : Int32} {m_is : Int32} {m_os : Int32} {m_vn : Int32} {m_vc : Int32} {m_va : Int64} {m_vb : Int64} {m_ve : Int32} {m_no : Int32} {m_pl : Int32} {m_fa : Int32} {m_oc : Int32} {m_fu : Int32} {m_ke : Int32} {m_t : List Int64} {m_f : List Int32} {m_rs : List Int32} {m_rt : List Int64} {m_rf : List Int32} {m_st : List Int32} {m_ib : List Int32} {m_ob : List Int32} {m_al : List Int32} {m_el : List Int32} {m_vt : List Int64} {m_vf : List Int32} {m_vs : List Int32} {m_nr : List Int32} {m_ty : List Int32} {m_pa : List Int32} {m_fn : List Int64} {m_md : List Int64} {m_ms : List Int32} {m_mr : List Int32} {w1 : Int64} {K : Int32 → Option (Int32)} (hK : ∀ (v3 : Int32)  (res : Int32), K v3 = some res → tG l E RX8 cX8_ones 5 (some .int) false 2 (fun r h' => r = some (.int res) ∧ h' = encM m_n m_pt m_rc m_sa m_sb m_sc m_is m_os m_vn m_vc m_va m_vb m_ve m_no m_pl m_fa m_oc m_fu m_ke m_t m_f m_rs m_rt m_rf m_st m_ib m_ob m_al m_el m_vt m_vf m_vs m_nr m_ty m_pa m_fn m_md m_ms m_mr) 0 0 37 [(3, .int v3)] [] (encM m_n m_pt m_rc m_sa m_sb m_sc m_is m_os m_vn m_vc m_va m_vb m_ve m_no m_pl m_fa m_oc m_fu m_ke m_t m_f m_rs m_rt m_rf m_st m_ib m_ob m_al m_el m_vt m_vf m_vs m_nr m_ty m_pa m_fn m_md m_ms m_mr)) :
    ∀ (fu : Nat) (v3 : Int32) (v4 : Int32) (res : Int32), f_X8_ones_L5 w1 m_pt K fu v3 v4 = some res → tG l E RX8 cX8_ones 5 (some .int) false 2 (fun r h' => r = some (.int res) ∧ h' = encM m_n m_pt m_rc m_sa m_sb m_sc m_is m_os m_vn m_vc m_va m_vb m_ve m_no m_pl m_fa m_oc m_fu m_ke m_t m_f m_rs m_rt m_rf m_st m_ib m_ob m_al m_el m_vt m_vf m_vs m_nr m_ty m_pa m_fn m_md m_ms m_mr) 0 0 5 [(0, .ref 0), (1, .long w1), (3, .int v3), (4, .int v4)] [] (encM m_n m_pt m_rc m_sa m_sb m_sc m_is m_os m_vn m_vc m_va m_vb m_ve m_no m_pl m_fa m_oc m_fu m_ke m_t m_f m_rs m_rt m_rf m_st m_ib m_ob m_al m_el m_vt m_vf m_vs m_nr m_ty m_pa m_fn m_md m_ms m_mr) := by
  intro fu
  induction fu with
  | zero => intro v3 v4 res hf; exact nomatch (show none = some res from hf)
  | succ fu ih =>
    intro v3 v4 res hf
    rw [f_X8_ones_L5] at hf
    refine g_iload 3 (q := 7) dX8_ones_5 rfl rfl ?_
    refine g_aload_n 0 (q := 8) dX8_ones_7 rfl rfl ?_
    refine g_get (q := 11) fl_X8_13 dX8_ones_8 rfl rfl rfl ?_
    refine g_icmp_ge (t := 37) (q := 14) dX8_ones_11 (by decide) rfl (fun c1 => ?_) (fun c1 => ?_)
    · rw [if_pos c1] at hf
      refine g_ls [2] rfl ?_
      exact hK _ _ hf
    · rw [if_neg c1] at hf
      refine g_iload_n 2 (q := 15) dX8_ones_14 rfl rfl ?_
      refine g_lload_n 1 (q := 16) dX8_ones_15 rfl rfl ?_
      refine g_iload 3 (q := 18) dX8_ones_16 rfl rfl ?_
      refine g_callS (k2 := 0) (n2 := 0) (q := 21) (as := [.long w1, .int v4]) (st := [.int v3]) (st1 := [.int (f_X8_at w1 v4), .int v3]) tm_X8_at ml_X8_91 ts_X8_at dX8_ones_18 rfl ev_X8_at rfl rfl (Nat.le_of_ble_eq_true rfl) (by decide) rfl rfl (Or.inl rfl) rfl ?_
      refine g_if_eq (t := 28) (q := 24) dX8_ones_21 (by decide) rfl (fun c2 => ?_) (fun c2 => ?_)
      · rw [if_pos c2] at hf
        refine g_iconst (q := 29) (v := 0) dX8_ones_28 rfl rfl ?_
        refine g_iadd (q := 30) dX8_ones_29 rfl ?_
        refine g_istore_n (q := 31) (L' := [(0, .ref 0), (1, .long w1), (3, .int (v3 + 0)), (4, .int v4)]) dX8_ones_30 rfl (by decide) rfl ?_
        refine g_iinc 3 (q := 34) (v := (v4 + 1)) (L' := [(0, .ref 0), (1, .long w1), (3, .int (v3 + 0)), (4, .int (v4 + 1))]) dX8_ones_31 rfl rfl rfl (by decide) rfl ?_
        refine g_goto (t := 5) dX8_ones_34 (by decide) ?_
        refine g_ls [0, 1, 2, 3] rfl ?_
        exact ih _ _ _ hf
      · rw [if_neg c2] at hf
        refine g_iconst (q := 25) (v := 1) dX8_ones_24 rfl rfl ?_
        refine g_goto (t := 29) dX8_ones_25 (by decide) ?_
        refine g_iadd (q := 30) dX8_ones_29 rfl ?_
        refine g_istore_n (q := 31) (L' := [(0, .ref 0), (1, .long w1), (3, .int (v3 + 1)), (4, .int v4)]) dX8_ones_30 rfl (by decide) rfl ?_
        refine g_iinc 3 (q := 34) (v := (v4 + 1)) (L' := [(0, .ref 0), (1, .long w1), (3, .int (v3 + 1)), (4, .int (v4 + 1))]) dX8_ones_31 rfl rfl rfl (by decide) rfl ?_
        refine g_goto (t := 5) dX8_ones_34 (by decide) ?_
        refine g_ls [0, 1, 2, 3] rfl ?_
        exact ih _ _ _ hf
set_option maxRecDepth 20000 in
set_option maxHeartbeats 4000000 in
theorem ev_X8_ones {l : Launch} {E : tEn}  {m_n : Int32} {m_pt : Int32} {m_rc : Int32} {m_sa : Int64} {m_sb : Int64} {m_sc : Int32} {m_is : Int32} {m_os : Int32} {m_vn : Int32} {m_vc : Int32} {m_va : Int64} {m_vb : Int64} {m_ve : Int32} {m_no : Int32} {m_pl : Int32} {m_fa : Int32} {m_oc : Int32} {m_fu : Int32} {m_ke : Int32} {m_t : List Int64} {m_f : List Int32} {m_rs : List Int32} {m_rt : List Int64} {m_rf : List Int32} {m_st : List Int32} {m_ib : List Int32} {m_ob : List Int32} {m_al : List Int32} {m_el : List Int32} {m_vt : List Int64} {m_vf : List Int32} {m_vs : List Int32} {m_nr : List Int32} {m_ty : List Int32} {m_pa : List Int32} {m_fn : List Int64} {m_md : List Int64} {m_ms : List Int32} {m_mr : List Int32} {a0 : Int64} {res : Int32} (hf : f_X8_ones a0 m_pt = some res) : tEv l E yX8_ones cX8_ones 5 (some .int) 2 0 0 [.ref 0, .long a0] (encM m_n m_pt m_rc m_sa m_sb m_sc m_is m_os m_vn m_vc m_va m_vb m_ve m_no m_pl m_fa m_oc m_fu m_ke m_t m_f m_rs m_rt m_rf m_st m_ib m_ob m_al m_el m_vt m_vf m_vs m_nr m_ty m_pa m_fn m_md m_ms m_mr) (fun r h' => r = some (.int res) ∧ h' = encM m_n m_pt m_rc m_sa m_sb m_sc m_is m_os m_vn m_vc m_va m_vb m_ve m_no m_pl m_fa m_oc m_fu m_ke m_t m_f m_rs m_rt m_rf m_st m_ib m_ob m_al m_el m_vt m_vf m_vs m_nr m_ty m_pa m_fn m_md m_ms m_mr) := by
  refine tEv.of (own := RX8) (ini := false) (L := [(0, .ref 0), (1, .long a0)]) (by decide +kernel) rfl (fun h9 => nomatch h9) rfl (Nat.le_of_ble_eq_true rfl) ?_
  rw [f_X8_ones] at hf
  refine g_iconst (q := 1) (v := 0) dX8_ones_0 rfl rfl ?_
  refine g_istore_n (q := 2) (L' := [(0, .ref 0), (1, .long a0), (3, .int 0)]) dX8_ones_1 rfl (by decide) rfl ?_
  refine g_iconst (q := 3) (v := 0) dX8_ones_2 rfl rfl ?_
  refine g_istore (q := 5) (L' := [(0, .ref 0), (1, .long a0), (3, .int 0), (4, .int 0)]) dX8_ones_3 rfl (by decide) rfl ?_
  refine g_ls [0, 1, 2, 3] rfl ?_
  refine ev_X8_ones_L5 (fun y3 res hf => ?_) tFU _ _ res hf
  refine g_iload_n 0 (q := 38) dX8_ones_37 rfl rfl ?_
  have hf := Option.some.inj hf
  subst hf
  exact g_ireturn dX8_ones_38 rfl ⟨rfl, rfl⟩
def f_X8_store (a0 : Int32) (a1 : Int64) (m_pt : Int32) (m_rc : Int32) (m_t : List Int64) (m_f : List Int32) (m_rs : List Int32) (m_rt : List Int64) (m_rf : List Int32) : Option (Int32 × Int32 × List Int64 × List Int32 × List Int32 × List Int64 × List Int32) := (f_X8_record a0 m_rc m_t m_f m_rs m_rt m_rf).bind fun r1 => (tst m_t a0 a1).bind fun z3 => (tst m_f a0 (vp_nar .boolean 1)).bind fun z5 => (f_X8_ones a1 m_pt).bind fun r7 => some (r7, r1.1, z3, z5, r1.2.1, r1.2.2.1, r1.2.2.2)
set_option maxRecDepth 20000 in
set_option maxHeartbeats 4000000 in
theorem ev_X8_store {l : Launch} {E : tEn}  {m_n : Int32} {m_pt : Int32} {m_rc : Int32} {m_sa : Int64} {m_sb : Int64} {m_sc : Int32} {m_is : Int32} {m_os : Int32} {m_vn : Int32} {m_vc : Int32} {m_va : Int64} {m_vb : Int64} {m_ve : Int32} {m_no : Int32} {m_pl : Int32} {m_fa : Int32} {m_oc : Int32} {m_fu : Int32} {m_ke : Int32} {m_t : List Int64} {m_f : List Int32} {m_rs : List Int32} {m_rt : List Int64} {m_rf : List Int32} {m_st : List Int32} {m_ib : List Int32} {m_ob : List Int32} {m_al : List Int32} {m_el : List Int32} {m_vt : List Int64} {m_vf : List Int32} {m_vs : List Int32} {m_nr : List Int32} {m_ty : List Int32} {m_pa : List Int32} {m_fn : List Int64} {m_md : List Int64} {m_ms : List Int32} {m_mr : List Int32} {a0 : Int32} {a1 : Int64} {res : Int32 × Int32 × List Int64 × List Int32 × List Int32 × List Int64 × List Int32} (hf : f_X8_store a0 a1 m_pt m_rc m_t m_f m_rs m_rt m_rf = some res) : tEv l E yX8_store cX8_store 4 (some .int) 3 0 0 [.ref 0, .int a0, .long a1] (encM m_n m_pt m_rc m_sa m_sb m_sc m_is m_os m_vn m_vc m_va m_vb m_ve m_no m_pl m_fa m_oc m_fu m_ke m_t m_f m_rs m_rt m_rf m_st m_ib m_ob m_al m_el m_vt m_vf m_vs m_nr m_ty m_pa m_fn m_md m_ms m_mr) (fun r h' => r = some (.int res.1) ∧ h' = encM m_n m_pt (res.2.1) m_sa m_sb m_sc m_is m_os m_vn m_vc m_va m_vb m_ve m_no m_pl m_fa m_oc m_fu m_ke (res.2.2.1) (res.2.2.2.1) (res.2.2.2.2.1) (res.2.2.2.2.2.1) (res.2.2.2.2.2.2) m_st m_ib m_ob m_al m_el m_vt m_vf m_vs m_nr m_ty m_pa m_fn m_md m_ms m_mr) := by
  refine tEv.of (own := RX8) (ini := false) (L := [(0, .ref 0), (1, .int a0), (2, .long a1)]) (by decide +kernel) rfl (fun h9 => nomatch h9) rfl (Nat.le_of_ble_eq_true rfl) ?_
  rw [f_X8_store] at hf
  refine g_aload_n 0 (q := 1) dX8_store_0 rfl rfl ?_
  refine g_iload_n 1 (q := 2) dX8_store_1 rfl rfl ?_
  obtain ⟨r1, e2, hf⟩ := Option.bind_eq_some_iff.mp hf
  refine g_callV (a := 0) (k2 := 0) (n2 := 0) (q := 5) (as := [.int a0]) (st := []) (st1 := []) tm_X8_record ml_X8_98 ti_X8_record rfl rfl dX8_store_2 rfl (ev_X8_record e2) rfl rfl (Nat.le_of_ble_eq_true rfl) (by decide) rfl rfl (Or.inl (encM_len.trans encM_len.symm)) rfl ?_
  refine g_aload_n 0 (q := 6) dX8_store_5 rfl rfl ?_
  refine g_get (q := 9) fl_X8_16 dX8_store_6 rfl rfl rfl ?_
  refine g_iload_n 1 (q := 10) dX8_store_9 rfl rfl ?_
  refine g_lload_n 2 (q := 11) dX8_store_10 rfl rfl ?_
  obtain ⟨z3, e4, hf⟩ := Option.bind_eq_some_iff.mp hf
  refine g_lastore (q := 12) (h' := encM m_n m_pt (r1.1) m_sa m_sb m_sc m_is m_os m_vn m_vc m_va m_vb m_ve m_no m_pl m_fa m_oc m_fu m_ke z3 m_f (r1.2.1) (r1.2.2.1) (r1.2.2.2) m_st m_ib m_ob m_al m_el m_vt m_vf m_vs m_nr m_ty m_pa m_fn m_md m_ms m_mr) dX8_store_11 rfl rfl e4 rfl ?_
  refine g_aload_n 0 (q := 13) dX8_store_12 rfl rfl ?_
  refine g_get (q := 16) fl_X8_20 dX8_store_13 rfl rfl rfl ?_
  refine g_iload_n 1 (q := 17) dX8_store_16 rfl rfl ?_
  refine g_iconst (q := 18) (v := 1) dX8_store_17 rfl rfl ?_
  obtain ⟨z5, e6, hf⟩ := Option.bind_eq_some_iff.mp hf
  refine g_bastore (q := 19) (h' := encM m_n m_pt (r1.1) m_sa m_sb m_sc m_is m_os m_vn m_vc m_va m_vb m_ve m_no m_pl m_fa m_oc m_fu m_ke z3 z5 (r1.2.1) (r1.2.2.1) (r1.2.2.2) m_st m_ib m_ob m_al m_el m_vt m_vf m_vs m_nr m_ty m_pa m_fn m_md m_ms m_mr) dX8_store_18 rfl rfl e6 rfl ?_
  refine g_aload_n 0 (q := 20) dX8_store_19 rfl rfl ?_
  refine g_lload_n 2 (q := 21) dX8_store_20 rfl rfl ?_
  obtain ⟨r7, e8, hf⟩ := Option.bind_eq_some_iff.mp hf
  refine g_callV (a := 0) (k2 := 0) (n2 := 0) (q := 24) (as := [.long a1]) (st := []) (st1 := [.int r7]) tm_X8_ones ml_X8_102 ti_X8_ones rfl rfl dX8_store_21 rfl (ev_X8_ones e8) rfl rfl (Nat.le_of_ble_eq_true rfl) (by decide) rfl rfl (Or.inl rfl) rfl ?_
  have hf := Option.some.inj hf
  subst hf
  exact g_ireturn dX8_store_24 rfl ⟨rfl, rfl⟩
def f_X8_setTable (a0 : Int32) (a1 : Int64) (m_pt : Int32) (m_rc : Int32) (m_t : List Int64) (m_f : List Int32) (m_rs : List Int32) (m_rt : List Int64) (m_rf : List Int32) : Option (Int32 × Int32 × List Int64 × List Int32 × List Int32 × List Int64 × List Int32) := (if (f_X8_isSlot a0) = 0 then some ((-2), m_rc, m_t, m_f, m_rs, m_rt, m_rf) else (if (f_X8_isIn a1 0 ((tlshl 1 m_pt) - 1)) = 0 then some ((-2), m_rc, m_t, m_f, m_rs, m_rt, m_rf) else (f_X8_store a0 a1 m_pt m_rc m_t m_f m_rs m_rt m_rf).bind fun r3 => some (r3.1, r3.2.1, r3.2.2.1, r3.2.2.2.1, r3.2.2.2.2.1, r3.2.2.2.2.2.1, r3.2.2.2.2.2.2)))
set_option maxRecDepth 20000 in
set_option maxHeartbeats 4000000 in
theorem ev_X8_setTable {l : Launch} {E : tEn}  {m_n : Int32} {m_pt : Int32} {m_rc : Int32} {m_sa : Int64} {m_sb : Int64} {m_sc : Int32} {m_is : Int32} {m_os : Int32} {m_vn : Int32} {m_vc : Int32} {m_va : Int64} {m_vb : Int64} {m_ve : Int32} {m_no : Int32} {m_pl : Int32} {m_fa : Int32} {m_oc : Int32} {m_fu : Int32} {m_ke : Int32} {m_t : List Int64} {m_f : List Int32} {m_rs : List Int32} {m_rt : List Int64} {m_rf : List Int32} {m_st : List Int32} {m_ib : List Int32} {m_ob : List Int32} {m_al : List Int32} {m_el : List Int32} {m_vt : List Int64} {m_vf : List Int32} {m_vs : List Int32} {m_nr : List Int32} {m_ty : List Int32} {m_pa : List Int32} {m_fn : List Int64} {m_md : List Int64} {m_ms : List Int32} {m_mr : List Int32} {a0 : Int32} {a1 : Int64} {res : Int32 × Int32 × List Int64 × List Int32 × List Int32 × List Int64 × List Int32} (hf : f_X8_setTable a0 a1 m_pt m_rc m_t m_f m_rs m_rt m_rf = some res) : tEv l E yX8_setTable cX8_setTable 4 (some .int) 4 0 0 [.ref 0, .int a0, .long a1] (encM m_n m_pt m_rc m_sa m_sb m_sc m_is m_os m_vn m_vc m_va m_vb m_ve m_no m_pl m_fa m_oc m_fu m_ke m_t m_f m_rs m_rt m_rf m_st m_ib m_ob m_al m_el m_vt m_vf m_vs m_nr m_ty m_pa m_fn m_md m_ms m_mr) (fun r h' => r = some (.int res.1) ∧ h' = encM m_n m_pt (res.2.1) m_sa m_sb m_sc m_is m_os m_vn m_vc m_va m_vb m_ve m_no m_pl m_fa m_oc m_fu m_ke (res.2.2.1) (res.2.2.2.1) (res.2.2.2.2.1) (res.2.2.2.2.2.1) (res.2.2.2.2.2.2) m_st m_ib m_ob m_al m_el m_vt m_vf m_vs m_nr m_ty m_pa m_fn m_md m_ms m_mr) := by
  refine tEv.of (own := RX8) (ini := false) (L := [(0, .ref 0), (1, .int a0), (2, .long a1)]) (by decide +kernel) rfl (fun h9 => nomatch h9) rfl (Nat.le_of_ble_eq_true rfl) ?_
  rw [f_X8_setTable] at hf
  refine g_iload_n 1 (q := 1) dX8_setTable_0 rfl rfl ?_
  refine g_callS (k2 := 0) (n2 := 0) (q := 4) (as := [.int a0]) (st := []) (st1 := [.int (f_X8_isSlot a0)]) tm_X8_isSlot ml_X8_118 ts_X8_isSlot dX8_setTable_1 rfl ev_X8_isSlot rfl rfl (Nat.le_of_ble_eq_true rfl) (by decide) rfl rfl (Or.inl rfl) rfl ?_
  refine g_if_eq (t := 23) (q := 7) dX8_setTable_4 (by decide) rfl (fun c1 => ?_) (fun c1 => ?_)
  · rw [if_pos c1] at hf
    refine g_bipush (q := 25) (v := (-2)) dX8_setTable_23 rfl rfl ?_
    have hf := Option.some.inj hf
    subst hf
    exact g_ireturn dX8_setTable_25 rfl ⟨rfl, rfl⟩
  · rw [if_neg c1] at hf
    refine g_lload_n 2 (q := 8) dX8_setTable_7 rfl rfl ?_
    refine g_lconst (q := 9) (v := 0) dX8_setTable_8 rfl rfl ?_
    refine g_lconst (q := 10) (v := 1) dX8_setTable_9 rfl rfl ?_
    refine g_aload_n 0 (q := 11) dX8_setTable_10 rfl rfl ?_
    refine g_get (q := 14) fl_X8_13 dX8_setTable_11 rfl rfl rfl ?_
    refine g_lshl (q := 15) dX8_setTable_14 rfl ?_
    refine g_lconst (q := 16) (v := 1) dX8_setTable_15 rfl rfl ?_
    refine g_lsub (q := 17) dX8_setTable_16 rfl ?_
    refine g_callS (k2 := 0) (n2 := 0) (q := 20) (as := [.long a1, .long 0, .long ((tlshl 1 m_pt) - 1)]) (st := []) (st1 := [.int (f_X8_isIn a1 0 ((tlshl 1 m_pt) - 1))]) tm_X8_isIn ml_X8_87 ts_X8_isIn dX8_setTable_17 rfl ev_X8_isIn rfl rfl (Nat.le_of_ble_eq_true rfl) (by decide) rfl rfl (Or.inl rfl) rfl ?_
    refine g_if_ne (t := 26) (q := 23) dX8_setTable_20 (by decide) rfl (fun c2 => ?_) (fun c2 => ?_)
    · rw [if_neg c2] at hf
      refine g_aload_n 0 (q := 27) dX8_setTable_26 rfl rfl ?_
      refine g_iload_n 1 (q := 28) dX8_setTable_27 rfl rfl ?_
      refine g_lload_n 2 (q := 29) dX8_setTable_28 rfl rfl ?_
      obtain ⟨r3, e4, hf⟩ := Option.bind_eq_some_iff.mp hf
      refine g_callV (a := 0) (k2 := 0) (n2 := 0) (q := 32) (as := [.int a0, .long a1]) (st := []) (st1 := [.int r3.1]) tm_X8_store ml_X8_122 ti_X8_store rfl rfl dX8_setTable_29 rfl (ev_X8_store e4) rfl rfl (Nat.le_of_ble_eq_true rfl) (by decide) rfl rfl (Or.inl (encM_len.trans encM_len.symm)) rfl ?_
      have hf := Option.some.inj hf
      subst hf
      exact g_ireturn dX8_setTable_32 rfl ⟨rfl, rfl⟩
    · rw [if_pos c2] at hf
      refine g_bipush (q := 25) (v := (-2)) dX8_setTable_23 rfl rfl ?_
      have hf := Option.some.inj hf
      subst hf
      exact g_ireturn dX8_setTable_25 rfl ⟨rfl, rfl⟩
def f_X8_table (a0 : Int32) (m_t : List Int64) (m_f : List Int32) : Option (Int64) := (if (f_X8_isSlot a0) = 0 then some (-2) else (tld m_f a0).bind fun r2 => (if r2 = 0 then some (-3) else (tld m_t a0).bind fun r5 => some r5))
set_option maxRecDepth 20000 in
set_option maxHeartbeats 4000000 in
theorem ev_X8_table {l : Launch} {E : tEn}  {m_n : Int32} {m_pt : Int32} {m_rc : Int32} {m_sa : Int64} {m_sb : Int64} {m_sc : Int32} {m_is : Int32} {m_os : Int32} {m_vn : Int32} {m_vc : Int32} {m_va : Int64} {m_vb : Int64} {m_ve : Int32} {m_no : Int32} {m_pl : Int32} {m_fa : Int32} {m_oc : Int32} {m_fu : Int32} {m_ke : Int32} {m_t : List Int64} {m_f : List Int32} {m_rs : List Int32} {m_rt : List Int64} {m_rf : List Int32} {m_st : List Int32} {m_ib : List Int32} {m_ob : List Int32} {m_al : List Int32} {m_el : List Int32} {m_vt : List Int64} {m_vf : List Int32} {m_vs : List Int32} {m_nr : List Int32} {m_ty : List Int32} {m_pa : List Int32} {m_fn : List Int64} {m_md : List Int64} {m_ms : List Int32} {m_mr : List Int32} {a0 : Int32} {res : Int64} (hf : f_X8_table a0 m_t m_f = some res) : tEv l E yX8_table cX8_table 2 (some .long) 3 0 0 [.ref 0, .int a0] (encM m_n m_pt m_rc m_sa m_sb m_sc m_is m_os m_vn m_vc m_va m_vb m_ve m_no m_pl m_fa m_oc m_fu m_ke m_t m_f m_rs m_rt m_rf m_st m_ib m_ob m_al m_el m_vt m_vf m_vs m_nr m_ty m_pa m_fn m_md m_ms m_mr) (fun r h' => r = some (.long res) ∧ h' = encM m_n m_pt m_rc m_sa m_sb m_sc m_is m_os m_vn m_vc m_va m_vb m_ve m_no m_pl m_fa m_oc m_fu m_ke m_t m_f m_rs m_rt m_rf m_st m_ib m_ob m_al m_el m_vt m_vf m_vs m_nr m_ty m_pa m_fn m_md m_ms m_mr) := by
  refine tEv.of (own := RX8) (ini := false) (L := [(0, .ref 0), (1, .int a0)]) (by decide +kernel) rfl (fun h9 => nomatch h9) rfl (Nat.le_of_ble_eq_true rfl) ?_
  rw [f_X8_table] at hf
  refine g_iload_n 1 (q := 1) dX8_table_0 rfl rfl ?_
  refine g_callS (k2 := 0) (n2 := 0) (q := 4) (as := [.int a0]) (st := []) (st1 := [.int (f_X8_isSlot a0)]) tm_X8_isSlot ml_X8_118 ts_X8_isSlot dX8_table_1 rfl ev_X8_isSlot rfl rfl (Nat.le_of_ble_eq_true rfl) (by decide) rfl rfl (Or.inl rfl) rfl ?_
  refine g_if_ne (t := 13) (q := 7) dX8_table_4 (by decide) rfl (fun c1 => ?_) (fun c1 => ?_)
  · rw [if_neg c1] at hf
    refine g_aload_n 0 (q := 14) dX8_table_13 rfl rfl ?_
    refine g_get (q := 17) fl_X8_20 dX8_table_14 rfl rfl rfl ?_
    refine g_iload_n 1 (q := 18) dX8_table_17 rfl rfl ?_
    obtain ⟨r2, e3, hf⟩ := Option.bind_eq_some_iff.mp hf
    refine g_baload (q := 19) dX8_table_18 rfl rfl e3 ?_
    refine g_if_eq (t := 31) (q := 22) dX8_table_19 (by decide) rfl (fun c4 => ?_) (fun c4 => ?_)
    · rw [if_pos c4] at hf
      refine g_ldc2_w (q := 34) kc_X8_128 dX8_table_31 rfl ?_
      have hf := Option.some.inj hf
      subst hf
      exact g_lreturn dX8_table_34 rfl ⟨rfl, rfl⟩
    · rw [if_neg c4] at hf
      refine g_aload_n 0 (q := 23) dX8_table_22 rfl rfl ?_
      refine g_get (q := 26) fl_X8_16 dX8_table_23 rfl rfl rfl ?_
      refine g_iload_n 1 (q := 27) dX8_table_26 rfl rfl ?_
      obtain ⟨r5, e6, hf⟩ := Option.bind_eq_some_iff.mp hf
      refine g_laload (q := 28) dX8_table_27 rfl rfl e6 ?_
      refine g_goto (t := 34) dX8_table_28 (by decide) ?_
      have hf := Option.some.inj hf
      subst hf
      exact g_lreturn dX8_table_34 rfl ⟨rfl, rfl⟩
  · rw [if_pos c1] at hf
    refine g_ldc2_w (q := 10) kc_X8_126 dX8_table_7 rfl ?_
    refine g_goto (t := 34) dX8_table_10 (by decide) ?_
    have hf := Option.some.inj hf
    subst hf
    exact g_lreturn dX8_table_34 rfl ⟨rfl, rfl⟩
def f_X8_usedSlots_L4 (m_f : List Int32) (K : Int32 → Option (Int32)) : Nat → Int32 → Int32 → Option (Int32)
  | 0, _, _ => none
  | fu + 1, v1, v2 => (if 8 ≤ v2 then K v1 else (tld m_f v2).bind fun r2 => (if r2 = 0 then f_X8_usedSlots_L4 m_f K fu (v1 + 0) (v2 + 1) else f_X8_usedSlots_L4 m_f K fu (v1 + 1) (v2 + 1)))
def f_X8_usedSlots  (m_f : List Int32) : Option (Int32) := f_X8_usedSlots_L4 m_f (fun y5 => some y5) tFU 0 0
set_option maxRecDepth 20000 in
set_option maxHeartbeats 4000000 in
theorem ev_X8_usedSlots_L4 {l : Launch} {E : tEn}   {m_n : Int32} {m_pt : Int32} {m_rc : Int32} {m_sa : Int64} {m_sb : Int64} {m_sc : Int32} {m_is : Int32} {m_os : Int32} {m_vn : Int32} {m_vc : Int32} {m_va : Int64} {m_vb : Int64} {m_ve : Int32} {m_no : Int32} {m_pl : Int32} {m_fa : Int32} {m_oc : Int32} {m_fu : Int32} {m_ke : Int32} {m_t : List Int64} {m_f : List Int32} {m_rs : List Int32} {m_rt : List Int64} {m_rf : List Int32} {m_st : List Int32} {m_ib : List Int32} {m_ob : List Int32} {m_al : List Int32} {m_el : List Int32} {m_vt : List Int64} {m_vf : List Int32} {m_vs : List Int32} {m_nr : List Int32} {m_ty : List Int32} {m_pa : List Int32} {m_fn : List Int64} {m_md : List Int64} {m_ms : List Int32} {m_mr : List Int32}  {K : Int32 → Option (Int32)} (hK : ∀ (v1 : Int32)  (res : Int32), K v1 = some res → tG l E RX8 cX8_usedSlots 3 (some .int) false 1 (fun r h' => r = some (.int res) ∧ h' = encM m_n m_pt m_rc m_sa m_sb m_sc m_is m_os m_vn m_vc m_va m_vb m_ve m_no m_pl m_fa m_oc m_fu m_ke m_t m_f m_rs m_rt m_rf m_st m_ib m_ob m_al m_el m_vt m_vf m_vs m_nr m_ty m_pa m_fn m_md m_ms m_mr) 0 0 33 [(1, .int v1)] [] (encM m_n m_pt m_rc m_sa m_sb m_sc m_is m_os m_vn m_vc m_va m_vb m_ve m_no m_pl m_fa m_oc m_fu m_ke m_t m_f m_rs m_rt m_rf m_st m_ib m_ob m_al m_el m_vt m_vf m_vs m_nr m_ty m_pa m_fn m_md m_ms m_mr)) :
    ∀ (fu : Nat) (v1 : Int32) (v2 : Int32) (res : Int32), f_X8_usedSlots_L4 m_f K fu v1 v2 = some res → tG l E RX8 cX8_usedSlots 3 (some .int) false 1 (fun r h' => r = some (.int res) ∧ h' = encM m_n m_pt m_rc m_sa m_sb m_sc m_is m_os m_vn m_vc m_va m_vb m_ve m_no m_pl m_fa m_oc m_fu m_ke m_t m_f m_rs m_rt m_rf m_st m_ib m_ob m_al m_el m_vt m_vf m_vs m_nr m_ty m_pa m_fn m_md m_ms m_mr) 0 0 4 [(0, .ref 0), (1, .int v1), (2, .int v2)] [] (encM m_n m_pt m_rc m_sa m_sb m_sc m_is m_os m_vn m_vc m_va m_vb m_ve m_no m_pl m_fa m_oc m_fu m_ke m_t m_f m_rs m_rt m_rf m_st m_ib m_ob m_al m_el m_vt m_vf m_vs m_nr m_ty m_pa m_fn m_md m_ms m_mr) := by
  intro fu
  induction fu with
  | zero => intro v1 v2 res hf; exact nomatch (show none = some res from hf)
  | succ fu ih =>
    intro v1 v2 res hf
    rw [f_X8_usedSlots_L4] at hf
    refine g_iload_n 2 (q := 5) dX8_usedSlots_4 rfl rfl ?_
    refine g_bipush (q := 7) (v := 8) dX8_usedSlots_5 rfl rfl ?_
    refine g_icmp_ge (t := 33) (q := 10) dX8_usedSlots_7 (by decide) rfl (fun c1 => ?_) (fun c1 => ?_)
    · rw [if_pos c1] at hf
      refine g_ls [1] rfl ?_
      exact hK _ _ hf
    · rw [if_neg c1] at hf
      refine g_iload_n 1 (q := 11) dX8_usedSlots_10 rfl rfl ?_
      refine g_aload_n 0 (q := 12) dX8_usedSlots_11 rfl rfl ?_
      refine g_get (q := 15) fl_X8_20 dX8_usedSlots_12 rfl rfl rfl ?_
      refine g_iload_n 2 (q := 16) dX8_usedSlots_15 rfl rfl ?_
      obtain ⟨r2, e3, hf⟩ := Option.bind_eq_some_iff.mp hf
      refine g_baload (q := 17) dX8_usedSlots_16 rfl rfl e3 ?_
      refine g_if_eq (t := 24) (q := 20) dX8_usedSlots_17 (by decide) rfl (fun c4 => ?_) (fun c4 => ?_)
      · rw [if_pos c4] at hf
        refine g_iconst (q := 25) (v := 0) dX8_usedSlots_24 rfl rfl ?_
        refine g_iadd (q := 26) dX8_usedSlots_25 rfl ?_
        refine g_istore_n (q := 27) (L' := [(0, .ref 0), (1, .int (v1 + 0)), (2, .int v2)]) dX8_usedSlots_26 rfl (by decide) rfl ?_
        refine g_iinc 2 (q := 30) (v := (v2 + 1)) (L' := [(0, .ref 0), (1, .int (v1 + 0)), (2, .int (v2 + 1))]) dX8_usedSlots_27 rfl rfl rfl (by decide) rfl ?_
        refine g_goto (t := 4) dX8_usedSlots_30 (by decide) ?_
        refine g_ls [0, 1, 2] rfl ?_
        exact ih _ _ _ hf
      · rw [if_neg c4] at hf
        refine g_iconst (q := 21) (v := 1) dX8_usedSlots_20 rfl rfl ?_
        refine g_goto (t := 25) dX8_usedSlots_21 (by decide) ?_
        refine g_iadd (q := 26) dX8_usedSlots_25 rfl ?_
        refine g_istore_n (q := 27) (L' := [(0, .ref 0), (1, .int (v1 + 1)), (2, .int v2)]) dX8_usedSlots_26 rfl (by decide) rfl ?_
        refine g_iinc 2 (q := 30) (v := (v2 + 1)) (L' := [(0, .ref 0), (1, .int (v1 + 1)), (2, .int (v2 + 1))]) dX8_usedSlots_27 rfl rfl rfl (by decide) rfl ?_
        refine g_goto (t := 4) dX8_usedSlots_30 (by decide) ?_
        refine g_ls [0, 1, 2] rfl ?_
        exact ih _ _ _ hf
set_option maxRecDepth 20000 in
set_option maxHeartbeats 4000000 in
theorem ev_X8_usedSlots {l : Launch} {E : tEn}  {m_n : Int32} {m_pt : Int32} {m_rc : Int32} {m_sa : Int64} {m_sb : Int64} {m_sc : Int32} {m_is : Int32} {m_os : Int32} {m_vn : Int32} {m_vc : Int32} {m_va : Int64} {m_vb : Int64} {m_ve : Int32} {m_no : Int32} {m_pl : Int32} {m_fa : Int32} {m_oc : Int32} {m_fu : Int32} {m_ke : Int32} {m_t : List Int64} {m_f : List Int32} {m_rs : List Int32} {m_rt : List Int64} {m_rf : List Int32} {m_st : List Int32} {m_ib : List Int32} {m_ob : List Int32} {m_al : List Int32} {m_el : List Int32} {m_vt : List Int64} {m_vf : List Int32} {m_vs : List Int32} {m_nr : List Int32} {m_ty : List Int32} {m_pa : List Int32} {m_fn : List Int64} {m_md : List Int64} {m_ms : List Int32} {m_mr : List Int32}  {res : Int32} (hf : f_X8_usedSlots m_f = some res) : tEv l E yX8_usedSlots cX8_usedSlots 3 (some .int) 1 0 0 [.ref 0] (encM m_n m_pt m_rc m_sa m_sb m_sc m_is m_os m_vn m_vc m_va m_vb m_ve m_no m_pl m_fa m_oc m_fu m_ke m_t m_f m_rs m_rt m_rf m_st m_ib m_ob m_al m_el m_vt m_vf m_vs m_nr m_ty m_pa m_fn m_md m_ms m_mr) (fun r h' => r = some (.int res) ∧ h' = encM m_n m_pt m_rc m_sa m_sb m_sc m_is m_os m_vn m_vc m_va m_vb m_ve m_no m_pl m_fa m_oc m_fu m_ke m_t m_f m_rs m_rt m_rf m_st m_ib m_ob m_al m_el m_vt m_vf m_vs m_nr m_ty m_pa m_fn m_md m_ms m_mr) := by
  refine tEv.of (own := RX8) (ini := false) (L := [(0, .ref 0)]) (by decide +kernel) rfl (fun h9 => nomatch h9) rfl (Nat.le_of_ble_eq_true rfl) ?_
  rw [f_X8_usedSlots] at hf
  refine g_iconst (q := 1) (v := 0) dX8_usedSlots_0 rfl rfl ?_
  refine g_istore_n (q := 2) (L' := [(0, .ref 0), (1, .int 0)]) dX8_usedSlots_1 rfl (by decide) rfl ?_
  refine g_iconst (q := 3) (v := 0) dX8_usedSlots_2 rfl rfl ?_
  refine g_istore_n (q := 4) (L' := [(0, .ref 0), (1, .int 0), (2, .int 0)]) dX8_usedSlots_3 rfl (by decide) rfl ?_
  refine g_ls [0, 1, 2] rfl ?_
  refine ev_X8_usedSlots_L4 (fun y5 res hf => ?_) tFU _ _ res hf
  refine g_iload_n 0 (q := 34) dX8_usedSlots_33 rfl rfl ?_
  have hf := Option.some.inj hf
  subst hf
  exact g_ireturn dX8_usedSlots_34 rfl ⟨rfl, rfl⟩
def f_X8_clear (a0 : Int32) (m_rc : Int32) (m_t : List Int64) (m_f : List Int32) (m_rs : List Int32) (m_rt : List Int64) (m_rf : List Int32) : Option (Int32 × Int32 × List Int32 × List Int32 × List Int64 × List Int32) := (if (f_X8_isSlot a0) = 0 then some ((-2), m_rc, m_f, m_rs, m_rt, m_rf) else (tld m_f a0).bind fun r2 => (if r2 = 0 then some ((-3), m_rc, m_f, m_rs, m_rt, m_rf) else (f_X8_record a0 m_rc m_t m_f m_rs m_rt m_rf).bind fun r5 => (tst m_f a0 (vp_nar .boolean 0)).bind fun z7 => (f_X8_usedSlots z7).bind fun r9 => some (r9, r5.1, z7, r5.2.1, r5.2.2.1, r5.2.2.2)))
set_option maxRecDepth 20000 in
set_option maxHeartbeats 4000000 in
theorem ev_X8_clear {l : Launch} {E : tEn}  {m_n : Int32} {m_pt : Int32} {m_rc : Int32} {m_sa : Int64} {m_sb : Int64} {m_sc : Int32} {m_is : Int32} {m_os : Int32} {m_vn : Int32} {m_vc : Int32} {m_va : Int64} {m_vb : Int64} {m_ve : Int32} {m_no : Int32} {m_pl : Int32} {m_fa : Int32} {m_oc : Int32} {m_fu : Int32} {m_ke : Int32} {m_t : List Int64} {m_f : List Int32} {m_rs : List Int32} {m_rt : List Int64} {m_rf : List Int32} {m_st : List Int32} {m_ib : List Int32} {m_ob : List Int32} {m_al : List Int32} {m_el : List Int32} {m_vt : List Int64} {m_vf : List Int32} {m_vs : List Int32} {m_nr : List Int32} {m_ty : List Int32} {m_pa : List Int32} {m_fn : List Int64} {m_md : List Int64} {m_ms : List Int32} {m_mr : List Int32} {a0 : Int32} {res : Int32 × Int32 × List Int32 × List Int32 × List Int64 × List Int32} (hf : f_X8_clear a0 m_rc m_t m_f m_rs m_rt m_rf = some res) : tEv l E yX8_clear cX8_clear 2 (some .int) 3 0 0 [.ref 0, .int a0] (encM m_n m_pt m_rc m_sa m_sb m_sc m_is m_os m_vn m_vc m_va m_vb m_ve m_no m_pl m_fa m_oc m_fu m_ke m_t m_f m_rs m_rt m_rf m_st m_ib m_ob m_al m_el m_vt m_vf m_vs m_nr m_ty m_pa m_fn m_md m_ms m_mr) (fun r h' => r = some (.int res.1) ∧ h' = encM m_n m_pt (res.2.1) m_sa m_sb m_sc m_is m_os m_vn m_vc m_va m_vb m_ve m_no m_pl m_fa m_oc m_fu m_ke m_t (res.2.2.1) (res.2.2.2.1) (res.2.2.2.2.1) (res.2.2.2.2.2) m_st m_ib m_ob m_al m_el m_vt m_vf m_vs m_nr m_ty m_pa m_fn m_md m_ms m_mr) := by
  refine tEv.of (own := RX8) (ini := false) (L := [(0, .ref 0), (1, .int a0)]) (by decide +kernel) rfl (fun h9 => nomatch h9) rfl (Nat.le_of_ble_eq_true rfl) ?_
  rw [f_X8_clear] at hf
  refine g_iload_n 1 (q := 1) dX8_clear_0 rfl rfl ?_
  refine g_callS (k2 := 0) (n2 := 0) (q := 4) (as := [.int a0]) (st := []) (st1 := [.int (f_X8_isSlot a0)]) tm_X8_isSlot ml_X8_118 ts_X8_isSlot dX8_clear_1 rfl ev_X8_isSlot rfl rfl (Nat.le_of_ble_eq_true rfl) (by decide) rfl rfl (Or.inl rfl) rfl ?_
  refine g_if_ne (t := 10) (q := 7) dX8_clear_4 (by decide) rfl (fun c1 => ?_) (fun c1 => ?_)
  · rw [if_neg c1] at hf
    refine g_aload_n 0 (q := 11) dX8_clear_10 rfl rfl ?_
    refine g_get (q := 14) fl_X8_20 dX8_clear_11 rfl rfl rfl ?_
    refine g_iload_n 1 (q := 15) dX8_clear_14 rfl rfl ?_
    obtain ⟨r2, e3, hf⟩ := Option.bind_eq_some_iff.mp hf
    refine g_baload (q := 16) dX8_clear_15 rfl rfl e3 ?_
    refine g_if_ne (t := 22) (q := 19) dX8_clear_16 (by decide) rfl (fun c4 => ?_) (fun c4 => ?_)
    · rw [if_neg c4] at hf
      refine g_aload_n 0 (q := 23) dX8_clear_22 rfl rfl ?_
      refine g_iload_n 1 (q := 24) dX8_clear_23 rfl rfl ?_
      obtain ⟨r5, e6, hf⟩ := Option.bind_eq_some_iff.mp hf
      refine g_callV (a := 0) (k2 := 0) (n2 := 0) (q := 27) (as := [.int a0]) (st := []) (st1 := []) tm_X8_record ml_X8_98 ti_X8_record rfl rfl dX8_clear_24 rfl (ev_X8_record e6) rfl rfl (Nat.le_of_ble_eq_true rfl) (by decide) rfl rfl (Or.inl (encM_len.trans encM_len.symm)) rfl ?_
      refine g_aload_n 0 (q := 28) dX8_clear_27 rfl rfl ?_
      refine g_get (q := 31) fl_X8_20 dX8_clear_28 rfl rfl rfl ?_
      refine g_iload_n 1 (q := 32) dX8_clear_31 rfl rfl ?_
      refine g_iconst (q := 33) (v := 0) dX8_clear_32 rfl rfl ?_
      obtain ⟨z7, e8, hf⟩ := Option.bind_eq_some_iff.mp hf
      refine g_bastore (q := 34) (h' := encM m_n m_pt (r5.1) m_sa m_sb m_sc m_is m_os m_vn m_vc m_va m_vb m_ve m_no m_pl m_fa m_oc m_fu m_ke m_t z7 (r5.2.1) (r5.2.2.1) (r5.2.2.2) m_st m_ib m_ob m_al m_el m_vt m_vf m_vs m_nr m_ty m_pa m_fn m_md m_ms m_mr) dX8_clear_33 rfl rfl e8 rfl ?_
      refine g_aload_n 0 (q := 35) dX8_clear_34 rfl rfl ?_
      obtain ⟨r9, e10, hf⟩ := Option.bind_eq_some_iff.mp hf
      refine g_callV (a := 0) (k2 := 0) (n2 := 0) (q := 38) (as := []) (st := []) (st1 := [.int r9]) tm_X8_usedSlots ml_X8_130 ti_X8_usedSlots rfl rfl dX8_clear_35 rfl (ev_X8_usedSlots e10) rfl rfl (Nat.le_of_ble_eq_true rfl) (by decide) rfl rfl (Or.inl rfl) rfl ?_
      have hf := Option.some.inj hf
      subst hf
      exact g_ireturn dX8_clear_38 rfl ⟨rfl, rfl⟩
    · rw [if_pos c4] at hf
      refine g_bipush (q := 21) (v := (-3)) dX8_clear_19 rfl rfl ?_
      have hf := Option.some.inj hf
      subst hf
      exact g_ireturn dX8_clear_21 rfl ⟨rfl, rfl⟩
  · rw [if_pos c1] at hf
    refine g_bipush (q := 9) (v := (-2)) dX8_clear_7 rfl rfl ?_
    have hf := Option.some.inj hf
    subst hf
    exact g_ireturn dX8_clear_9 rfl ⟨rfl, rfl⟩
def f_X8_isPoint (a0 : Int32) (m_pt : Int32) : Int32 := (f_X8_isIn (Int32.toInt64 a0) 0 (Int32.toInt64 (m_pt - 1)))
theorem bl_X8_isPoint (a0 : Int32) (m_pt : Int32) : f_X8_isPoint a0 m_pt = 0 ∨ f_X8_isPoint a0 m_pt = 1 := by
  unfold f_X8_isPoint
  repeat' split
  all_goals first | exact Or.inl rfl | exact Or.inr rfl | exact bl_X8_isIn _ _ _
set_option maxRecDepth 20000 in
set_option maxHeartbeats 4000000 in
theorem ev_X8_isPoint {l : Launch} {E : tEn}  {m_n : Int32} {m_pt : Int32} {m_rc : Int32} {m_sa : Int64} {m_sb : Int64} {m_sc : Int32} {m_is : Int32} {m_os : Int32} {m_vn : Int32} {m_vc : Int32} {m_va : Int64} {m_vb : Int64} {m_ve : Int32} {m_no : Int32} {m_pl : Int32} {m_fa : Int32} {m_oc : Int32} {m_fu : Int32} {m_ke : Int32} {m_t : List Int64} {m_f : List Int32} {m_rs : List Int32} {m_rt : List Int64} {m_rf : List Int32} {m_st : List Int32} {m_ib : List Int32} {m_ob : List Int32} {m_al : List Int32} {m_el : List Int32} {m_vt : List Int64} {m_vf : List Int32} {m_vs : List Int32} {m_nr : List Int32} {m_ty : List Int32} {m_pa : List Int32} {m_fn : List Int64} {m_md : List Int64} {m_ms : List Int32} {m_mr : List Int32} {a0 : Int32} : tEv l E yX8_isPoint cX8_isPoint 2 (some .boolean) 2 0 0 [.ref 0, .int a0] (encM m_n m_pt m_rc m_sa m_sb m_sc m_is m_os m_vn m_vc m_va m_vb m_ve m_no m_pl m_fa m_oc m_fu m_ke m_t m_f m_rs m_rt m_rf m_st m_ib m_ob m_al m_el m_vt m_vf m_vs m_nr m_ty m_pa m_fn m_md m_ms m_mr) (fun r h' => r = some (.int (f_X8_isPoint a0 m_pt)) ∧ h' = encM m_n m_pt m_rc m_sa m_sb m_sc m_is m_os m_vn m_vc m_va m_vb m_ve m_no m_pl m_fa m_oc m_fu m_ke m_t m_f m_rs m_rt m_rf m_st m_ib m_ob m_al m_el m_vt m_vf m_vs m_nr m_ty m_pa m_fn m_md m_ms m_mr) := by
  refine tEv.of (own := RX8) (ini := false) (L := [(0, .ref 0), (1, .int a0)]) (by decide +kernel) rfl (fun h9 => nomatch h9) rfl (Nat.le_of_ble_eq_true rfl) ?_
  obtain ⟨res, hf⟩ : ∃ z, f_X8_isPoint a0 m_pt = z := ⟨_, rfl⟩
  rw [hf]
  rw [f_X8_isPoint] at hf
  refine g_iload_n 1 (q := 1) dX8_isPoint_0 rfl rfl ?_
  refine g_i2l (q := 2) dX8_isPoint_1 rfl ?_
  refine g_lconst (q := 3) (v := 0) dX8_isPoint_2 rfl rfl ?_
  refine g_aload_n 0 (q := 4) dX8_isPoint_3 rfl rfl ?_
  refine g_get (q := 7) fl_X8_13 dX8_isPoint_4 rfl rfl rfl ?_
  refine g_iconst (q := 8) (v := 1) dX8_isPoint_7 rfl rfl ?_
  refine g_isub (q := 9) dX8_isPoint_8 rfl ?_
  refine g_i2l (q := 10) dX8_isPoint_9 rfl ?_
  refine g_callS (k2 := 0) (n2 := 0) (q := 13) (as := [.long (Int32.toInt64 a0), .long 0, .long (Int32.toInt64 (m_pt - 1))]) (st := []) (st1 := [.int (f_X8_isIn (Int32.toInt64 a0) 0 (Int32.toInt64 (m_pt - 1)))]) tm_X8_isIn ml_X8_87 ts_X8_isIn dX8_isPoint_10 rfl ev_X8_isIn rfl rfl (Nat.le_of_ble_eq_true rfl) (by decide) rfl rfl (Or.inl rfl) rfl ?_
  subst hf
  exact g_zreturn (bl_X8_isIn (Int32.toInt64 a0) 0 (Int32.toInt64 (m_pt - 1))) dX8_isPoint_13 rfl ⟨rfl, rfl⟩
def f_X8_value (a0 : Int32) (a1 : Int32) (m_pt : Int32) (m_t : List Int64) (m_f : List Int32) : Option (Int32) := (if (f_X8_isSlot a0) = 0 then some (-2) else (if (f_X8_isPoint a1 m_pt) = 0 then some (-2) else (tld m_f a0).bind fun r3 => (if r3 = 0 then some (-3) else (tld m_t a0).bind fun r6 => (if (f_X8_at r6 a1) = 0 then some 0 else some 1))))
set_option maxRecDepth 20000 in
set_option maxHeartbeats 4000000 in
theorem ev_X8_value {l : Launch} {E : tEn}  {m_n : Int32} {m_pt : Int32} {m_rc : Int32} {m_sa : Int64} {m_sb : Int64} {m_sc : Int32} {m_is : Int32} {m_os : Int32} {m_vn : Int32} {m_vc : Int32} {m_va : Int64} {m_vb : Int64} {m_ve : Int32} {m_no : Int32} {m_pl : Int32} {m_fa : Int32} {m_oc : Int32} {m_fu : Int32} {m_ke : Int32} {m_t : List Int64} {m_f : List Int32} {m_rs : List Int32} {m_rt : List Int64} {m_rf : List Int32} {m_st : List Int32} {m_ib : List Int32} {m_ob : List Int32} {m_al : List Int32} {m_el : List Int32} {m_vt : List Int64} {m_vf : List Int32} {m_vs : List Int32} {m_nr : List Int32} {m_ty : List Int32} {m_pa : List Int32} {m_fn : List Int64} {m_md : List Int64} {m_ms : List Int32} {m_mr : List Int32} {a0 : Int32} {a1 : Int32} {res : Int32} (hf : f_X8_value a0 a1 m_pt m_t m_f = some res) : tEv l E yX8_value cX8_value 3 (some .int) 3 0 0 [.ref 0, .int a0, .int a1] (encM m_n m_pt m_rc m_sa m_sb m_sc m_is m_os m_vn m_vc m_va m_vb m_ve m_no m_pl m_fa m_oc m_fu m_ke m_t m_f m_rs m_rt m_rf m_st m_ib m_ob m_al m_el m_vt m_vf m_vs m_nr m_ty m_pa m_fn m_md m_ms m_mr) (fun r h' => r = some (.int res) ∧ h' = encM m_n m_pt m_rc m_sa m_sb m_sc m_is m_os m_vn m_vc m_va m_vb m_ve m_no m_pl m_fa m_oc m_fu m_ke m_t m_f m_rs m_rt m_rf m_st m_ib m_ob m_al m_el m_vt m_vf m_vs m_nr m_ty m_pa m_fn m_md m_ms m_mr) := by
  refine tEv.of (own := RX8) (ini := false) (L := [(0, .ref 0), (1, .int a0), (2, .int a1)]) (by decide +kernel) rfl (fun h9 => nomatch h9) rfl (Nat.le_of_ble_eq_true rfl) ?_
  rw [f_X8_value] at hf
  refine g_iload_n 1 (q := 1) dX8_value_0 rfl rfl ?_
  refine g_callS (k2 := 0) (n2 := 0) (q := 4) (as := [.int a0]) (st := []) (st1 := [.int (f_X8_isSlot a0)]) tm_X8_isSlot ml_X8_118 ts_X8_isSlot dX8_value_1 rfl ev_X8_isSlot rfl rfl (Nat.le_of_ble_eq_true rfl) (by decide) rfl rfl (Or.inl rfl) rfl ?_
  refine g_if_eq (t := 15) (q := 7) dX8_value_4 (by decide) rfl (fun c1 => ?_) (fun c1 => ?_)
  · rw [if_pos c1] at hf
    refine g_bipush (q := 17) (v := (-2)) dX8_value_15 rfl rfl ?_
    have hf := Option.some.inj hf
    subst hf
    exact g_ireturn dX8_value_17 rfl ⟨rfl, rfl⟩
  · rw [if_neg c1] at hf
    refine g_aload_n 0 (q := 8) dX8_value_7 rfl rfl ?_
    refine g_iload_n 2 (q := 9) dX8_value_8 rfl rfl ?_
    refine g_callV (a := 0) (k2 := 0) (n2 := 0) (q := 12) (as := [.int a1]) (st := []) (st1 := [.int (f_X8_isPoint a1 m_pt)]) tm_X8_isPoint ml_X8_134 ti_X8_isPoint rfl rfl dX8_value_9 rfl ev_X8_isPoint rfl rfl (Nat.le_of_ble_eq_true rfl) (by decide) rfl rfl (Or.inl rfl) rfl ?_
    refine g_if_ne (t := 18) (q := 15) dX8_value_12 (by decide) rfl (fun c2 => ?_) (fun c2 => ?_)
    · rw [if_neg c2] at hf
      refine g_aload_n 0 (q := 19) dX8_value_18 rfl rfl ?_
      refine g_get (q := 22) fl_X8_20 dX8_value_19 rfl rfl rfl ?_
      refine g_iload_n 1 (q := 23) dX8_value_22 rfl rfl ?_
      obtain ⟨r3, e4, hf⟩ := Option.bind_eq_some_iff.mp hf
      refine g_baload (q := 24) dX8_value_23 rfl rfl e4 ?_
      refine g_if_ne (t := 32) (q := 27) dX8_value_24 (by decide) rfl (fun c5 => ?_) (fun c5 => ?_)
      · rw [if_neg c5] at hf
        refine g_aload_n 0 (q := 33) dX8_value_32 rfl rfl ?_
        refine g_get (q := 36) fl_X8_16 dX8_value_33 rfl rfl rfl ?_
        refine g_iload_n 1 (q := 37) dX8_value_36 rfl rfl ?_
        obtain ⟨r6, e7, hf⟩ := Option.bind_eq_some_iff.mp hf
        refine g_laload (q := 38) dX8_value_37 rfl rfl e7 ?_
        refine g_iload_n 2 (q := 39) dX8_value_38 rfl rfl ?_
        refine g_callS (k2 := 0) (n2 := 0) (q := 42) (as := [.long r6, .int a1]) (st := []) (st1 := [.int (f_X8_at r6 a1)]) tm_X8_at ml_X8_91 ts_X8_at dX8_value_39 rfl ev_X8_at rfl rfl (Nat.le_of_ble_eq_true rfl) (by decide) rfl rfl (Or.inl rfl) rfl ?_
        refine g_if_eq (t := 49) (q := 45) dX8_value_42 (by decide) rfl (fun c8 => ?_) (fun c8 => ?_)
        · rw [if_pos c8] at hf
          refine g_iconst (q := 50) (v := 0) dX8_value_49 rfl rfl ?_
          have hf := Option.some.inj hf
          subst hf
          exact g_ireturn dX8_value_50 rfl ⟨rfl, rfl⟩
        · rw [if_neg c8] at hf
          refine g_iconst (q := 46) (v := 1) dX8_value_45 rfl rfl ?_
          refine g_goto (t := 50) dX8_value_46 (by decide) ?_
          have hf := Option.some.inj hf
          subst hf
          exact g_ireturn dX8_value_50 rfl ⟨rfl, rfl⟩
      · rw [if_pos c5] at hf
        refine g_bipush (q := 29) (v := (-3)) dX8_value_27 rfl rfl ?_
        refine g_goto (t := 50) dX8_value_29 (by decide) ?_
        have hf := Option.some.inj hf
        subst hf
        exact g_ireturn dX8_value_50 rfl ⟨rfl, rfl⟩
    · rw [if_pos c2] at hf
      refine g_bipush (q := 17) (v := (-2)) dX8_value_15 rfl rfl ?_
      have hf := Option.some.inj hf
      subst hf
      exact g_ireturn dX8_value_17 rfl ⟨rfl, rfl⟩
def f_X8_wrong (a0 : Int32) (m_f : List Int32) : Option (Int32) := (if (f_X8_isSlot a0) = 0 then some (-2) else (tld m_f a0).bind fun r2 => (if r2 = 0 then some (-3) else some 0))
set_option maxRecDepth 20000 in
set_option maxHeartbeats 4000000 in
theorem ev_X8_wrong {l : Launch} {E : tEn}  {m_n : Int32} {m_pt : Int32} {m_rc : Int32} {m_sa : Int64} {m_sb : Int64} {m_sc : Int32} {m_is : Int32} {m_os : Int32} {m_vn : Int32} {m_vc : Int32} {m_va : Int64} {m_vb : Int64} {m_ve : Int32} {m_no : Int32} {m_pl : Int32} {m_fa : Int32} {m_oc : Int32} {m_fu : Int32} {m_ke : Int32} {m_t : List Int64} {m_f : List Int32} {m_rs : List Int32} {m_rt : List Int64} {m_rf : List Int32} {m_st : List Int32} {m_ib : List Int32} {m_ob : List Int32} {m_al : List Int32} {m_el : List Int32} {m_vt : List Int64} {m_vf : List Int32} {m_vs : List Int32} {m_nr : List Int32} {m_ty : List Int32} {m_pa : List Int32} {m_fn : List Int64} {m_md : List Int64} {m_ms : List Int32} {m_mr : List Int32} {a0 : Int32} {res : Int32} (hf : f_X8_wrong a0 m_f = some res) : tEv l E yX8_wrong cX8_wrong 2 (some .int) 3 0 0 [.ref 0, .int a0] (encM m_n m_pt m_rc m_sa m_sb m_sc m_is m_os m_vn m_vc m_va m_vb m_ve m_no m_pl m_fa m_oc m_fu m_ke m_t m_f m_rs m_rt m_rf m_st m_ib m_ob m_al m_el m_vt m_vf m_vs m_nr m_ty m_pa m_fn m_md m_ms m_mr) (fun r h' => r = some (.int res) ∧ h' = encM m_n m_pt m_rc m_sa m_sb m_sc m_is m_os m_vn m_vc m_va m_vb m_ve m_no m_pl m_fa m_oc m_fu m_ke m_t m_f m_rs m_rt m_rf m_st m_ib m_ob m_al m_el m_vt m_vf m_vs m_nr m_ty m_pa m_fn m_md m_ms m_mr) := by
  refine tEv.of (own := RX8) (ini := false) (L := [(0, .ref 0), (1, .int a0)]) (by decide +kernel) rfl (fun h9 => nomatch h9) rfl (Nat.le_of_ble_eq_true rfl) ?_
  rw [f_X8_wrong] at hf
  refine g_iload_n 1 (q := 1) dX8_wrong_0 rfl rfl ?_
  refine g_callS (k2 := 0) (n2 := 0) (q := 4) (as := [.int a0]) (st := []) (st1 := [.int (f_X8_isSlot a0)]) tm_X8_isSlot ml_X8_118 ts_X8_isSlot dX8_wrong_1 rfl ev_X8_isSlot rfl rfl (Nat.le_of_ble_eq_true rfl) (by decide) rfl rfl (Or.inl rfl) rfl ?_
  refine g_if_ne (t := 12) (q := 7) dX8_wrong_4 (by decide) rfl (fun c1 => ?_) (fun c1 => ?_)
  · rw [if_neg c1] at hf
    refine g_aload_n 0 (q := 13) dX8_wrong_12 rfl rfl ?_
    refine g_get (q := 16) fl_X8_20 dX8_wrong_13 rfl rfl rfl ?_
    refine g_iload_n 1 (q := 17) dX8_wrong_16 rfl rfl ?_
    obtain ⟨r2, e3, hf⟩ := Option.bind_eq_some_iff.mp hf
    refine g_baload (q := 18) dX8_wrong_17 rfl rfl e3 ?_
    refine g_if_eq (t := 25) (q := 21) dX8_wrong_18 (by decide) rfl (fun c4 => ?_) (fun c4 => ?_)
    · rw [if_pos c4] at hf
      refine g_bipush (q := 27) (v := (-3)) dX8_wrong_25 rfl rfl ?_
      have hf := Option.some.inj hf
      subst hf
      exact g_ireturn dX8_wrong_27 rfl ⟨rfl, rfl⟩
    · rw [if_neg c4] at hf
      refine g_iconst (q := 22) (v := 0) dX8_wrong_21 rfl rfl ?_
      refine g_goto (t := 27) dX8_wrong_22 (by decide) ?_
      have hf := Option.some.inj hf
      subst hf
      exact g_ireturn dX8_wrong_27 rfl ⟨rfl, rfl⟩
  · rw [if_pos c1] at hf
    refine g_bipush (q := 9) (v := (-2)) dX8_wrong_7 rfl rfl ?_
    refine g_goto (t := 27) dX8_wrong_9 (by decide) ?_
    have hf := Option.some.inj hf
    subst hf
    exact g_ireturn dX8_wrong_27 rfl ⟨rfl, rfl⟩
def f_X8_essentialOf_L17 (w1 : Int64) (w4 : Int32) (m_pt : Int32) (K : Int32 → Option (Int32)) : Nat → Int32 → Int32 → Option (Int32)
  | 0, _, _ => none
  | fu + 1, v3, v5 => (if m_pt ≤ v5 then K v3 else (if (f_X8_at w1 v5) = (f_X8_at w1 (v5 ^^^ ((1 : Int32) <<< (w4 &&& 31)))) then f_X8_essentialOf_L17 w1 w4 m_pt K fu (v3 ||| 0) (v5 + 1) else f_X8_essentialOf_L17 w1 w4 m_pt K fu (v3 ||| ((1 : Int32) <<< (w4 &&& 31))) (v5 + 1)))
def f_X8_essentialOf_L5 (w1 : Int64) (m_n : Int32) (m_pt : Int32) (K : Int32 → Option (Int32)) : Nat → Int32 → Int32 → Option (Int32)
  | 0, _, _ => none
  | fu + 1, v3, v4 => (if m_n ≤ v4 then K v3 else f_X8_essentialOf_L17 w1 v4 m_pt (fun y4 => f_X8_essentialOf_L5 w1 m_n m_pt K fu y4 (v4 + 1)) tFU v3 0)
def f_X8_essentialOf (a0 : Int64) (m_n : Int32) (m_pt : Int32) : Option (Int32) := f_X8_essentialOf_L5 a0 m_n m_pt (fun y5 => some y5) tFU 0 0
set_option maxRecDepth 20000 in
set_option maxHeartbeats 4000000 in
theorem ev_X8_essentialOf_L17 {l : Launch} {E : tEn}   {m_n : Int32} {m_pt : Int32} {m_rc : Int32} {m_sa : Int64} {m_sb : Int64} {m_sc : Int32} {m_is : Int32} {m_os : Int32} {m_vn : Int32} {m_vc : Int32} {m_va : Int64} {m_vb : Int64} {m_ve : Int32} {m_no : Int32} {m_pl : Int32} {m_fa : Int32} {m_oc : Int32} {m_fu : Int32} {m_ke : Int32} {m_t : List Int64} {m_f : List Int32} {m_rs : List Int32} {m_rt : List Int64} {m_rf : List Int32} {m_st : List Int32} {m_ib : List Int32} {m_ob : List Int32} {m_al : List Int32} {m_el : List Int32} {m_vt : List Int64} {m_vf : List Int32} {m_vs : List Int32} {m_nr : List Int32} {m_ty : List Int32} {m_pa : List Int32} {m_fn : List Int64} {m_md : List Int64} {m_ms : List Int32} {m_mr : List Int32} {w1 : Int64} {w4 : Int32} {K : Int32 → Option (Int32)} (hK : ∀ (v3 : Int32)  (res : Int32), K v3 = some res → tG l E RX8 cX8_essentialOf 6 (some .int) false 2 (fun r h' => r = some (.int res) ∧ h' = encM m_n m_pt m_rc m_sa m_sb m_sc m_is m_os m_vn m_vc m_va m_vb m_ve m_no m_pl m_fa m_oc m_fu m_ke m_t m_f m_rs m_rt m_rf m_st m_ib m_ob m_al m_el m_vt m_vf m_vs m_nr m_ty m_pa m_fn m_md m_ms m_mr) 0 0 63 [(0, .ref 0), (1, .long w1), (3, .int v3), (4, .int w4)] [] (encM m_n m_pt m_rc m_sa m_sb m_sc m_is m_os m_vn m_vc m_va m_vb m_ve m_no m_pl m_fa m_oc m_fu m_ke m_t m_f m_rs m_rt m_rf m_st m_ib m_ob m_al m_el m_vt m_vf m_vs m_nr m_ty m_pa m_fn m_md m_ms m_mr)) :
    ∀ (fu : Nat) (v3 : Int32) (v5 : Int32) (res : Int32), f_X8_essentialOf_L17 w1 w4 m_pt K fu v3 v5 = some res → tG l E RX8 cX8_essentialOf 6 (some .int) false 2 (fun r h' => r = some (.int res) ∧ h' = encM m_n m_pt m_rc m_sa m_sb m_sc m_is m_os m_vn m_vc m_va m_vb m_ve m_no m_pl m_fa m_oc m_fu m_ke m_t m_f m_rs m_rt m_rf m_st m_ib m_ob m_al m_el m_vt m_vf m_vs m_nr m_ty m_pa m_fn m_md m_ms m_mr) 0 0 17 [(0, .ref 0), (1, .long w1), (3, .int v3), (4, .int w4), (5, .int v5)] [] (encM m_n m_pt m_rc m_sa m_sb m_sc m_is m_os m_vn m_vc m_va m_vb m_ve m_no m_pl m_fa m_oc m_fu m_ke m_t m_f m_rs m_rt m_rf m_st m_ib m_ob m_al m_el m_vt m_vf m_vs m_nr m_ty m_pa m_fn m_md m_ms m_mr) := by
  intro fu
  induction fu with
  | zero => intro v3 v5 res hf; exact nomatch (show none = some res from hf)
  | succ fu ih =>
    intro v3 v5 res hf
    rw [f_X8_essentialOf_L17] at hf
    refine g_iload 4 (q := 19) dX8_essentialOf_17 rfl rfl ?_
    refine g_aload_n 0 (q := 20) dX8_essentialOf_19 rfl rfl ?_
    refine g_get (q := 23) fl_X8_13 dX8_essentialOf_20 rfl rfl rfl ?_
    refine g_icmp_ge (t := 63) (q := 26) dX8_essentialOf_23 (by decide) rfl (fun c2 => ?_) (fun c2 => ?_)
    · rw [if_pos c2] at hf
      refine g_ls [0, 1, 2, 3] rfl ?_
      exact hK _ _ hf
    · rw [if_neg c2] at hf
      refine g_iload_n 2 (q := 27) dX8_essentialOf_26 rfl rfl ?_
      refine g_lload_n 1 (q := 28) dX8_essentialOf_27 rfl rfl ?_
      refine g_iload 4 (q := 30) dX8_essentialOf_28 rfl rfl ?_
      refine g_callS (k2 := 0) (n2 := 0) (q := 33) (as := [.long w1, .int v5]) (st := [.int v3]) (st1 := [.int (f_X8_at w1 v5), .int v3]) tm_X8_at ml_X8_91 ts_X8_at dX8_essentialOf_30 rfl ev_X8_at rfl rfl (Nat.le_of_ble_eq_true rfl) (by decide) rfl rfl (Or.inl rfl) rfl ?_
      refine g_lload_n 1 (q := 34) dX8_essentialOf_33 rfl rfl ?_
      refine g_iload 4 (q := 36) dX8_essentialOf_34 rfl rfl ?_
      refine g_iconst (q := 37) (v := 1) dX8_essentialOf_36 rfl rfl ?_
      refine g_iload 3 (q := 39) dX8_essentialOf_37 rfl rfl ?_
      refine g_ishl (q := 40) dX8_essentialOf_39 rfl ?_
      refine g_ixor (q := 41) dX8_essentialOf_40 rfl ?_
      refine g_callS (k2 := 0) (n2 := 0) (q := 44) (as := [.long w1, .int (v5 ^^^ ((1 : Int32) <<< (w4 &&& 31)))]) (st := [.int (f_X8_at w1 v5), .int v3]) (st1 := [.int (f_X8_at w1 (v5 ^^^ ((1 : Int32) <<< (w4 &&& 31)))), .int (f_X8_at w1 v5), .int v3]) tm_X8_at ml_X8_91 ts_X8_at dX8_essentialOf_41 rfl ev_X8_at rfl rfl (Nat.le_of_ble_eq_true rfl) (by decide) rfl rfl (Or.inl rfl) rfl ?_
      refine g_icmp_eq (t := 54) (q := 47) dX8_essentialOf_44 (by decide) rfl (fun c3 => ?_) (fun c3 => ?_)
      · rw [if_pos c3] at hf
        refine g_iconst (q := 55) (v := 0) dX8_essentialOf_54 rfl rfl ?_
        refine g_ior (q := 56) dX8_essentialOf_55 rfl ?_
        refine g_istore_n (q := 57) (L' := [(0, .ref 0), (1, .long w1), (3, .int (v3 ||| 0)), (4, .int w4), (5, .int v5)]) dX8_essentialOf_56 rfl (by decide) rfl ?_
        refine g_iinc 4 (q := 60) (v := (v5 + 1)) (L' := [(0, .ref 0), (1, .long w1), (3, .int (v3 ||| 0)), (4, .int w4), (5, .int (v5 + 1))]) dX8_essentialOf_57 rfl rfl rfl (by decide) rfl ?_
        refine g_goto (t := 17) dX8_essentialOf_60 (by decide) ?_
        refine g_ls [0, 1, 2, 3, 4] rfl ?_
        exact ih _ _ _ hf
      · rw [if_neg c3] at hf
        refine g_iconst (q := 48) (v := 1) dX8_essentialOf_47 rfl rfl ?_
        refine g_iload 3 (q := 50) dX8_essentialOf_48 rfl rfl ?_
        refine g_ishl (q := 51) dX8_essentialOf_50 rfl ?_
        refine g_goto (t := 55) dX8_essentialOf_51 (by decide) ?_
        refine g_ior (q := 56) dX8_essentialOf_55 rfl ?_
        refine g_istore_n (q := 57) (L' := [(0, .ref 0), (1, .long w1), (3, .int (v3 ||| ((1 : Int32) <<< (w4 &&& 31)))), (4, .int w4), (5, .int v5)]) dX8_essentialOf_56 rfl (by decide) rfl ?_
        refine g_iinc 4 (q := 60) (v := (v5 + 1)) (L' := [(0, .ref 0), (1, .long w1), (3, .int (v3 ||| ((1 : Int32) <<< (w4 &&& 31)))), (4, .int w4), (5, .int (v5 + 1))]) dX8_essentialOf_57 rfl rfl rfl (by decide) rfl ?_
        refine g_goto (t := 17) dX8_essentialOf_60 (by decide) ?_
        refine g_ls [0, 1, 2, 3, 4] rfl ?_
        exact ih _ _ _ hf
set_option maxRecDepth 20000 in
set_option maxHeartbeats 4000000 in
theorem ev_X8_essentialOf_L5 {l : Launch} {E : tEn}   {m_n : Int32} {m_pt : Int32} {m_rc : Int32} {m_sa : Int64} {m_sb : Int64} {m_sc : Int32} {m_is : Int32} {m_os : Int32} {m_vn : Int32} {m_vc : Int32} {m_va : Int64} {m_vb : Int64} {m_ve : Int32} {m_no : Int32} {m_pl : Int32} {m_fa : Int32} {m_oc : Int32} {m_fu : Int32} {m_ke : Int32} {m_t : List Int64} {m_f : List Int32} {m_rs : List Int32} {m_rt : List Int64} {m_rf : List Int32} {m_st : List Int32} {m_ib : List Int32} {m_ob : List Int32} {m_al : List Int32} {m_el : List Int32} {m_vt : List Int64} {m_vf : List Int32} {m_vs : List Int32} {m_nr : List Int32} {m_ty : List Int32} {m_pa : List Int32} {m_fn : List Int64} {m_md : List Int64} {m_ms : List Int32} {m_mr : List Int32} {w1 : Int64} {K : Int32 → Option (Int32)} (hK : ∀ (v3 : Int32)  (res : Int32), K v3 = some res → tG l E RX8 cX8_essentialOf 6 (some .int) false 2 (fun r h' => r = some (.int res) ∧ h' = encM m_n m_pt m_rc m_sa m_sb m_sc m_is m_os m_vn m_vc m_va m_vb m_ve m_no m_pl m_fa m_oc m_fu m_ke m_t m_f m_rs m_rt m_rf m_st m_ib m_ob m_al m_el m_vt m_vf m_vs m_nr m_ty m_pa m_fn m_md m_ms m_mr) 0 0 69 [(3, .int v3)] [] (encM m_n m_pt m_rc m_sa m_sb m_sc m_is m_os m_vn m_vc m_va m_vb m_ve m_no m_pl m_fa m_oc m_fu m_ke m_t m_f m_rs m_rt m_rf m_st m_ib m_ob m_al m_el m_vt m_vf m_vs m_nr m_ty m_pa m_fn m_md m_ms m_mr)) :
    ∀ (fu : Nat) (v3 : Int32) (v4 : Int32) (res : Int32), f_X8_essentialOf_L5 w1 m_n m_pt K fu v3 v4 = some res → tG l E RX8 cX8_essentialOf 6 (some .int) false 2 (fun r h' => r = some (.int res) ∧ h' = encM m_n m_pt m_rc m_sa m_sb m_sc m_is m_os m_vn m_vc m_va m_vb m_ve m_no m_pl m_fa m_oc m_fu m_ke m_t m_f m_rs m_rt m_rf m_st m_ib m_ob m_al m_el m_vt m_vf m_vs m_nr m_ty m_pa m_fn m_md m_ms m_mr) 0 0 5 [(0, .ref 0), (1, .long w1), (3, .int v3), (4, .int v4)] [] (encM m_n m_pt m_rc m_sa m_sb m_sc m_is m_os m_vn m_vc m_va m_vb m_ve m_no m_pl m_fa m_oc m_fu m_ke m_t m_f m_rs m_rt m_rf m_st m_ib m_ob m_al m_el m_vt m_vf m_vs m_nr m_ty m_pa m_fn m_md m_ms m_mr) := by
  intro fu
  induction fu with
  | zero => intro v3 v4 res hf; exact nomatch (show none = some res from hf)
  | succ fu ih =>
    intro v3 v4 res hf
    rw [f_X8_essentialOf_L5] at hf
    refine g_iload 3 (q := 7) dX8_essentialOf_5 rfl rfl ?_
    refine g_aload_n 0 (q := 8) dX8_essentialOf_7 rfl rfl ?_
    refine g_get (q := 11) fl_X8_7 dX8_essentialOf_8 rfl rfl rfl ?_
    refine g_icmp_ge (t := 69) (q := 14) dX8_essentialOf_11 (by decide) rfl (fun c1 => ?_) (fun c1 => ?_)
    · rw [if_pos c1] at hf
      refine g_ls [2] rfl ?_
      exact hK _ _ hf
    · rw [if_neg c1] at hf
      refine g_iconst (q := 15) (v := 0) dX8_essentialOf_14 rfl rfl ?_
      refine g_istore (q := 17) (L' := [(0, .ref 0), (1, .long w1), (3, .int v3), (4, .int v4), (5, .int 0)]) dX8_essentialOf_15 rfl (by decide) rfl ?_
      refine g_ls [0, 1, 2, 3, 4] rfl ?_
      refine ev_X8_essentialOf_L17 (fun y4 res hf => ?_) tFU _ _ res hf
      refine g_iinc 3 (q := 66) (v := (v4 + 1)) (L' := [(0, .ref 0), (1, .long w1), (3, .int y4), (4, .int (v4 + 1))]) dX8_essentialOf_63 rfl rfl rfl (by decide) rfl ?_
      refine g_goto (t := 5) dX8_essentialOf_66 (by decide) ?_
      refine g_ls [0, 1, 2, 3] rfl ?_
      exact ih _ _ _ hf
set_option maxRecDepth 20000 in
set_option maxHeartbeats 4000000 in
theorem ev_X8_essentialOf {l : Launch} {E : tEn}  {m_n : Int32} {m_pt : Int32} {m_rc : Int32} {m_sa : Int64} {m_sb : Int64} {m_sc : Int32} {m_is : Int32} {m_os : Int32} {m_vn : Int32} {m_vc : Int32} {m_va : Int64} {m_vb : Int64} {m_ve : Int32} {m_no : Int32} {m_pl : Int32} {m_fa : Int32} {m_oc : Int32} {m_fu : Int32} {m_ke : Int32} {m_t : List Int64} {m_f : List Int32} {m_rs : List Int32} {m_rt : List Int64} {m_rf : List Int32} {m_st : List Int32} {m_ib : List Int32} {m_ob : List Int32} {m_al : List Int32} {m_el : List Int32} {m_vt : List Int64} {m_vf : List Int32} {m_vs : List Int32} {m_nr : List Int32} {m_ty : List Int32} {m_pa : List Int32} {m_fn : List Int64} {m_md : List Int64} {m_ms : List Int32} {m_mr : List Int32} {a0 : Int64} {res : Int32} (hf : f_X8_essentialOf a0 m_n m_pt = some res) : tEv l E yX8_essentialOf cX8_essentialOf 6 (some .int) 2 0 0 [.ref 0, .long a0] (encM m_n m_pt m_rc m_sa m_sb m_sc m_is m_os m_vn m_vc m_va m_vb m_ve m_no m_pl m_fa m_oc m_fu m_ke m_t m_f m_rs m_rt m_rf m_st m_ib m_ob m_al m_el m_vt m_vf m_vs m_nr m_ty m_pa m_fn m_md m_ms m_mr) (fun r h' => r = some (.int res) ∧ h' = encM m_n m_pt m_rc m_sa m_sb m_sc m_is m_os m_vn m_vc m_va m_vb m_ve m_no m_pl m_fa m_oc m_fu m_ke m_t m_f m_rs m_rt m_rf m_st m_ib m_ob m_al m_el m_vt m_vf m_vs m_nr m_ty m_pa m_fn m_md m_ms m_mr) := by
  refine tEv.of (own := RX8) (ini := false) (L := [(0, .ref 0), (1, .long a0)]) (by decide +kernel) rfl (fun h9 => nomatch h9) rfl (Nat.le_of_ble_eq_true rfl) ?_
  rw [f_X8_essentialOf] at hf
  refine g_iconst (q := 1) (v := 0) dX8_essentialOf_0 rfl rfl ?_
  refine g_istore_n (q := 2) (L' := [(0, .ref 0), (1, .long a0), (3, .int 0)]) dX8_essentialOf_1 rfl (by decide) rfl ?_
  refine g_iconst (q := 3) (v := 0) dX8_essentialOf_2 rfl rfl ?_
  refine g_istore (q := 5) (L' := [(0, .ref 0), (1, .long a0), (3, .int 0), (4, .int 0)]) dX8_essentialOf_3 rfl (by decide) rfl ?_
  refine g_ls [0, 1, 2, 3] rfl ?_
  refine ev_X8_essentialOf_L5 (fun y5 res hf => ?_) tFU _ _ res hf
  refine g_iload_n 0 (q := 70) dX8_essentialOf_69 rfl rfl ?_
  have hf := Option.some.inj hf
  subst hf
  exact g_ireturn dX8_essentialOf_70 rfl ⟨rfl, rfl⟩
