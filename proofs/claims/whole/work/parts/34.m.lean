/-! written by wip/whole/main.py out of the bytecode: a pure function for each method, and its contract -/
def f_X8_extension_L4 (w1 : Int32) (m_sa : Int64) (m_sb : Int64) (m_fu : Int32) (m_fn : List Int64) (K : Option (Int64)) : Nat → Int32 → Int32 → Option (Int64)
  | 0, _, _ => none
  | fu + 1, v2, v3 => (if m_fu ≤ v3 then K else (tld m_fn v3).bind fun r2 => (if (f_X8_agrees r2 m_sa m_sb) = 0 then f_X8_extension_L4 w1 m_sa m_sb m_fu m_fn K fu v2 (v3 + 1) else (if v2 = w1 then (tld m_fn v3).bind fun r6 => some r6 else f_X8_extension_L4 w1 m_sa m_sb m_fu m_fn K fu (v2 + 1) (v3 + 1))))
def f_X8_extension (a0 : Int32) (m_sa : Int64) (m_sb : Int64) (m_fu : Int32) (m_fn : List Int64) : Option (Int64) := f_X8_extension_L4 a0 m_sa m_sb m_fu m_fn (some (-1)) tFU 0 0
set_option maxRecDepth 20000 in
set_option maxHeartbeats 4000000 in
theorem ev_X8_extension_L4 {l : Launch} {E : tEn}   {m_n : Int32} {m_pt : Int32} {m_rc : Int32} {m_sa : Int64} {m_sb : Int64} {m_sc : Int32} {m_is : Int32} {m_os : Int32} {m_vn : Int32} {m_vc : Int32} {m_va : Int64} {m_vb : Int64} {m_ve : Int32} {m_no : Int32} {m_pl : Int32} {m_fa : Int32} {m_oc : Int32} {m_fu : Int32} {m_ke : Int32} {m_t : List Int64} {m_f : List Int32} {m_rs : List Int32} {m_rt : List Int64} {m_rf : List Int32} {m_st : List Int32} {m_ib : List Int32} {m_ob : List Int32} {m_al : List Int32} {m_el : List Int32} {m_vt : List Int64} {m_vf : List Int32} {m_vs : List Int32} {m_nr : List Int32} {m_ty : List Int32} {m_pa : List Int32} {m_fn : List Int64} {m_md : List Int64} {m_ms : List Int32} {m_mr : List Int32} {w1 : Int32} {K : Option (Int64)} (hK : ∀   (res : Int64), K  = some res → tG l E RX8 cX8_extension 4 (some .long) false 2 (fun r h' => r = some (.long res) ∧ h' = encM m_n m_pt m_rc m_sa m_sb m_sc m_is m_os m_vn m_vc m_va m_vb m_ve m_no m_pl m_fa m_oc m_fu m_ke m_t m_f m_rs m_rt m_rf m_st m_ib m_ob m_al m_el m_vt m_vf m_vs m_nr m_ty m_pa m_fn m_md m_ms m_mr) 0 0 49 [] [] (encM m_n m_pt m_rc m_sa m_sb m_sc m_is m_os m_vn m_vc m_va m_vb m_ve m_no m_pl m_fa m_oc m_fu m_ke m_t m_f m_rs m_rt m_rf m_st m_ib m_ob m_al m_el m_vt m_vf m_vs m_nr m_ty m_pa m_fn m_md m_ms m_mr)) :
    ∀ (fu : Nat) (v2 : Int32) (v3 : Int32) (res : Int64), f_X8_extension_L4 w1 m_sa m_sb m_fu m_fn K fu v2 v3 = some res → tG l E RX8 cX8_extension 4 (some .long) false 2 (fun r h' => r = some (.long res) ∧ h' = encM m_n m_pt m_rc m_sa m_sb m_sc m_is m_os m_vn m_vc m_va m_vb m_ve m_no m_pl m_fa m_oc m_fu m_ke m_t m_f m_rs m_rt m_rf m_st m_ib m_ob m_al m_el m_vt m_vf m_vs m_nr m_ty m_pa m_fn m_md m_ms m_mr) 0 0 4 [(0, .ref 0), (1, .int w1), (2, .int v2), (3, .int v3)] [] (encM m_n m_pt m_rc m_sa m_sb m_sc m_is m_os m_vn m_vc m_va m_vb m_ve m_no m_pl m_fa m_oc m_fu m_ke m_t m_f m_rs m_rt m_rf m_st m_ib m_ob m_al m_el m_vt m_vf m_vs m_nr m_ty m_pa m_fn m_md m_ms m_mr) := by
  intro fu
  induction fu with
  | zero => intro v2 v3 res hf; exact nomatch (show none = some res from hf)
  | succ fu ih =>
    intro v2 v3 res hf
    rw [f_X8_extension_L4] at hf
    refine g_iload_n 3 (q := 5) dX8_extension_4 rfl rfl ?_
    refine g_aload_n 0 (q := 6) dX8_extension_5 rfl rfl ?_
    refine g_get (q := 9) fl_X8_286 dX8_extension_6 rfl rfl rfl ?_
    refine g_icmp_ge (t := 49) (q := 12) dX8_extension_9 (by decide) rfl (fun c1 => ?_) (fun c1 => ?_)
    · rw [if_pos c1] at hf
      refine g_ls [] rfl ?_
      exact hK _ hf
    · rw [if_neg c1] at hf
      refine g_aload_n 0 (q := 13) dX8_extension_12 rfl rfl ?_
      refine g_aload_n 0 (q := 14) dX8_extension_13 rfl rfl ?_
      refine g_get (q := 17) fl_X8_70 dX8_extension_14 rfl rfl rfl ?_
      refine g_iload_n 3 (q := 18) dX8_extension_17 rfl rfl ?_
      obtain ⟨r2, e3, hf⟩ := Option.bind_eq_some_iff.mp hf
      refine g_laload (q := 19) dX8_extension_18 rfl rfl e3 ?_
      refine g_callV (a := 0) (k2 := 0) (n2 := 0) (q := 22) (as := [.long r2]) (st := []) (st1 := [.int (f_X8_agrees r2 m_sa m_sb)]) tm_X8_agrees ml_X8_292 ti_X8_agrees rfl rfl dX8_extension_19 rfl ev_X8_agrees rfl rfl (Nat.le_of_ble_eq_true rfl) (by decide) rfl rfl (Or.inl rfl) rfl ?_
      refine g_if_ne (t := 28) (q := 25) dX8_extension_22 (by decide) rfl (fun c4 => ?_) (fun c4 => ?_)
      · rw [if_neg c4] at hf
        refine g_iload_n 2 (q := 29) dX8_extension_28 rfl rfl ?_
        refine g_iload_n 1 (q := 30) dX8_extension_29 rfl rfl ?_
        refine g_icmp_ne (t := 40) (q := 33) dX8_extension_30 (by decide) rfl (fun c5 => ?_) (fun c5 => ?_)
        · rw [if_neg c5] at hf
          refine g_iinc 2 (q := 43) (v := (v2 + 1)) (L' := [(0, .ref 0), (1, .int w1), (2, .int (v2 + 1)), (3, .int v3)]) dX8_extension_40 rfl rfl rfl (by decide) rfl ?_
          refine g_iinc 3 (q := 46) (v := (v3 + 1)) (L' := [(0, .ref 0), (1, .int w1), (2, .int (v2 + 1)), (3, .int (v3 + 1))]) dX8_extension_43 rfl rfl rfl (by decide) rfl ?_
          refine g_goto (t := 4) dX8_extension_46 (by decide) ?_
          refine g_ls [0, 1, 2, 3] rfl ?_
          exact ih _ _ _ hf
        · rw [if_pos c5] at hf
          refine g_aload_n 0 (q := 34) dX8_extension_33 rfl rfl ?_
          refine g_get (q := 37) fl_X8_70 dX8_extension_34 rfl rfl rfl ?_
          refine g_iload_n 3 (q := 38) dX8_extension_37 rfl rfl ?_
          obtain ⟨r6, e7, hf⟩ := Option.bind_eq_some_iff.mp hf
          refine g_laload (q := 39) dX8_extension_38 rfl rfl e7 ?_
          have hf := Option.some.inj hf
          subst hf
          exact g_lreturn dX8_extension_39 rfl ⟨rfl, rfl⟩
      · rw [if_pos c4] at hf
        refine g_goto (t := 43) dX8_extension_25 (by decide) ?_
        refine g_iinc 3 (q := 46) (v := (v3 + 1)) (L' := [(0, .ref 0), (1, .int w1), (2, .int v2), (3, .int (v3 + 1))]) dX8_extension_43 rfl rfl rfl (by decide) rfl ?_
        refine g_goto (t := 4) dX8_extension_46 (by decide) ?_
        refine g_ls [0, 1, 2, 3] rfl ?_
        exact ih _ _ _ hf
set_option maxRecDepth 20000 in
set_option maxHeartbeats 4000000 in
theorem ev_X8_extension {l : Launch} {E : tEn}  {m_n : Int32} {m_pt : Int32} {m_rc : Int32} {m_sa : Int64} {m_sb : Int64} {m_sc : Int32} {m_is : Int32} {m_os : Int32} {m_vn : Int32} {m_vc : Int32} {m_va : Int64} {m_vb : Int64} {m_ve : Int32} {m_no : Int32} {m_pl : Int32} {m_fa : Int32} {m_oc : Int32} {m_fu : Int32} {m_ke : Int32} {m_t : List Int64} {m_f : List Int32} {m_rs : List Int32} {m_rt : List Int64} {m_rf : List Int32} {m_st : List Int32} {m_ib : List Int32} {m_ob : List Int32} {m_al : List Int32} {m_el : List Int32} {m_vt : List Int64} {m_vf : List Int32} {m_vs : List Int32} {m_nr : List Int32} {m_ty : List Int32} {m_pa : List Int32} {m_fn : List Int64} {m_md : List Int64} {m_ms : List Int32} {m_mr : List Int32} {a0 : Int32} {res : Int64} (hf : f_X8_extension a0 m_sa m_sb m_fu m_fn = some res) : tEv l E yX8_extension cX8_extension 4 (some .long) 2 0 0 [.ref 0, .int a0] (encM m_n m_pt m_rc m_sa m_sb m_sc m_is m_os m_vn m_vc m_va m_vb m_ve m_no m_pl m_fa m_oc m_fu m_ke m_t m_f m_rs m_rt m_rf m_st m_ib m_ob m_al m_el m_vt m_vf m_vs m_nr m_ty m_pa m_fn m_md m_ms m_mr) (fun r h' => r = some (.long res) ∧ h' = encM m_n m_pt m_rc m_sa m_sb m_sc m_is m_os m_vn m_vc m_va m_vb m_ve m_no m_pl m_fa m_oc m_fu m_ke m_t m_f m_rs m_rt m_rf m_st m_ib m_ob m_al m_el m_vt m_vf m_vs m_nr m_ty m_pa m_fn m_md m_ms m_mr) := by
  refine tEv.of (own := RX8) (ini := false) (L := [(0, .ref 0), (1, .int a0)]) (by decide +kernel) rfl (fun h9 => nomatch h9) rfl (Nat.le_of_ble_eq_true rfl) ?_
  rw [f_X8_extension] at hf
  refine g_iconst (q := 1) (v := 0) dX8_extension_0 rfl rfl ?_
  refine g_istore_n (q := 2) (L' := [(0, .ref 0), (1, .int a0), (2, .int 0)]) dX8_extension_1 rfl (by decide) rfl ?_
  refine g_iconst (q := 3) (v := 0) dX8_extension_2 rfl rfl ?_
  refine g_istore_n (q := 4) (L' := [(0, .ref 0), (1, .int a0), (2, .int 0), (3, .int 0)]) dX8_extension_3 rfl (by decide) rfl ?_
  refine g_ls [0, 1, 2, 3] rfl ?_
  refine ev_X8_extension_L4 (fun  res hf => ?_) tFU _ _ res hf
  refine g_ldc2_w (q := 52) kc_X8_256 dX8_extension_49 rfl ?_
  have hf := Option.some.inj hf
  subst hf
  exact g_lreturn dX8_extension_52 rfl ⟨rfl, rfl⟩
def f_X8_simplestExtension_L4 (m_n : Int32) (m_pt : Int32) (m_sa : Int64) (m_sb : Int64) (m_fu : Int32) (m_fn : List Int64) (K : Int32 → Option (Int64)) : Nat → Int32 → Int32 → Option (Int64)
  | 0, _, _ => none
  | fu + 1, v1, v2 => (if m_fu ≤ v2 then K v1 else (tld m_fn v2).bind fun r2 => (if (f_X8_agrees r2 m_sa m_sb) = 0 then f_X8_simplestExtension_L4 m_n m_pt m_sa m_sb m_fu m_fn K fu v1 (v2 + 1) else (if v1 = (-1) then f_X8_simplestExtension_L4 m_n m_pt m_sa m_sb m_fu m_fn K fu v2 (v2 + 1) else (tld m_fn v2).bind fun r6 => (f_X8_essentialOf r6 m_n m_pt).bind fun r8 => (f_X8_bits r8).bind fun r10 => (tld m_fn v1).bind fun r12 => (f_X8_essentialOf r12 m_n m_pt).bind fun r14 => (f_X8_bits r14).bind fun r16 => (if r16 ≤ r10 then f_X8_simplestExtension_L4 m_n m_pt m_sa m_sb m_fu m_fn K fu v1 (v2 + 1) else f_X8_simplestExtension_L4 m_n m_pt m_sa m_sb m_fu m_fn K fu v2 (v2 + 1)))))
def f_X8_simplestExtension  (m_n : Int32) (m_pt : Int32) (m_sa : Int64) (m_sb : Int64) (m_fu : Int32) (m_fn : List Int64) : Option (Int64) := f_X8_simplestExtension_L4 m_n m_pt m_sa m_sb m_fu m_fn (fun y19 => (if y19 = (-1) then some (-1) else (tld m_fn y19).bind fun r21 => some r21)) tFU (-1) 0
set_option maxRecDepth 20000 in
set_option maxHeartbeats 4000000 in
theorem ev_X8_simplestExtension_L4 {l : Launch} {E : tEn}   {m_n : Int32} {m_pt : Int32} {m_rc : Int32} {m_sa : Int64} {m_sb : Int64} {m_sc : Int32} {m_is : Int32} {m_os : Int32} {m_vn : Int32} {m_vc : Int32} {m_va : Int64} {m_vb : Int64} {m_ve : Int32} {m_no : Int32} {m_pl : Int32} {m_fa : Int32} {m_oc : Int32} {m_fu : Int32} {m_ke : Int32} {m_t : List Int64} {m_f : List Int32} {m_rs : List Int32} {m_rt : List Int64} {m_rf : List Int32} {m_st : List Int32} {m_ib : List Int32} {m_ob : List Int32} {m_al : List Int32} {m_el : List Int32} {m_vt : List Int64} {m_vf : List Int32} {m_vs : List Int32} {m_nr : List Int32} {m_ty : List Int32} {m_pa : List Int32} {m_fn : List Int64} {m_md : List Int64} {m_ms : List Int32} {m_mr : List Int32}  {K : Int32 → Option (Int64)} (hK : ∀ (v1 : Int32)  (res : Int64), K v1 = some res → tG l E RX8 cX8_simplestExtension 3 (some .long) false 3 (fun r h' => r = some (.long res) ∧ h' = encM m_n m_pt m_rc m_sa m_sb m_sc m_is m_os m_vn m_vc m_va m_vb m_ve m_no m_pl m_fa m_oc m_fu m_ke m_t m_f m_rs m_rt m_rf m_st m_ib m_ob m_al m_el m_vt m_vf m_vs m_nr m_ty m_pa m_fn m_md m_ms m_mr) 0 0 70 [(0, .ref 0), (1, .int v1)] [] (encM m_n m_pt m_rc m_sa m_sb m_sc m_is m_os m_vn m_vc m_va m_vb m_ve m_no m_pl m_fa m_oc m_fu m_ke m_t m_f m_rs m_rt m_rf m_st m_ib m_ob m_al m_el m_vt m_vf m_vs m_nr m_ty m_pa m_fn m_md m_ms m_mr)) :
    ∀ (fu : Nat) (v1 : Int32) (v2 : Int32) (res : Int64), f_X8_simplestExtension_L4 m_n m_pt m_sa m_sb m_fu m_fn K fu v1 v2 = some res → tG l E RX8 cX8_simplestExtension 3 (some .long) false 3 (fun r h' => r = some (.long res) ∧ h' = encM m_n m_pt m_rc m_sa m_sb m_sc m_is m_os m_vn m_vc m_va m_vb m_ve m_no m_pl m_fa m_oc m_fu m_ke m_t m_f m_rs m_rt m_rf m_st m_ib m_ob m_al m_el m_vt m_vf m_vs m_nr m_ty m_pa m_fn m_md m_ms m_mr) 0 0 4 [(0, .ref 0), (1, .int v1), (2, .int v2)] [] (encM m_n m_pt m_rc m_sa m_sb m_sc m_is m_os m_vn m_vc m_va m_vb m_ve m_no m_pl m_fa m_oc m_fu m_ke m_t m_f m_rs m_rt m_rf m_st m_ib m_ob m_al m_el m_vt m_vf m_vs m_nr m_ty m_pa m_fn m_md m_ms m_mr) := by
  intro fu
  induction fu with
  | zero => intro v1 v2 res hf; exact nomatch (show none = some res from hf)
  | succ fu ih =>
    intro v1 v2 res hf
    rw [f_X8_simplestExtension_L4] at hf
    refine g_iload_n 2 (q := 5) dX8_simplestExtension_4 rfl rfl ?_
    refine g_aload_n 0 (q := 6) dX8_simplestExtension_5 rfl rfl ?_
    refine g_get (q := 9) fl_X8_286 dX8_simplestExtension_6 rfl rfl rfl ?_
    refine g_icmp_ge (t := 70) (q := 12) dX8_simplestExtension_9 (by decide) rfl (fun c1 => ?_) (fun c1 => ?_)
    · rw [if_pos c1] at hf
      refine g_ls [0, 1] rfl ?_
      exact hK _ _ hf
    · rw [if_neg c1] at hf
      refine g_aload_n 0 (q := 13) dX8_simplestExtension_12 rfl rfl ?_
      refine g_aload_n 0 (q := 14) dX8_simplestExtension_13 rfl rfl ?_
      refine g_get (q := 17) fl_X8_70 dX8_simplestExtension_14 rfl rfl rfl ?_
      refine g_iload_n 2 (q := 18) dX8_simplestExtension_17 rfl rfl ?_
      obtain ⟨r2, e3, hf⟩ := Option.bind_eq_some_iff.mp hf
      refine g_laload (q := 19) dX8_simplestExtension_18 rfl rfl e3 ?_
      refine g_callV (a := 0) (k2 := 0) (n2 := 0) (q := 22) (as := [.long r2]) (st := []) (st1 := [.int (f_X8_agrees r2 m_sa m_sb)]) tm_X8_agrees ml_X8_292 ti_X8_agrees rfl rfl dX8_simplestExtension_19 rfl ev_X8_agrees rfl rfl (Nat.le_of_ble_eq_true rfl) (by decide) rfl rfl (Or.inl rfl) rfl ?_
      refine g_if_ne (t := 28) (q := 25) dX8_simplestExtension_22 (by decide) rfl (fun c4 => ?_) (fun c4 => ?_)
      · rw [if_neg c4] at hf
        refine g_iload_n 1 (q := 29) dX8_simplestExtension_28 rfl rfl ?_
        refine g_iconst (q := 30) (v := (-1)) dX8_simplestExtension_29 rfl rfl ?_
        refine g_icmp_eq (t := 62) (q := 33) dX8_simplestExtension_30 (by decide) rfl (fun c5 => ?_) (fun c5 => ?_)
        · rw [if_pos c5] at hf
          refine g_iload_n 2 (q := 63) dX8_simplestExtension_62 rfl rfl ?_
          refine g_istore_n (q := 64) (L' := [(0, .ref 0), (1, .int v2), (2, .int v2)]) dX8_simplestExtension_63 rfl (by decide) rfl ?_
          refine g_iinc 2 (q := 67) (v := (v2 + 1)) (L' := [(0, .ref 0), (1, .int v2), (2, .int (v2 + 1))]) dX8_simplestExtension_64 rfl rfl rfl (by decide) rfl ?_
          refine g_goto (t := 4) dX8_simplestExtension_67 (by decide) ?_
          refine g_ls [0, 1, 2] rfl ?_
          exact ih _ _ _ hf
        · rw [if_neg c5] at hf
          refine g_aload_n 0 (q := 34) dX8_simplestExtension_33 rfl rfl ?_
          refine g_aload_n 0 (q := 35) dX8_simplestExtension_34 rfl rfl ?_
          refine g_get (q := 38) fl_X8_70 dX8_simplestExtension_35 rfl rfl rfl ?_
          refine g_iload_n 2 (q := 39) dX8_simplestExtension_38 rfl rfl ?_
          obtain ⟨r6, e7, hf⟩ := Option.bind_eq_some_iff.mp hf
          refine g_laload (q := 40) dX8_simplestExtension_39 rfl rfl e7 ?_
          obtain ⟨r8, e9, hf⟩ := Option.bind_eq_some_iff.mp hf
          refine g_callV (a := 0) (k2 := 0) (n2 := 0) (q := 43) (as := [.long r6]) (st := []) (st1 := [.int r8]) tm_X8_essentialOf ml_X8_141 ti_X8_essentialOf rfl rfl dX8_simplestExtension_40 rfl (ev_X8_essentialOf e9) rfl rfl (Nat.le_of_ble_eq_true rfl) (by decide) rfl rfl (Or.inl rfl) rfl ?_
          obtain ⟨r10, e11, hf⟩ := Option.bind_eq_some_iff.mp hf
          refine g_callS (k2 := 0) (n2 := 0) (q := 46) (as := [.int r8]) (st := []) (st1 := [.int r10]) tm_X8_bits ml_X8_194 ts_X8_bits dX8_simplestExtension_43 rfl (ev_X8_bits e11) rfl rfl (Nat.le_of_ble_eq_true rfl) (by decide) rfl rfl (Or.inl rfl) rfl ?_
          refine g_aload_n 0 (q := 47) dX8_simplestExtension_46 rfl rfl ?_
          refine g_aload_n 0 (q := 48) dX8_simplestExtension_47 rfl rfl ?_
          refine g_get (q := 51) fl_X8_70 dX8_simplestExtension_48 rfl rfl rfl ?_
          refine g_iload_n 1 (q := 52) dX8_simplestExtension_51 rfl rfl ?_
          obtain ⟨r12, e13, hf⟩ := Option.bind_eq_some_iff.mp hf
          refine g_laload (q := 53) dX8_simplestExtension_52 rfl rfl e13 ?_
          obtain ⟨r14, e15, hf⟩ := Option.bind_eq_some_iff.mp hf
          refine g_callV (a := 0) (k2 := 0) (n2 := 0) (q := 56) (as := [.long r12]) (st := [.int r10]) (st1 := [.int r14, .int r10]) tm_X8_essentialOf ml_X8_141 ti_X8_essentialOf rfl rfl dX8_simplestExtension_53 rfl (ev_X8_essentialOf e15) rfl rfl (Nat.le_of_ble_eq_true rfl) (by decide) rfl rfl (Or.inl rfl) rfl ?_
          obtain ⟨r16, e17, hf⟩ := Option.bind_eq_some_iff.mp hf
          refine g_callS (k2 := 0) (n2 := 0) (q := 59) (as := [.int r14]) (st := [.int r10]) (st1 := [.int r16, .int r10]) tm_X8_bits ml_X8_194 ts_X8_bits dX8_simplestExtension_56 rfl (ev_X8_bits e17) rfl rfl (Nat.le_of_ble_eq_true rfl) (by decide) rfl rfl (Or.inl rfl) rfl ?_
          refine g_icmp_ge (t := 64) (q := 62) dX8_simplestExtension_59 (by decide) rfl (fun c18 => ?_) (fun c18 => ?_)
          · rw [if_pos c18] at hf
            refine g_iinc 2 (q := 67) (v := (v2 + 1)) (L' := [(0, .ref 0), (1, .int v1), (2, .int (v2 + 1))]) dX8_simplestExtension_64 rfl rfl rfl (by decide) rfl ?_
            refine g_goto (t := 4) dX8_simplestExtension_67 (by decide) ?_
            refine g_ls [0, 1, 2] rfl ?_
            exact ih _ _ _ hf
          · rw [if_neg c18] at hf
            refine g_iload_n 2 (q := 63) dX8_simplestExtension_62 rfl rfl ?_
            refine g_istore_n (q := 64) (L' := [(0, .ref 0), (1, .int v2), (2, .int v2)]) dX8_simplestExtension_63 rfl (by decide) rfl ?_
            refine g_iinc 2 (q := 67) (v := (v2 + 1)) (L' := [(0, .ref 0), (1, .int v2), (2, .int (v2 + 1))]) dX8_simplestExtension_64 rfl rfl rfl (by decide) rfl ?_
            refine g_goto (t := 4) dX8_simplestExtension_67 (by decide) ?_
            refine g_ls [0, 1, 2] rfl ?_
            exact ih _ _ _ hf
      · rw [if_pos c4] at hf
        refine g_goto (t := 64) dX8_simplestExtension_25 (by decide) ?_
        refine g_iinc 2 (q := 67) (v := (v2 + 1)) (L' := [(0, .ref 0), (1, .int v1), (2, .int (v2 + 1))]) dX8_simplestExtension_64 rfl rfl rfl (by decide) rfl ?_
        refine g_goto (t := 4) dX8_simplestExtension_67 (by decide) ?_
        refine g_ls [0, 1, 2] rfl ?_
        exact ih _ _ _ hf
set_option maxRecDepth 20000 in
set_option maxHeartbeats 4000000 in
theorem ev_X8_simplestExtension {l : Launch} {E : tEn}  {m_n : Int32} {m_pt : Int32} {m_rc : Int32} {m_sa : Int64} {m_sb : Int64} {m_sc : Int32} {m_is : Int32} {m_os : Int32} {m_vn : Int32} {m_vc : Int32} {m_va : Int64} {m_vb : Int64} {m_ve : Int32} {m_no : Int32} {m_pl : Int32} {m_fa : Int32} {m_oc : Int32} {m_fu : Int32} {m_ke : Int32} {m_t : List Int64} {m_f : List Int32} {m_rs : List Int32} {m_rt : List Int64} {m_rf : List Int32} {m_st : List Int32} {m_ib : List Int32} {m_ob : List Int32} {m_al : List Int32} {m_el : List Int32} {m_vt : List Int64} {m_vf : List Int32} {m_vs : List Int32} {m_nr : List Int32} {m_ty : List Int32} {m_pa : List Int32} {m_fn : List Int64} {m_md : List Int64} {m_ms : List Int32} {m_mr : List Int32}  {res : Int64} (hf : f_X8_simplestExtension m_n m_pt m_sa m_sb m_fu m_fn = some res) : tEv l E yX8_simplestExtension cX8_simplestExtension 3 (some .long) 3 0 0 [.ref 0] (encM m_n m_pt m_rc m_sa m_sb m_sc m_is m_os m_vn m_vc m_va m_vb m_ve m_no m_pl m_fa m_oc m_fu m_ke m_t m_f m_rs m_rt m_rf m_st m_ib m_ob m_al m_el m_vt m_vf m_vs m_nr m_ty m_pa m_fn m_md m_ms m_mr) (fun r h' => r = some (.long res) ∧ h' = encM m_n m_pt m_rc m_sa m_sb m_sc m_is m_os m_vn m_vc m_va m_vb m_ve m_no m_pl m_fa m_oc m_fu m_ke m_t m_f m_rs m_rt m_rf m_st m_ib m_ob m_al m_el m_vt m_vf m_vs m_nr m_ty m_pa m_fn m_md m_ms m_mr) := by
  refine tEv.of (own := RX8) (ini := false) (L := [(0, .ref 0)]) (by decide +kernel) rfl (fun h9 => nomatch h9) rfl (Nat.le_of_ble_eq_true rfl) ?_
  rw [f_X8_simplestExtension] at hf
  refine g_iconst (q := 1) (v := (-1)) dX8_simplestExtension_0 rfl rfl ?_
  refine g_istore_n (q := 2) (L' := [(0, .ref 0), (1, .int (-1))]) dX8_simplestExtension_1 rfl (by decide) rfl ?_
  refine g_iconst (q := 3) (v := 0) dX8_simplestExtension_2 rfl rfl ?_
  refine g_istore_n (q := 4) (L' := [(0, .ref 0), (1, .int (-1)), (2, .int 0)]) dX8_simplestExtension_3 rfl (by decide) rfl ?_
  refine g_ls [0, 1, 2] rfl ?_
  refine ev_X8_simplestExtension_L4 (fun y19 res hf => ?_) tFU _ _ res hf
  refine g_iload_n 1 (q := 71) dX8_simplestExtension_70 rfl rfl ?_
  refine g_iconst (q := 72) (v := (-1)) dX8_simplestExtension_71 rfl rfl ?_
  refine g_icmp_ne (t := 81) (q := 75) dX8_simplestExtension_72 (by decide) rfl (fun c20 => ?_) (fun c20 => ?_)
  · rw [if_neg c20] at hf
    refine g_aload_n 0 (q := 82) dX8_simplestExtension_81 rfl rfl ?_
    refine g_get (q := 85) fl_X8_70 dX8_simplestExtension_82 rfl rfl rfl ?_
    refine g_iload_n 1 (q := 86) dX8_simplestExtension_85 rfl rfl ?_
    obtain ⟨r21, e22, hf⟩ := Option.bind_eq_some_iff.mp hf
    refine g_laload (q := 87) dX8_simplestExtension_86 rfl rfl e22 ?_
    have hf := Option.some.inj hf
    subst hf
    exact g_lreturn dX8_simplestExtension_87 rfl ⟨rfl, rfl⟩
  · rw [if_pos c20] at hf
    refine g_ldc2_w (q := 78) kc_X8_256 dX8_simplestExtension_75 rfl ?_
    refine g_goto (t := 87) dX8_simplestExtension_78 (by decide) ?_
    have hf := Option.some.inj hf
    subst hf
    exact g_lreturn dX8_simplestExtension_87 rfl ⟨rfl, rfl⟩
def f_X8_readOnceCount_L21 (w1 : Int32) (m_n : Int32) (m_pt : Int32) (m_fu : Int32) (m_fn : List Int64) (K : Int32 → Option (Int32)) : Nat → Int32 → Int32 → Option (Int32)
  | 0, _, _ => none
  | fu + 1, v2, v3 => (if m_fu ≤ v3 then K v2 else (tld m_fn v3).bind fun r3 => (f_X8_essentialOf r3 m_n m_pt).bind fun r5 => (f_X8_bits r5).bind fun r7 => (if r7 = w1 then f_X8_readOnceCount_L21 w1 m_n m_pt m_fu m_fn K fu (v2 + 1) (v3 + 1) else f_X8_readOnceCount_L21 w1 m_n m_pt m_fu m_fn K fu (v2 + 0) (v3 + 1)))
def f_X8_readOnceCount (a0 : Int32) (m_n : Int32) (m_pt : Int32) (m_fu : Int32) (m_fn : List Int64) : Option (Int32) := (if (f_X8_isIn (Int32.toInt64 a0) 0 (Int32.toInt64 m_n)) = 0 then some (-2) else f_X8_readOnceCount_L21 a0 m_n m_pt m_fu m_fn (fun y10 => some y10) tFU 0 0)
set_option maxRecDepth 20000 in
set_option maxHeartbeats 4000000 in
theorem ev_X8_readOnceCount_L21 {l : Launch} {E : tEn}   {m_n : Int32} {m_pt : Int32} {m_rc : Int32} {m_sa : Int64} {m_sb : Int64} {m_sc : Int32} {m_is : Int32} {m_os : Int32} {m_vn : Int32} {m_vc : Int32} {m_va : Int64} {m_vb : Int64} {m_ve : Int32} {m_no : Int32} {m_pl : Int32} {m_fa : Int32} {m_oc : Int32} {m_fu : Int32} {m_ke : Int32} {m_t : List Int64} {m_f : List Int32} {m_rs : List Int32} {m_rt : List Int64} {m_rf : List Int32} {m_st : List Int32} {m_ib : List Int32} {m_ob : List Int32} {m_al : List Int32} {m_el : List Int32} {m_vt : List Int64} {m_vf : List Int32} {m_vs : List Int32} {m_nr : List Int32} {m_ty : List Int32} {m_pa : List Int32} {m_fn : List Int64} {m_md : List Int64} {m_ms : List Int32} {m_mr : List Int32} {w1 : Int32} {K : Int32 → Option (Int32)} (hK : ∀ (v2 : Int32)  (res : Int32), K v2 = some res → tG l E RX8 cX8_readOnceCount 4 (some .int) false 3 (fun r h' => r = some (.int res) ∧ h' = encM m_n m_pt m_rc m_sa m_sb m_sc m_is m_os m_vn m_vc m_va m_vb m_ve m_no m_pl m_fa m_oc m_fu m_ke m_t m_f m_rs m_rt m_rf m_st m_ib m_ob m_al m_el m_vt m_vf m_vs m_nr m_ty m_pa m_fn m_md m_ms m_mr) 0 0 60 [(2, .int v2)] [] (encM m_n m_pt m_rc m_sa m_sb m_sc m_is m_os m_vn m_vc m_va m_vb m_ve m_no m_pl m_fa m_oc m_fu m_ke m_t m_f m_rs m_rt m_rf m_st m_ib m_ob m_al m_el m_vt m_vf m_vs m_nr m_ty m_pa m_fn m_md m_ms m_mr)) :
    ∀ (fu : Nat) (v2 : Int32) (v3 : Int32) (res : Int32), f_X8_readOnceCount_L21 w1 m_n m_pt m_fu m_fn K fu v2 v3 = some res → tG l E RX8 cX8_readOnceCount 4 (some .int) false 3 (fun r h' => r = some (.int res) ∧ h' = encM m_n m_pt m_rc m_sa m_sb m_sc m_is m_os m_vn m_vc m_va m_vb m_ve m_no m_pl m_fa m_oc m_fu m_ke m_t m_f m_rs m_rt m_rf m_st m_ib m_ob m_al m_el m_vt m_vf m_vs m_nr m_ty m_pa m_fn m_md m_ms m_mr) 0 0 21 [(0, .ref 0), (1, .int w1), (2, .int v2), (3, .int v3)] [] (encM m_n m_pt m_rc m_sa m_sb m_sc m_is m_os m_vn m_vc m_va m_vb m_ve m_no m_pl m_fa m_oc m_fu m_ke m_t m_f m_rs m_rt m_rf m_st m_ib m_ob m_al m_el m_vt m_vf m_vs m_nr m_ty m_pa m_fn m_md m_ms m_mr) := by
  intro fu
  induction fu with
  | zero => intro v2 v3 res hf; exact nomatch (show none = some res from hf)
  | succ fu ih =>
    intro v2 v3 res hf
    rw [f_X8_readOnceCount_L21] at hf
    refine g_iload_n 3 (q := 22) dX8_readOnceCount_21 rfl rfl ?_
    refine g_aload_n 0 (q := 23) dX8_readOnceCount_22 rfl rfl ?_
    refine g_get (q := 26) fl_X8_286 dX8_readOnceCount_23 rfl rfl rfl ?_
    refine g_icmp_ge (t := 60) (q := 29) dX8_readOnceCount_26 (by decide) rfl (fun c2 => ?_) (fun c2 => ?_)
    · rw [if_pos c2] at hf
      refine g_ls [2] rfl ?_
      exact hK _ _ hf
    · rw [if_neg c2] at hf
      refine g_iload_n 2 (q := 30) dX8_readOnceCount_29 rfl rfl ?_
      refine g_aload_n 0 (q := 31) dX8_readOnceCount_30 rfl rfl ?_
      refine g_aload_n 0 (q := 32) dX8_readOnceCount_31 rfl rfl ?_
      refine g_get (q := 35) fl_X8_70 dX8_readOnceCount_32 rfl rfl rfl ?_
      refine g_iload_n 3 (q := 36) dX8_readOnceCount_35 rfl rfl ?_
      obtain ⟨r3, e4, hf⟩ := Option.bind_eq_some_iff.mp hf
      refine g_laload (q := 37) dX8_readOnceCount_36 rfl rfl e4 ?_
      obtain ⟨r5, e6, hf⟩ := Option.bind_eq_some_iff.mp hf
      refine g_callV (a := 0) (k2 := 0) (n2 := 0) (q := 40) (as := [.long r3]) (st := [.int v2]) (st1 := [.int r5, .int v2]) tm_X8_essentialOf ml_X8_141 ti_X8_essentialOf rfl rfl dX8_readOnceCount_37 rfl (ev_X8_essentialOf e6) rfl rfl (Nat.le_of_ble_eq_true rfl) (by decide) rfl rfl (Or.inl rfl) rfl ?_
      obtain ⟨r7, e8, hf⟩ := Option.bind_eq_some_iff.mp hf
      refine g_callS (k2 := 0) (n2 := 0) (q := 43) (as := [.int r5]) (st := [.int v2]) (st1 := [.int r7, .int v2]) tm_X8_bits ml_X8_194 ts_X8_bits dX8_readOnceCount_40 rfl (ev_X8_bits e8) rfl rfl (Nat.le_of_ble_eq_true rfl) (by decide) rfl rfl (Or.inl rfl) rfl ?_
      refine g_iload_n 1 (q := 44) dX8_readOnceCount_43 rfl rfl ?_
      refine g_icmp_ne (t := 51) (q := 47) dX8_readOnceCount_44 (by decide) rfl (fun c9 => ?_) (fun c9 => ?_)
      · rw [if_neg c9] at hf
        refine g_iconst (q := 52) (v := 0) dX8_readOnceCount_51 rfl rfl ?_
        refine g_iadd (q := 53) dX8_readOnceCount_52 rfl ?_
        refine g_istore_n (q := 54) (L' := [(0, .ref 0), (1, .int w1), (2, .int (v2 + 0)), (3, .int v3)]) dX8_readOnceCount_53 rfl (by decide) rfl ?_
        refine g_iinc 3 (q := 57) (v := (v3 + 1)) (L' := [(0, .ref 0), (1, .int w1), (2, .int (v2 + 0)), (3, .int (v3 + 1))]) dX8_readOnceCount_54 rfl rfl rfl (by decide) rfl ?_
        refine g_goto (t := 21) dX8_readOnceCount_57 (by decide) ?_
        refine g_ls [0, 1, 2, 3] rfl ?_
        exact ih _ _ _ hf
      · rw [if_pos c9] at hf
        refine g_iconst (q := 48) (v := 1) dX8_readOnceCount_47 rfl rfl ?_
        refine g_goto (t := 52) dX8_readOnceCount_48 (by decide) ?_
        refine g_iadd (q := 53) dX8_readOnceCount_52 rfl ?_
        refine g_istore_n (q := 54) (L' := [(0, .ref 0), (1, .int w1), (2, .int (v2 + 1)), (3, .int v3)]) dX8_readOnceCount_53 rfl (by decide) rfl ?_
        refine g_iinc 3 (q := 57) (v := (v3 + 1)) (L' := [(0, .ref 0), (1, .int w1), (2, .int (v2 + 1)), (3, .int (v3 + 1))]) dX8_readOnceCount_54 rfl rfl rfl (by decide) rfl ?_
        refine g_goto (t := 21) dX8_readOnceCount_57 (by decide) ?_
        refine g_ls [0, 1, 2, 3] rfl ?_
        exact ih _ _ _ hf
set_option maxRecDepth 20000 in
set_option maxHeartbeats 4000000 in
theorem ev_X8_readOnceCount {l : Launch} {E : tEn}  {m_n : Int32} {m_pt : Int32} {m_rc : Int32} {m_sa : Int64} {m_sb : Int64} {m_sc : Int32} {m_is : Int32} {m_os : Int32} {m_vn : Int32} {m_vc : Int32} {m_va : Int64} {m_vb : Int64} {m_ve : Int32} {m_no : Int32} {m_pl : Int32} {m_fa : Int32} {m_oc : Int32} {m_fu : Int32} {m_ke : Int32} {m_t : List Int64} {m_f : List Int32} {m_rs : List Int32} {m_rt : List Int64} {m_rf : List Int32} {m_st : List Int32} {m_ib : List Int32} {m_ob : List Int32} {m_al : List Int32} {m_el : List Int32} {m_vt : List Int64} {m_vf : List Int32} {m_vs : List Int32} {m_nr : List Int32} {m_ty : List Int32} {m_pa : List Int32} {m_fn : List Int64} {m_md : List Int64} {m_ms : List Int32} {m_mr : List Int32} {a0 : Int32} {res : Int32} (hf : f_X8_readOnceCount a0 m_n m_pt m_fu m_fn = some res) : tEv l E yX8_readOnceCount cX8_readOnceCount 4 (some .int) 3 0 0 [.ref 0, .int a0] (encM m_n m_pt m_rc m_sa m_sb m_sc m_is m_os m_vn m_vc m_va m_vb m_ve m_no m_pl m_fa m_oc m_fu m_ke m_t m_f m_rs m_rt m_rf m_st m_ib m_ob m_al m_el m_vt m_vf m_vs m_nr m_ty m_pa m_fn m_md m_ms m_mr) (fun r h' => r = some (.int res) ∧ h' = encM m_n m_pt m_rc m_sa m_sb m_sc m_is m_os m_vn m_vc m_va m_vb m_ve m_no m_pl m_fa m_oc m_fu m_ke m_t m_f m_rs m_rt m_rf m_st m_ib m_ob m_al m_el m_vt m_vf m_vs m_nr m_ty m_pa m_fn m_md m_ms m_mr) := by
  refine tEv.of (own := RX8) (ini := false) (L := [(0, .ref 0), (1, .int a0)]) (by decide +kernel) rfl (fun h9 => nomatch h9) rfl (Nat.le_of_ble_eq_true rfl) ?_
  rw [f_X8_readOnceCount] at hf
  refine g_iload_n 1 (q := 1) dX8_readOnceCount_0 rfl rfl ?_
  refine g_i2l (q := 2) dX8_readOnceCount_1 rfl ?_
  refine g_lconst (q := 3) (v := 0) dX8_readOnceCount_2 rfl rfl ?_
  refine g_aload_n 0 (q := 4) dX8_readOnceCount_3 rfl rfl ?_
  refine g_get (q := 7) fl_X8_7 dX8_readOnceCount_4 rfl rfl rfl ?_
  refine g_i2l (q := 8) dX8_readOnceCount_7 rfl ?_
  refine g_callS (k2 := 0) (n2 := 0) (q := 11) (as := [.long (Int32.toInt64 a0), .long 0, .long (Int32.toInt64 m_n)]) (st := []) (st1 := [.int (f_X8_isIn (Int32.toInt64 a0) 0 (Int32.toInt64 m_n))]) tm_X8_isIn ml_X8_87 ts_X8_isIn dX8_readOnceCount_8 rfl ev_X8_isIn rfl rfl (Nat.le_of_ble_eq_true rfl) (by decide) rfl rfl (Or.inl rfl) rfl ?_
  refine g_if_ne (t := 17) (q := 14) dX8_readOnceCount_11 (by decide) rfl (fun c1 => ?_) (fun c1 => ?_)
  · rw [if_neg c1] at hf
    refine g_iconst (q := 18) (v := 0) dX8_readOnceCount_17 rfl rfl ?_
    refine g_istore_n (q := 19) (L' := [(0, .ref 0), (1, .int a0), (2, .int 0)]) dX8_readOnceCount_18 rfl (by decide) rfl ?_
    refine g_iconst (q := 20) (v := 0) dX8_readOnceCount_19 rfl rfl ?_
    refine g_istore_n (q := 21) (L' := [(0, .ref 0), (1, .int a0), (2, .int 0), (3, .int 0)]) dX8_readOnceCount_20 rfl (by decide) rfl ?_
    refine g_ls [0, 1, 2, 3] rfl ?_
    refine ev_X8_readOnceCount_L21 (fun y10 res hf => ?_) tFU _ _ res hf
    refine g_iload_n 0 (q := 61) dX8_readOnceCount_60 rfl rfl ?_
    have hf := Option.some.inj hf
    subst hf
    exact g_ireturn dX8_readOnceCount_61 rfl ⟨rfl, rfl⟩
  · rw [if_pos c1] at hf
    refine g_bipush (q := 16) (v := (-2)) dX8_readOnceCount_14 rfl rfl ?_
    have hf := Option.some.inj hf
    subst hf
    exact g_ireturn dX8_readOnceCount_16 rfl ⟨rfl, rfl⟩
def f_X8_addStep (a0 : Int32) (a1 : Int32) (a2 : Int32) (a3 : Int32) (m_sc : Int32) (m_st : List Int32) : Option (Int32 × Int32 × List Int32) := (if (f_X8_isIn (Int32.toInt64 a0) 0 5) = 0 then some ((-2), m_sc, m_st) else (if m_sc = 8 then some ((-6), m_sc, m_st) else (tst m_st (4 * m_sc) a0).bind fun z3 => (tst z3 ((4 * m_sc) + 1) a1).bind fun z5 => (tst z5 ((4 * m_sc) + 2) a2).bind fun z7 => (tst z7 ((4 * m_sc) + 3) a3).bind fun z9 => some ((m_sc + 1), (m_sc + 1), z9)))
set_option maxRecDepth 20000 in
set_option maxHeartbeats 4000000 in
theorem ev_X8_addStep {l : Launch} {E : tEn}  {m_n : Int32} {m_pt : Int32} {m_rc : Int32} {m_sa : Int64} {m_sb : Int64} {m_sc : Int32} {m_is : Int32} {m_os : Int32} {m_vn : Int32} {m_vc : Int32} {m_va : Int64} {m_vb : Int64} {m_ve : Int32} {m_no : Int32} {m_pl : Int32} {m_fa : Int32} {m_oc : Int32} {m_fu : Int32} {m_ke : Int32} {m_t : List Int64} {m_f : List Int32} {m_rs : List Int32} {m_rt : List Int64} {m_rf : List Int32} {m_st : List Int32} {m_ib : List Int32} {m_ob : List Int32} {m_al : List Int32} {m_el : List Int32} {m_vt : List Int64} {m_vf : List Int32} {m_vs : List Int32} {m_nr : List Int32} {m_ty : List Int32} {m_pa : List Int32} {m_fn : List Int64} {m_md : List Int64} {m_ms : List Int32} {m_mr : List Int32} {a0 : Int32} {a1 : Int32} {a2 : Int32} {a3 : Int32} {res : Int32 × Int32 × List Int32} (hf : f_X8_addStep a0 a1 a2 a3 m_sc m_st = some res) : tEv l E yX8_addStep cX8_addStep 5 (some .int) 2 0 0 [.ref 0, .int a0, .int a1, .int a2, .int a3] (encM m_n m_pt m_rc m_sa m_sb m_sc m_is m_os m_vn m_vc m_va m_vb m_ve m_no m_pl m_fa m_oc m_fu m_ke m_t m_f m_rs m_rt m_rf m_st m_ib m_ob m_al m_el m_vt m_vf m_vs m_nr m_ty m_pa m_fn m_md m_ms m_mr) (fun r h' => r = some (.int res.1) ∧ h' = encM m_n m_pt m_rc m_sa m_sb (res.2.1) m_is m_os m_vn m_vc m_va m_vb m_ve m_no m_pl m_fa m_oc m_fu m_ke m_t m_f m_rs m_rt m_rf (res.2.2) m_ib m_ob m_al m_el m_vt m_vf m_vs m_nr m_ty m_pa m_fn m_md m_ms m_mr) := by
  refine tEv.of (own := RX8) (ini := false) (L := [(0, .ref 0), (1, .int a0), (2, .int a1), (3, .int a2), (4, .int a3)]) (by decide +kernel) rfl (fun h9 => nomatch h9) rfl (Nat.le_of_ble_eq_true rfl) ?_
  rw [f_X8_addStep] at hf
  refine g_iload_n 1 (q := 1) dX8_addStep_0 rfl rfl ?_
  refine g_i2l (q := 2) dX8_addStep_1 rfl ?_
  refine g_lconst (q := 3) (v := 0) dX8_addStep_2 rfl rfl ?_
  refine g_ldc2_w (q := 6) kc_X8_106 dX8_addStep_3 rfl ?_
  refine g_callS (k2 := 0) (n2 := 0) (q := 9) (as := [.long (Int32.toInt64 a0), .long 0, .long 5]) (st := []) (st1 := [.int (f_X8_isIn (Int32.toInt64 a0) 0 5)]) tm_X8_isIn ml_X8_87 ts_X8_isIn dX8_addStep_6 rfl ev_X8_isIn rfl rfl (Nat.le_of_ble_eq_true rfl) (by decide) rfl rfl (Or.inl rfl) rfl ?_
  refine g_if_ne (t := 15) (q := 12) dX8_addStep_9 (by decide) rfl (fun c1 => ?_) (fun c1 => ?_)
  · rw [if_neg c1] at hf
    refine g_aload_n 0 (q := 16) dX8_addStep_15 rfl rfl ?_
    refine g_get (q := 19) fl_X8_115 dX8_addStep_16 rfl rfl rfl ?_
    refine g_bipush (q := 21) (v := 8) dX8_addStep_19 rfl rfl ?_
    refine g_icmp_ne (t := 27) (q := 24) dX8_addStep_21 (by decide) rfl (fun c2 => ?_) (fun c2 => ?_)
    · rw [if_neg c2] at hf
      refine g_aload_n 0 (q := 28) dX8_addStep_27 rfl rfl ?_
      refine g_get (q := 31) fl_X8_34 dX8_addStep_28 rfl rfl rfl ?_
      refine g_iconst (q := 32) (v := 4) dX8_addStep_31 rfl rfl ?_
      refine g_aload_n 0 (q := 33) dX8_addStep_32 rfl rfl ?_
      refine g_get (q := 36) fl_X8_115 dX8_addStep_33 rfl rfl rfl ?_
      refine g_imul (q := 37) dX8_addStep_36 rfl ?_
      refine g_iload_n 1 (q := 38) dX8_addStep_37 rfl rfl ?_
      obtain ⟨z3, e4, hf⟩ := Option.bind_eq_some_iff.mp hf
      refine g_iastore (q := 39) (h' := encM m_n m_pt m_rc m_sa m_sb m_sc m_is m_os m_vn m_vc m_va m_vb m_ve m_no m_pl m_fa m_oc m_fu m_ke m_t m_f m_rs m_rt m_rf z3 m_ib m_ob m_al m_el m_vt m_vf m_vs m_nr m_ty m_pa m_fn m_md m_ms m_mr) dX8_addStep_38 rfl rfl e4 rfl ?_
      refine g_aload_n 0 (q := 40) dX8_addStep_39 rfl rfl ?_
      refine g_get (q := 43) fl_X8_34 dX8_addStep_40 rfl rfl rfl ?_
      refine g_iconst (q := 44) (v := 4) dX8_addStep_43 rfl rfl ?_
      refine g_aload_n 0 (q := 45) dX8_addStep_44 rfl rfl ?_
      refine g_get (q := 48) fl_X8_115 dX8_addStep_45 rfl rfl rfl ?_
      refine g_imul (q := 49) dX8_addStep_48 rfl ?_
      refine g_iconst (q := 50) (v := 1) dX8_addStep_49 rfl rfl ?_
      refine g_iadd (q := 51) dX8_addStep_50 rfl ?_
      refine g_iload_n 2 (q := 52) dX8_addStep_51 rfl rfl ?_
      obtain ⟨z5, e6, hf⟩ := Option.bind_eq_some_iff.mp hf
      refine g_iastore (q := 53) (h' := encM m_n m_pt m_rc m_sa m_sb m_sc m_is m_os m_vn m_vc m_va m_vb m_ve m_no m_pl m_fa m_oc m_fu m_ke m_t m_f m_rs m_rt m_rf z5 m_ib m_ob m_al m_el m_vt m_vf m_vs m_nr m_ty m_pa m_fn m_md m_ms m_mr) dX8_addStep_52 rfl rfl e6 rfl ?_
      refine g_aload_n 0 (q := 54) dX8_addStep_53 rfl rfl ?_
      refine g_get (q := 57) fl_X8_34 dX8_addStep_54 rfl rfl rfl ?_
      refine g_iconst (q := 58) (v := 4) dX8_addStep_57 rfl rfl ?_
      refine g_aload_n 0 (q := 59) dX8_addStep_58 rfl rfl ?_
      refine g_get (q := 62) fl_X8_115 dX8_addStep_59 rfl rfl rfl ?_
      refine g_imul (q := 63) dX8_addStep_62 rfl ?_
      refine g_iconst (q := 64) (v := 2) dX8_addStep_63 rfl rfl ?_
      refine g_iadd (q := 65) dX8_addStep_64 rfl ?_
      refine g_iload_n 3 (q := 66) dX8_addStep_65 rfl rfl ?_
      obtain ⟨z7, e8, hf⟩ := Option.bind_eq_some_iff.mp hf
      refine g_iastore (q := 67) (h' := encM m_n m_pt m_rc m_sa m_sb m_sc m_is m_os m_vn m_vc m_va m_vb m_ve m_no m_pl m_fa m_oc m_fu m_ke m_t m_f m_rs m_rt m_rf z7 m_ib m_ob m_al m_el m_vt m_vf m_vs m_nr m_ty m_pa m_fn m_md m_ms m_mr) dX8_addStep_66 rfl rfl e8 rfl ?_
      refine g_aload_n 0 (q := 68) dX8_addStep_67 rfl rfl ?_
      refine g_get (q := 71) fl_X8_34 dX8_addStep_68 rfl rfl rfl ?_
      refine g_iconst (q := 72) (v := 4) dX8_addStep_71 rfl rfl ?_
      refine g_aload_n 0 (q := 73) dX8_addStep_72 rfl rfl ?_
      refine g_get (q := 76) fl_X8_115 dX8_addStep_73 rfl rfl rfl ?_
      refine g_imul (q := 77) dX8_addStep_76 rfl ?_
      refine g_iconst (q := 78) (v := 3) dX8_addStep_77 rfl rfl ?_
      refine g_iadd (q := 79) dX8_addStep_78 rfl ?_
      refine g_iload 4 (q := 81) dX8_addStep_79 rfl rfl ?_
      obtain ⟨z9, e10, hf⟩ := Option.bind_eq_some_iff.mp hf
      refine g_iastore (q := 82) (h' := encM m_n m_pt m_rc m_sa m_sb m_sc m_is m_os m_vn m_vc m_va m_vb m_ve m_no m_pl m_fa m_oc m_fu m_ke m_t m_f m_rs m_rt m_rf z9 m_ib m_ob m_al m_el m_vt m_vf m_vs m_nr m_ty m_pa m_fn m_md m_ms m_mr) dX8_addStep_81 rfl rfl e10 rfl ?_
      refine g_aload_n 0 (q := 83) dX8_addStep_82 rfl rfl ?_
      refine g_dup (q := 84) dX8_addStep_83 rfl rfl ?_
      refine g_get (q := 87) fl_X8_115 dX8_addStep_84 rfl rfl rfl ?_
      refine g_iconst (q := 88) (v := 1) dX8_addStep_87 rfl rfl ?_
      refine g_iadd (q := 89) dX8_addStep_88 rfl ?_
      refine g_put (q := 92) (h' := encM m_n m_pt m_rc m_sa m_sb (m_sc + 1) m_is m_os m_vn m_vc m_va m_vb m_ve m_no m_pl m_fa m_oc m_fu m_ke m_t m_f m_rs m_rt m_rf z9 m_ib m_ob m_al m_el m_vt m_vf m_vs m_nr m_ty m_pa m_fn m_md m_ms m_mr) fp_X8_115 dX8_addStep_89 rfl rfl (Nat.le_of_ble_eq_true rfl) (fun _ => ⟨rfl, rfl⟩) rfl ?_
      refine g_aload_n 0 (q := 93) dX8_addStep_92 rfl rfl ?_
      refine g_get (q := 96) fl_X8_115 dX8_addStep_93 rfl rfl rfl ?_
      have hf := Option.some.inj hf
      subst hf
      exact g_ireturn dX8_addStep_96 rfl ⟨rfl, rfl⟩
    · rw [if_pos c2] at hf
      refine g_bipush (q := 26) (v := (-6)) dX8_addStep_24 rfl rfl ?_
      have hf := Option.some.inj hf
      subst hf
      exact g_ireturn dX8_addStep_26 rfl ⟨rfl, rfl⟩
  · rw [if_pos c1] at hf
    refine g_bipush (q := 14) (v := (-2)) dX8_addStep_12 rfl rfl ?_
    have hf := Option.some.inj hf
    subst hf
    exact g_ireturn dX8_addStep_14 rfl ⟨rfl, rfl⟩
def f_X8_clearSteps  (m_sc : Int32) : Int32 × Int32 := (m_sc, 0)
set_option maxRecDepth 20000 in
set_option maxHeartbeats 4000000 in
theorem ev_X8_clearSteps {l : Launch} {E : tEn}  {m_n : Int32} {m_pt : Int32} {m_rc : Int32} {m_sa : Int64} {m_sb : Int64} {m_sc : Int32} {m_is : Int32} {m_os : Int32} {m_vn : Int32} {m_vc : Int32} {m_va : Int64} {m_vb : Int64} {m_ve : Int32} {m_no : Int32} {m_pl : Int32} {m_fa : Int32} {m_oc : Int32} {m_fu : Int32} {m_ke : Int32} {m_t : List Int64} {m_f : List Int32} {m_rs : List Int32} {m_rt : List Int64} {m_rf : List Int32} {m_st : List Int32} {m_ib : List Int32} {m_ob : List Int32} {m_al : List Int32} {m_el : List Int32} {m_vt : List Int64} {m_vf : List Int32} {m_vs : List Int32} {m_nr : List Int32} {m_ty : List Int32} {m_pa : List Int32} {m_fn : List Int64} {m_md : List Int64} {m_ms : List Int32} {m_mr : List Int32}  : tEv l E yX8_clearSteps cX8_clearSteps 2 (some .int) 1 0 0 [.ref 0] (encM m_n m_pt m_rc m_sa m_sb m_sc m_is m_os m_vn m_vc m_va m_vb m_ve m_no m_pl m_fa m_oc m_fu m_ke m_t m_f m_rs m_rt m_rf m_st m_ib m_ob m_al m_el m_vt m_vf m_vs m_nr m_ty m_pa m_fn m_md m_ms m_mr) (fun r h' => r = some (.int (f_X8_clearSteps m_sc).1) ∧ h' = encM m_n m_pt m_rc m_sa m_sb ((f_X8_clearSteps m_sc).2) m_is m_os m_vn m_vc m_va m_vb m_ve m_no m_pl m_fa m_oc m_fu m_ke m_t m_f m_rs m_rt m_rf m_st m_ib m_ob m_al m_el m_vt m_vf m_vs m_nr m_ty m_pa m_fn m_md m_ms m_mr) := by
  refine tEv.of (own := RX8) (ini := false) (L := [(0, .ref 0)]) (by decide +kernel) rfl (fun h9 => nomatch h9) rfl (Nat.le_of_ble_eq_true rfl) ?_
  obtain ⟨res, hf⟩ : ∃ z, f_X8_clearSteps m_sc = z := ⟨_, rfl⟩
  rw [hf]
  rw [f_X8_clearSteps] at hf
  refine g_aload_n 0 (q := 1) dX8_clearSteps_0 rfl rfl ?_
  refine g_get (q := 4) fl_X8_115 dX8_clearSteps_1 rfl rfl rfl ?_
  refine g_istore_n (q := 5) (L' := [(0, .ref 0), (1, .int m_sc)]) dX8_clearSteps_4 rfl (by decide) rfl ?_
  refine g_aload_n 0 (q := 6) dX8_clearSteps_5 rfl rfl ?_
  refine g_iconst (q := 7) (v := 0) dX8_clearSteps_6 rfl rfl ?_
  refine g_put (q := 10) (h' := encM m_n m_pt m_rc m_sa m_sb 0 m_is m_os m_vn m_vc m_va m_vb m_ve m_no m_pl m_fa m_oc m_fu m_ke m_t m_f m_rs m_rt m_rf m_st m_ib m_ob m_al m_el m_vt m_vf m_vs m_nr m_ty m_pa m_fn m_md m_ms m_mr) fp_X8_115 dX8_clearSteps_7 rfl rfl (Nat.le_of_ble_eq_true rfl) (fun _ => ⟨rfl, rfl⟩) rfl ?_
  refine g_iload_n 1 (q := 11) dX8_clearSteps_10 rfl rfl ?_
  subst hf
  exact g_ireturn dX8_clearSteps_11 rfl ⟨rfl, rfl⟩
def f_X8_execute (a0 : Int32) (m_n : Int32) (m_pt : Int32) (m_rc : Int32) (m_t : List Int64) (m_f : List Int32) (m_rs : List Int32) (m_rt : List Int64) (m_rf : List Int32) (m_st : List Int32) : Option (Int32 × Int32 × List Int64 × List Int32 × List Int32 × List Int64 × List Int32) := (tld m_st a0).bind fun r1 => (if 3 ≤ r1 then (if r1 = 3 then (tld m_st (a0 + 1)).bind fun r13 => (tld m_st (a0 + 3)).bind fun r15 => (f_X8_dual r13 r15 m_pt m_rc m_t m_f m_rs m_rt m_rf).bind fun r17 => some (r17.1, r17.2.1, r17.2.2.1, r17.2.2.2.1, r17.2.2.2.2.1, r17.2.2.2.2.2.1, r17.2.2.2.2.2.2) else (tld m_st (a0 + 1)).bind fun r5 => (tld m_st (a0 + 2)).bind fun r7 => (tld m_st (a0 + 3)).bind fun r9 => (f_X8_cofactor r5 r7 (r1 - 4) r9 m_n m_pt m_rc m_t m_f m_rs m_rt m_rf).bind fun r11 => some (r11.1, r11.2.1, r11.2.2.1, r11.2.2.2.1, r11.2.2.2.2.1, r11.2.2.2.2.2.1, r11.2.2.2.2.2.2)) else (tld m_st (a0 + 1)).bind fun r19 => (tld m_st (a0 + 2)).bind fun r21 => (tld m_st (a0 + 3)).bind fun r23 => (f_X8_combine r1 r19 r21 r23 m_pt m_rc m_t m_f m_rs m_rt m_rf).bind fun r25 => some (r25.1, r25.2.1, r25.2.2.1, r25.2.2.2.1, r25.2.2.2.2.1, r25.2.2.2.2.2.1, r25.2.2.2.2.2.2))
set_option maxRecDepth 20000 in
set_option maxHeartbeats 4000000 in
theorem ev_X8_execute {l : Launch} {E : tEn}  {m_n : Int32} {m_pt : Int32} {m_rc : Int32} {m_sa : Int64} {m_sb : Int64} {m_sc : Int32} {m_is : Int32} {m_os : Int32} {m_vn : Int32} {m_vc : Int32} {m_va : Int64} {m_vb : Int64} {m_ve : Int32} {m_no : Int32} {m_pl : Int32} {m_fa : Int32} {m_oc : Int32} {m_fu : Int32} {m_ke : Int32} {m_t : List Int64} {m_f : List Int32} {m_rs : List Int32} {m_rt : List Int64} {m_rf : List Int32} {m_st : List Int32} {m_ib : List Int32} {m_ob : List Int32} {m_al : List Int32} {m_el : List Int32} {m_vt : List Int64} {m_vf : List Int32} {m_vs : List Int32} {m_nr : List Int32} {m_ty : List Int32} {m_pa : List Int32} {m_fn : List Int64} {m_md : List Int64} {m_ms : List Int32} {m_mr : List Int32} {a0 : Int32} {res : Int32 × Int32 × List Int64 × List Int32 × List Int32 × List Int64 × List Int32} (hf : f_X8_execute a0 m_n m_pt m_rc m_t m_f m_rs m_rt m_rf m_st = some res) : tEv l E yX8_execute cX8_execute 3 (some .int) 5 0 0 [.ref 0, .int a0] (encM m_n m_pt m_rc m_sa m_sb m_sc m_is m_os m_vn m_vc m_va m_vb m_ve m_no m_pl m_fa m_oc m_fu m_ke m_t m_f m_rs m_rt m_rf m_st m_ib m_ob m_al m_el m_vt m_vf m_vs m_nr m_ty m_pa m_fn m_md m_ms m_mr) (fun r h' => r = some (.int res.1) ∧ h' = encM m_n m_pt (res.2.1) m_sa m_sb m_sc m_is m_os m_vn m_vc m_va m_vb m_ve m_no m_pl m_fa m_oc m_fu m_ke (res.2.2.1) (res.2.2.2.1) (res.2.2.2.2.1) (res.2.2.2.2.2.1) (res.2.2.2.2.2.2) m_st m_ib m_ob m_al m_el m_vt m_vf m_vs m_nr m_ty m_pa m_fn m_md m_ms m_mr) := by
  refine tEv.of (own := RX8) (ini := false) (L := [(0, .ref 0), (1, .int a0)]) (by decide +kernel) rfl (fun h9 => nomatch h9) rfl (Nat.le_of_ble_eq_true rfl) ?_
  rw [f_X8_execute] at hf
  refine g_aload_n 0 (q := 1) dX8_execute_0 rfl rfl ?_
  refine g_get (q := 4) fl_X8_34 dX8_execute_1 rfl rfl rfl ?_
  refine g_iload_n 1 (q := 5) dX8_execute_4 rfl rfl ?_
  obtain ⟨r1, e2, hf⟩ := Option.bind_eq_some_iff.mp hf
  refine g_iaload (q := 6) dX8_execute_5 rfl rfl e2 ?_
  refine g_istore_n (q := 7) (L' := [(0, .ref 0), (1, .int a0), (2, .int r1)]) dX8_execute_6 rfl (by decide) rfl ?_
  refine g_iload_n 2 (q := 8) dX8_execute_7 rfl rfl ?_
  refine g_iconst (q := 9) (v := 3) dX8_execute_8 rfl rfl ?_
  refine g_icmp_ge (t := 42) (q := 12) dX8_execute_9 (by decide) rfl (fun c3 => ?_) (fun c3 => ?_)
  · rw [if_pos c3] at hf
    refine g_iload_n 2 (q := 43) dX8_execute_42 rfl rfl ?_
    refine g_iconst (q := 44) (v := 3) dX8_execute_43 rfl rfl ?_
    refine g_icmp_ne (t := 68) (q := 47) dX8_execute_44 (by decide) rfl (fun c4 => ?_) (fun c4 => ?_)
    · rw [if_neg c4] at hf
      refine g_aload_n 0 (q := 69) dX8_execute_68 rfl rfl ?_
      refine g_aload_n 0 (q := 70) dX8_execute_69 rfl rfl ?_
      refine g_get (q := 73) fl_X8_34 dX8_execute_70 rfl rfl rfl ?_
      refine g_iload_n 1 (q := 74) dX8_execute_73 rfl rfl ?_
      refine g_iconst (q := 75) (v := 1) dX8_execute_74 rfl rfl ?_
      refine g_iadd (q := 76) dX8_execute_75 rfl ?_
      obtain ⟨r5, e6, hf⟩ := Option.bind_eq_some_iff.mp hf
      refine g_iaload (q := 77) dX8_execute_76 rfl rfl e6 ?_
      refine g_aload_n 0 (q := 78) dX8_execute_77 rfl rfl ?_
      refine g_get (q := 81) fl_X8_34 dX8_execute_78 rfl rfl rfl ?_
      refine g_iload_n 1 (q := 82) dX8_execute_81 rfl rfl ?_
      refine g_iconst (q := 83) (v := 2) dX8_execute_82 rfl rfl ?_
      refine g_iadd (q := 84) dX8_execute_83 rfl ?_
      obtain ⟨r7, e8, hf⟩ := Option.bind_eq_some_iff.mp hf
      refine g_iaload (q := 85) dX8_execute_84 rfl rfl e8 ?_
      refine g_iload_n 2 (q := 86) dX8_execute_85 rfl rfl ?_
      refine g_iconst (q := 87) (v := 4) dX8_execute_86 rfl rfl ?_
      refine g_isub (q := 88) dX8_execute_87 rfl ?_
      refine g_aload_n 0 (q := 89) dX8_execute_88 rfl rfl ?_
      refine g_get (q := 92) fl_X8_34 dX8_execute_89 rfl rfl rfl ?_
      refine g_iload_n 1 (q := 93) dX8_execute_92 rfl rfl ?_
      refine g_iconst (q := 94) (v := 3) dX8_execute_93 rfl rfl ?_
      refine g_iadd (q := 95) dX8_execute_94 rfl ?_
      obtain ⟨r9, e10, hf⟩ := Option.bind_eq_some_iff.mp hf
      refine g_iaload (q := 96) dX8_execute_95 rfl rfl e10 ?_
      obtain ⟨r11, e12, hf⟩ := Option.bind_eq_some_iff.mp hf
      refine g_callV (a := 0) (k2 := 0) (n2 := 0) (q := 99) (as := [.int r5, .int r7, .int (r1 - 4), .int r9]) (st := []) (st1 := [.int r11.1]) tm_X8_cofactor ml_X8_304 ti_X8_cofactor rfl rfl dX8_execute_96 rfl (ev_X8_cofactor e12) rfl rfl (Nat.le_of_ble_eq_true rfl) (by decide) rfl rfl (Or.inl (encM_len.trans encM_len.symm)) rfl ?_
      have hf := Option.some.inj hf
      subst hf
      exact g_ireturn dX8_execute_99 rfl ⟨rfl, rfl⟩
    · rw [if_pos c4] at hf
      refine g_aload_n 0 (q := 48) dX8_execute_47 rfl rfl ?_
      refine g_aload_n 0 (q := 49) dX8_execute_48 rfl rfl ?_
      refine g_get (q := 52) fl_X8_34 dX8_execute_49 rfl rfl rfl ?_
      refine g_iload_n 1 (q := 53) dX8_execute_52 rfl rfl ?_
      refine g_iconst (q := 54) (v := 1) dX8_execute_53 rfl rfl ?_
      refine g_iadd (q := 55) dX8_execute_54 rfl ?_
      obtain ⟨r13, e14, hf⟩ := Option.bind_eq_some_iff.mp hf
      refine g_iaload (q := 56) dX8_execute_55 rfl rfl e14 ?_
      refine g_aload_n 0 (q := 57) dX8_execute_56 rfl rfl ?_
      refine g_get (q := 60) fl_X8_34 dX8_execute_57 rfl rfl rfl ?_
      refine g_iload_n 1 (q := 61) dX8_execute_60 rfl rfl ?_
      refine g_iconst (q := 62) (v := 3) dX8_execute_61 rfl rfl ?_
      refine g_iadd (q := 63) dX8_execute_62 rfl ?_
      obtain ⟨r15, e16, hf⟩ := Option.bind_eq_some_iff.mp hf
      refine g_iaload (q := 64) dX8_execute_63 rfl rfl e16 ?_
      obtain ⟨r17, e18, hf⟩ := Option.bind_eq_some_iff.mp hf
      refine g_callV (a := 0) (k2 := 0) (n2 := 0) (q := 67) (as := [.int r13, .int r15]) (st := []) (st1 := [.int r17.1]) tm_X8_dual ml_X8_300 ti_X8_dual rfl rfl dX8_execute_64 rfl (ev_X8_dual e18) rfl rfl (Nat.le_of_ble_eq_true rfl) (by decide) rfl rfl (Or.inl (encM_len.trans encM_len.symm)) rfl ?_
      have hf := Option.some.inj hf
      subst hf
      exact g_ireturn dX8_execute_67 rfl ⟨rfl, rfl⟩
  · rw [if_neg c3] at hf
    refine g_aload_n 0 (q := 13) dX8_execute_12 rfl rfl ?_
    refine g_iload_n 2 (q := 14) dX8_execute_13 rfl rfl ?_
    refine g_aload_n 0 (q := 15) dX8_execute_14 rfl rfl ?_
    refine g_get (q := 18) fl_X8_34 dX8_execute_15 rfl rfl rfl ?_
    refine g_iload_n 1 (q := 19) dX8_execute_18 rfl rfl ?_
    refine g_iconst (q := 20) (v := 1) dX8_execute_19 rfl rfl ?_
    refine g_iadd (q := 21) dX8_execute_20 rfl ?_
    obtain ⟨r19, e20, hf⟩ := Option.bind_eq_some_iff.mp hf
    refine g_iaload (q := 22) dX8_execute_21 rfl rfl e20 ?_
    refine g_aload_n 0 (q := 23) dX8_execute_22 rfl rfl ?_
    refine g_get (q := 26) fl_X8_34 dX8_execute_23 rfl rfl rfl ?_
    refine g_iload_n 1 (q := 27) dX8_execute_26 rfl rfl ?_
    refine g_iconst (q := 28) (v := 2) dX8_execute_27 rfl rfl ?_
    refine g_iadd (q := 29) dX8_execute_28 rfl ?_
    obtain ⟨r21, e22, hf⟩ := Option.bind_eq_some_iff.mp hf
    refine g_iaload (q := 30) dX8_execute_29 rfl rfl e22 ?_
    refine g_aload_n 0 (q := 31) dX8_execute_30 rfl rfl ?_
    refine g_get (q := 34) fl_X8_34 dX8_execute_31 rfl rfl rfl ?_
    refine g_iload_n 1 (q := 35) dX8_execute_34 rfl rfl ?_
    refine g_iconst (q := 36) (v := 3) dX8_execute_35 rfl rfl ?_
    refine g_iadd (q := 37) dX8_execute_36 rfl ?_
    obtain ⟨r23, e24, hf⟩ := Option.bind_eq_some_iff.mp hf
    refine g_iaload (q := 38) dX8_execute_37 rfl rfl e24 ?_
    obtain ⟨r25, e26, hf⟩ := Option.bind_eq_some_iff.mp hf
    refine g_callV (a := 0) (k2 := 0) (n2 := 0) (q := 41) (as := [.int r1, .int r19, .int r21, .int r23]) (st := []) (st1 := [.int r25.1]) tm_X8_combine ml_X8_296 ti_X8_combine rfl rfl dX8_execute_38 rfl (ev_X8_combine e26) rfl rfl (Nat.le_of_ble_eq_true rfl) (by decide) rfl rfl (Or.inl (encM_len.trans encM_len.symm)) rfl ?_
    have hf := Option.some.inj hf
    subst hf
    exact g_ireturn dX8_execute_41 rfl ⟨rfl, rfl⟩
def f_X8_runSteps_L4 (m_n : Int32) (m_pt : Int32) (m_sc : Int32) (m_st : List Int32) (K : Int32 → Int32 → List Int64 → List Int32 → List Int32 → List Int64 → List Int32 → Option (Int32 × Int32 × List Int64 × List Int32 × List Int32 × List Int64 × List Int32)) : Nat → Int32 → Int32 → Int32 → List Int64 → List Int32 → List Int32 → List Int64 → List Int32 → Option (Int32 × Int32 × List Int64 × List Int32 × List Int32 × List Int64 × List Int32)
  | 0, _, _, _, _, _, _, _, _ => none
  | fu + 1, v1, v2, m_rc, m_t, m_f, m_rs, m_rt, m_rf => (if m_sc ≤ v2 then K v1 m_rc m_t m_f m_rs m_rt m_rf else (f_X8_execute (4 * v2) m_n m_pt m_rc m_t m_f m_rs m_rt m_rf m_st).bind fun r2 => (if r2.1 < 0 then f_X8_runSteps_L4 m_n m_pt m_sc m_st K fu (v1 + 0) (v2 + 1) (r2.2.1) (r2.2.2.1) (r2.2.2.2.1) (r2.2.2.2.2.1) (r2.2.2.2.2.2.1) (r2.2.2.2.2.2.2) else f_X8_runSteps_L4 m_n m_pt m_sc m_st K fu (v1 + 1) (v2 + 1) (r2.2.1) (r2.2.2.1) (r2.2.2.2.1) (r2.2.2.2.2.1) (r2.2.2.2.2.2.1) (r2.2.2.2.2.2.2)))
def f_X8_runSteps  (m_n : Int32) (m_pt : Int32) (m_rc : Int32) (m_sc : Int32) (m_t : List Int64) (m_f : List Int32) (m_rs : List Int32) (m_rt : List Int64) (m_rf : List Int32) (m_st : List Int32) : Option (Int32 × Int32 × List Int64 × List Int32 × List Int32 × List Int64 × List Int32) := f_X8_runSteps_L4 m_n m_pt m_sc m_st (fun y5 k6 k7 k8 k9 k10 k11 => some (y5, k6, k7, k8, k9, k10, k11)) tFU 0 0 m_rc m_t m_f m_rs m_rt m_rf
set_option maxRecDepth 20000 in
set_option maxHeartbeats 4000000 in
theorem ev_X8_runSteps_L4 {l : Launch} {E : tEn}   {m_n : Int32} {m_pt : Int32} {m_sa : Int64} {m_sb : Int64} {m_sc : Int32} {m_is : Int32} {m_os : Int32} {m_vn : Int32} {m_vc : Int32} {m_va : Int64} {m_vb : Int64} {m_ve : Int32} {m_no : Int32} {m_pl : Int32} {m_fa : Int32} {m_oc : Int32} {m_fu : Int32} {m_ke : Int32} {m_st : List Int32} {m_ib : List Int32} {m_ob : List Int32} {m_al : List Int32} {m_el : List Int32} {m_vt : List Int64} {m_vf : List Int32} {m_vs : List Int32} {m_nr : List Int32} {m_ty : List Int32} {m_pa : List Int32} {m_fn : List Int64} {m_md : List Int64} {m_ms : List Int32} {m_mr : List Int32}  {K : Int32 → Int32 → List Int64 → List Int32 → List Int32 → List Int64 → List Int32 → Option (Int32 × Int32 × List Int64 × List Int32 × List Int32 × List Int64 × List Int32)} (hK : ∀ (v1 : Int32) (m_rc : Int32) (m_t : List Int64) (m_f : List Int32) (m_rs : List Int32) (m_rt : List Int64) (m_rf : List Int32) (res : Int32 × Int32 × List Int64 × List Int32 × List Int32 × List Int64 × List Int32), K v1 m_rc m_t m_f m_rs m_rt m_rf = some res → tG l E RX8 cX8_runSteps 3 (some .int) false 6 (fun r h' => r = some (.int res.1) ∧ h' = encM m_n m_pt (res.2.1) m_sa m_sb m_sc m_is m_os m_vn m_vc m_va m_vb m_ve m_no m_pl m_fa m_oc m_fu m_ke (res.2.2.1) (res.2.2.2.1) (res.2.2.2.2.1) (res.2.2.2.2.2.1) (res.2.2.2.2.2.2) m_st m_ib m_ob m_al m_el m_vt m_vf m_vs m_nr m_ty m_pa m_fn m_md m_ms m_mr) 0 0 36 [(1, .int v1)] [] (encM m_n m_pt m_rc m_sa m_sb m_sc m_is m_os m_vn m_vc m_va m_vb m_ve m_no m_pl m_fa m_oc m_fu m_ke m_t m_f m_rs m_rt m_rf m_st m_ib m_ob m_al m_el m_vt m_vf m_vs m_nr m_ty m_pa m_fn m_md m_ms m_mr)) :
    ∀ (fu : Nat) (v1 : Int32) (v2 : Int32) (m_rc : Int32) (m_t : List Int64) (m_f : List Int32) (m_rs : List Int32) (m_rt : List Int64) (m_rf : List Int32) (res : Int32 × Int32 × List Int64 × List Int32 × List Int32 × List Int64 × List Int32), f_X8_runSteps_L4 m_n m_pt m_sc m_st K fu v1 v2 m_rc m_t m_f m_rs m_rt m_rf = some res → tG l E RX8 cX8_runSteps 3 (some .int) false 6 (fun r h' => r = some (.int res.1) ∧ h' = encM m_n m_pt (res.2.1) m_sa m_sb m_sc m_is m_os m_vn m_vc m_va m_vb m_ve m_no m_pl m_fa m_oc m_fu m_ke (res.2.2.1) (res.2.2.2.1) (res.2.2.2.2.1) (res.2.2.2.2.2.1) (res.2.2.2.2.2.2) m_st m_ib m_ob m_al m_el m_vt m_vf m_vs m_nr m_ty m_pa m_fn m_md m_ms m_mr) 0 0 4 [(0, .ref 0), (1, .int v1), (2, .int v2)] [] (encM m_n m_pt m_rc m_sa m_sb m_sc m_is m_os m_vn m_vc m_va m_vb m_ve m_no m_pl m_fa m_oc m_fu m_ke m_t m_f m_rs m_rt m_rf m_st m_ib m_ob m_al m_el m_vt m_vf m_vs m_nr m_ty m_pa m_fn m_md m_ms m_mr) := by
  intro fu
  induction fu with
  | zero => intro v1 v2 m_rc m_t m_f m_rs m_rt m_rf res hf; exact nomatch (show none = some res from hf)
  | succ fu ih =>
    intro v1 v2 m_rc m_t m_f m_rs m_rt m_rf res hf
    rw [f_X8_runSteps_L4] at hf
    refine g_iload_n 2 (q := 5) dX8_runSteps_4 rfl rfl ?_
    refine g_aload_n 0 (q := 6) dX8_runSteps_5 rfl rfl ?_
    refine g_get (q := 9) fl_X8_115 dX8_runSteps_6 rfl rfl rfl ?_
    refine g_icmp_ge (t := 36) (q := 12) dX8_runSteps_9 (by decide) rfl (fun c1 => ?_) (fun c1 => ?_)
    · rw [if_pos c1] at hf
      refine g_ls [1] rfl ?_
      exact hK _ _ _ _ _ _ _ _ hf
    · rw [if_neg c1] at hf
      refine g_iload_n 1 (q := 13) dX8_runSteps_12 rfl rfl ?_
      refine g_aload_n 0 (q := 14) dX8_runSteps_13 rfl rfl ?_
      refine g_iconst (q := 15) (v := 4) dX8_runSteps_14 rfl rfl ?_
      refine g_iload_n 2 (q := 16) dX8_runSteps_15 rfl rfl ?_
      refine g_imul (q := 17) dX8_runSteps_16 rfl ?_
      obtain ⟨r2, e3, hf⟩ := Option.bind_eq_some_iff.mp hf
      refine g_callV (a := 0) (k2 := 0) (n2 := 0) (q := 20) (as := [.int (4 * v2)]) (st := [.int v1]) (st1 := [.int r2.1, .int v1]) tm_X8_execute ml_X8_307 ti_X8_execute rfl rfl dX8_runSteps_17 rfl (ev_X8_execute e3) rfl rfl (Nat.le_of_ble_eq_true rfl) (by decide) rfl rfl (Or.inl (encM_len.trans encM_len.symm)) rfl ?_
      refine g_if_lt (t := 27) (q := 23) dX8_runSteps_20 (by decide) rfl (fun c4 => ?_) (fun c4 => ?_)
      · rw [if_pos c4] at hf
        refine g_iconst (q := 28) (v := 0) dX8_runSteps_27 rfl rfl ?_
        refine g_iadd (q := 29) dX8_runSteps_28 rfl ?_
        refine g_istore_n (q := 30) (L' := [(0, .ref 0), (1, .int (v1 + 0)), (2, .int v2)]) dX8_runSteps_29 rfl (by decide) rfl ?_
        refine g_iinc 2 (q := 33) (v := (v2 + 1)) (L' := [(0, .ref 0), (1, .int (v1 + 0)), (2, .int (v2 + 1))]) dX8_runSteps_30 rfl rfl rfl (by decide) rfl ?_
        refine g_goto (t := 4) dX8_runSteps_33 (by decide) ?_
        refine g_ls [0, 1, 2] rfl ?_
        exact ih _ _ _ _ _ _ _ _ _ hf
      · rw [if_neg c4] at hf
        refine g_iconst (q := 24) (v := 1) dX8_runSteps_23 rfl rfl ?_
        refine g_goto (t := 28) dX8_runSteps_24 (by decide) ?_
        refine g_iadd (q := 29) dX8_runSteps_28 rfl ?_
        refine g_istore_n (q := 30) (L' := [(0, .ref 0), (1, .int (v1 + 1)), (2, .int v2)]) dX8_runSteps_29 rfl (by decide) rfl ?_
        refine g_iinc 2 (q := 33) (v := (v2 + 1)) (L' := [(0, .ref 0), (1, .int (v1 + 1)), (2, .int (v2 + 1))]) dX8_runSteps_30 rfl rfl rfl (by decide) rfl ?_
        refine g_goto (t := 4) dX8_runSteps_33 (by decide) ?_
        refine g_ls [0, 1, 2] rfl ?_
        exact ih _ _ _ _ _ _ _ _ _ hf
set_option maxRecDepth 20000 in
set_option maxHeartbeats 4000000 in
theorem ev_X8_runSteps {l : Launch} {E : tEn}  {m_n : Int32} {m_pt : Int32} {m_rc : Int32} {m_sa : Int64} {m_sb : Int64} {m_sc : Int32} {m_is : Int32} {m_os : Int32} {m_vn : Int32} {m_vc : Int32} {m_va : Int64} {m_vb : Int64} {m_ve : Int32} {m_no : Int32} {m_pl : Int32} {m_fa : Int32} {m_oc : Int32} {m_fu : Int32} {m_ke : Int32} {m_t : List Int64} {m_f : List Int32} {m_rs : List Int32} {m_rt : List Int64} {m_rf : List Int32} {m_st : List Int32} {m_ib : List Int32} {m_ob : List Int32} {m_al : List Int32} {m_el : List Int32} {m_vt : List Int64} {m_vf : List Int32} {m_vs : List Int32} {m_nr : List Int32} {m_ty : List Int32} {m_pa : List Int32} {m_fn : List Int64} {m_md : List Int64} {m_ms : List Int32} {m_mr : List Int32}  {res : Int32 × Int32 × List Int64 × List Int32 × List Int32 × List Int64 × List Int32} (hf : f_X8_runSteps m_n m_pt m_rc m_sc m_t m_f m_rs m_rt m_rf m_st = some res) : tEv l E yX8_runSteps cX8_runSteps 3 (some .int) 6 0 0 [.ref 0] (encM m_n m_pt m_rc m_sa m_sb m_sc m_is m_os m_vn m_vc m_va m_vb m_ve m_no m_pl m_fa m_oc m_fu m_ke m_t m_f m_rs m_rt m_rf m_st m_ib m_ob m_al m_el m_vt m_vf m_vs m_nr m_ty m_pa m_fn m_md m_ms m_mr) (fun r h' => r = some (.int res.1) ∧ h' = encM m_n m_pt (res.2.1) m_sa m_sb m_sc m_is m_os m_vn m_vc m_va m_vb m_ve m_no m_pl m_fa m_oc m_fu m_ke (res.2.2.1) (res.2.2.2.1) (res.2.2.2.2.1) (res.2.2.2.2.2.1) (res.2.2.2.2.2.2) m_st m_ib m_ob m_al m_el m_vt m_vf m_vs m_nr m_ty m_pa m_fn m_md m_ms m_mr) := by
  refine tEv.of (own := RX8) (ini := false) (L := [(0, .ref 0)]) (by decide +kernel) rfl (fun h9 => nomatch h9) rfl (Nat.le_of_ble_eq_true rfl) ?_
  rw [f_X8_runSteps] at hf
  refine g_iconst (q := 1) (v := 0) dX8_runSteps_0 rfl rfl ?_
  refine g_istore_n (q := 2) (L' := [(0, .ref 0), (1, .int 0)]) dX8_runSteps_1 rfl (by decide) rfl ?_
  refine g_iconst (q := 3) (v := 0) dX8_runSteps_2 rfl rfl ?_
  refine g_istore_n (q := 4) (L' := [(0, .ref 0), (1, .int 0), (2, .int 0)]) dX8_runSteps_3 rfl (by decide) rfl ?_
  refine g_ls [0, 1, 2] rfl ?_
  refine ev_X8_runSteps_L4 (fun y5 k6 k7 k8 k9 k10 k11 res hf => ?_) tFU _ _ _ _ _ _ _ _ res hf
  refine g_iload_n 0 (q := 37) dX8_runSteps_36 rfl rfl ?_
  have hf := Option.some.inj hf
  subst hf
  exact g_ireturn dX8_runSteps_37 rfl ⟨rfl, rfl⟩
def f_X8_undo  (m_rc : Int32) (m_t : List Int64) (m_f : List Int32) (m_rs : List Int32) (m_rt : List Int64) (m_rf : List Int32) : Option (Int32 × Int32 × List Int64 × List Int32) := (if m_rc = 0 then some ((-7), m_rc, m_t, m_f) else (tld m_rs (m_rc - 1)).bind fun r2 => (tld m_rt (m_rc - 1)).bind fun r4 => (tst m_t r2 r4).bind fun z6 => (tld m_rf (m_rc - 1)).bind fun r8 => (tst m_f r2 (vp_nar .boolean r8)).bind fun z10 => some (r2, (m_rc - 1), z6, z10))
set_option maxRecDepth 20000 in
set_option maxHeartbeats 4000000 in
theorem ev_X8_undo {l : Launch} {E : tEn}  {m_n : Int32} {m_pt : Int32} {m_rc : Int32} {m_sa : Int64} {m_sb : Int64} {m_sc : Int32} {m_is : Int32} {m_os : Int32} {m_vn : Int32} {m_vc : Int32} {m_va : Int64} {m_vb : Int64} {m_ve : Int32} {m_no : Int32} {m_pl : Int32} {m_fa : Int32} {m_oc : Int32} {m_fu : Int32} {m_ke : Int32} {m_t : List Int64} {m_f : List Int32} {m_rs : List Int32} {m_rt : List Int64} {m_rf : List Int32} {m_st : List Int32} {m_ib : List Int32} {m_ob : List Int32} {m_al : List Int32} {m_el : List Int32} {m_vt : List Int64} {m_vf : List Int32} {m_vs : List Int32} {m_nr : List Int32} {m_ty : List Int32} {m_pa : List Int32} {m_fn : List Int64} {m_md : List Int64} {m_ms : List Int32} {m_mr : List Int32}  {res : Int32 × Int32 × List Int64 × List Int32} (hf : f_X8_undo m_rc m_t m_f m_rs m_rt m_rf = some res) : tEv l E yX8_undo cX8_undo 2 (some .int) 1 0 0 [.ref 0] (encM m_n m_pt m_rc m_sa m_sb m_sc m_is m_os m_vn m_vc m_va m_vb m_ve m_no m_pl m_fa m_oc m_fu m_ke m_t m_f m_rs m_rt m_rf m_st m_ib m_ob m_al m_el m_vt m_vf m_vs m_nr m_ty m_pa m_fn m_md m_ms m_mr) (fun r h' => r = some (.int res.1) ∧ h' = encM m_n m_pt (res.2.1) m_sa m_sb m_sc m_is m_os m_vn m_vc m_va m_vb m_ve m_no m_pl m_fa m_oc m_fu m_ke (res.2.2.1) (res.2.2.2) m_rs m_rt m_rf m_st m_ib m_ob m_al m_el m_vt m_vf m_vs m_nr m_ty m_pa m_fn m_md m_ms m_mr) := by
  refine tEv.of (own := RX8) (ini := false) (L := [(0, .ref 0)]) (by decide +kernel) rfl (fun h9 => nomatch h9) rfl (Nat.le_of_ble_eq_true rfl) ?_
  rw [f_X8_undo] at hf
  refine g_aload_n 0 (q := 1) dX8_undo_0 rfl rfl ?_
  refine g_get (q := 4) fl_X8_95 dX8_undo_1 rfl rfl rfl ?_
  refine g_if_ne (t := 10) (q := 7) dX8_undo_4 (by decide) rfl (fun c1 => ?_) (fun c1 => ?_)
  · rw [if_neg c1] at hf
    refine g_aload_n 0 (q := 11) dX8_undo_10 rfl rfl ?_
    refine g_dup (q := 12) dX8_undo_11 rfl rfl ?_
    refine g_get (q := 15) fl_X8_95 dX8_undo_12 rfl rfl rfl ?_
    refine g_iconst (q := 16) (v := 1) dX8_undo_15 rfl rfl ?_
    refine g_isub (q := 17) dX8_undo_16 rfl ?_
    refine g_put (q := 20) (h' := encM m_n m_pt (m_rc - 1) m_sa m_sb m_sc m_is m_os m_vn m_vc m_va m_vb m_ve m_no m_pl m_fa m_oc m_fu m_ke m_t m_f m_rs m_rt m_rf m_st m_ib m_ob m_al m_el m_vt m_vf m_vs m_nr m_ty m_pa m_fn m_md m_ms m_mr) fp_X8_95 dX8_undo_17 rfl rfl (Nat.le_of_ble_eq_true rfl) (fun _ => ⟨rfl, rfl⟩) rfl ?_
    refine g_aload_n 0 (q := 21) dX8_undo_20 rfl rfl ?_
    refine g_get (q := 24) fl_X8_24 dX8_undo_21 rfl rfl rfl ?_
    refine g_aload_n 0 (q := 25) dX8_undo_24 rfl rfl ?_
    refine g_get (q := 28) fl_X8_95 dX8_undo_25 rfl rfl rfl ?_
    obtain ⟨r2, e3, hf⟩ := Option.bind_eq_some_iff.mp hf
    refine g_iaload (q := 29) dX8_undo_28 rfl rfl e3 ?_
    refine g_istore_n (q := 30) (L' := [(0, .ref 0), (1, .int r2)]) dX8_undo_29 rfl (by decide) rfl ?_
    refine g_aload_n 0 (q := 31) dX8_undo_30 rfl rfl ?_
    refine g_get (q := 34) fl_X8_16 dX8_undo_31 rfl rfl rfl ?_
    refine g_iload_n 1 (q := 35) dX8_undo_34 rfl rfl ?_
    refine g_aload_n 0 (q := 36) dX8_undo_35 rfl rfl ?_
    refine g_get (q := 39) fl_X8_28 dX8_undo_36 rfl rfl rfl ?_
    refine g_aload_n 0 (q := 40) dX8_undo_39 rfl rfl ?_
    refine g_get (q := 43) fl_X8_95 dX8_undo_40 rfl rfl rfl ?_
    obtain ⟨r4, e5, hf⟩ := Option.bind_eq_some_iff.mp hf
    refine g_laload (q := 44) dX8_undo_43 rfl rfl e5 ?_
    obtain ⟨z6, e7, hf⟩ := Option.bind_eq_some_iff.mp hf
    refine g_lastore (q := 45) (h' := encM m_n m_pt (m_rc - 1) m_sa m_sb m_sc m_is m_os m_vn m_vc m_va m_vb m_ve m_no m_pl m_fa m_oc m_fu m_ke z6 m_f m_rs m_rt m_rf m_st m_ib m_ob m_al m_el m_vt m_vf m_vs m_nr m_ty m_pa m_fn m_md m_ms m_mr) dX8_undo_44 rfl rfl e7 rfl ?_
    refine g_aload_n 0 (q := 46) dX8_undo_45 rfl rfl ?_
    refine g_get (q := 49) fl_X8_20 dX8_undo_46 rfl rfl rfl ?_
    refine g_iload_n 1 (q := 50) dX8_undo_49 rfl rfl ?_
    refine g_aload_n 0 (q := 51) dX8_undo_50 rfl rfl ?_
    refine g_get (q := 54) fl_X8_31 dX8_undo_51 rfl rfl rfl ?_
    refine g_aload_n 0 (q := 55) dX8_undo_54 rfl rfl ?_
    refine g_get (q := 58) fl_X8_95 dX8_undo_55 rfl rfl rfl ?_
    obtain ⟨r8, e9, hf⟩ := Option.bind_eq_some_iff.mp hf
    refine g_baload (q := 59) dX8_undo_58 rfl rfl e9 ?_
    obtain ⟨z10, e11, hf⟩ := Option.bind_eq_some_iff.mp hf
    refine g_bastore (q := 60) (h' := encM m_n m_pt (m_rc - 1) m_sa m_sb m_sc m_is m_os m_vn m_vc m_va m_vb m_ve m_no m_pl m_fa m_oc m_fu m_ke z6 z10 m_rs m_rt m_rf m_st m_ib m_ob m_al m_el m_vt m_vf m_vs m_nr m_ty m_pa m_fn m_md m_ms m_mr) dX8_undo_59 rfl rfl e11 rfl ?_
    refine g_iload_n 1 (q := 61) dX8_undo_60 rfl rfl ?_
    have hf := Option.some.inj hf
    subst hf
    exact g_ireturn dX8_undo_61 rfl ⟨rfl, rfl⟩
  · rw [if_pos c1] at hf
    refine g_bipush (q := 9) (v := (-7)) dX8_undo_7 rfl rfl ?_
    have hf := Option.some.inj hf
    subst hf
    exact g_ireturn dX8_undo_9 rfl ⟨rfl, rfl⟩
def f_X8_save_L34 (m_t : List Int64) (m_f : List Int32) (K : List Int64 → List Int32 → Option (Int32 × Int32 × Int32 × Int64 × Int64 × List Int64 × List Int32 × List Int32)) : Nat → Int32 → List Int64 → List Int32 → Option (Int32 × Int32 × Int32 × Int64 × Int64 × List Int64 × List Int32 × List Int32)
  | 0, _, _, _ => none
  | fu + 1, v1, m_vt, m_vf => (if 8 ≤ v1 then K  m_vt m_vf else (tld m_t v1).bind fun r2 => (tst m_vt v1 r2).bind fun z4 => (tld m_f v1).bind fun r6 => (tst m_vf v1 (vp_nar .boolean r6)).bind fun z8 => f_X8_save_L34 m_t m_f K fu (v1 + 1) z4 z8)
def f_X8_save_L72 (m_st : List Int32) (K : List Int32 → Option (Int32 × Int32 × Int32 × Int64 × Int64 × List Int64 × List Int32 × List Int32)) : Nat → Int32 → List Int32 → Option (Int32 × Int32 × Int32 × Int64 × Int64 × List Int64 × List Int32 × List Int32)
  | 0, _, _ => none
  | fu + 1, v1, m_vs => (if 32 ≤ v1 then K  m_vs else (tld m_st v1).bind fun r13 => (tst m_vs v1 r13).bind fun z15 => f_X8_save_L72 m_st K fu (v1 + 1) z15)
def f_X8_save  (m_n : Int32) (m_sa : Int64) (m_sb : Int64) (m_sc : Int32) (m_vn : Int32) (m_vc : Int32) (m_va : Int64) (m_vb : Int64) (m_t : List Int64) (m_f : List Int32) (m_st : List Int32) (m_vt : List Int64) (m_vf : List Int32) (m_vs : List Int32) : Option (Int32 × Int32 × Int32 × Int64 × Int64 × List Int64 × List Int32 × List Int32) := f_X8_save_L34 m_t m_f (fun k10 k11 => f_X8_save_L72 m_st (fun k17 => (f_X8_usedSlots m_f).bind fun r18 => some (r18, m_n, m_sc, m_sa, m_sb, k10, k11, k17)) tFU 0 m_vs) tFU 0 m_vt m_vf
set_option maxRecDepth 20000 in
set_option maxHeartbeats 4000000 in
theorem ev_X8_save_L34 {l : Launch} {E : tEn}   {m_n : Int32} {m_pt : Int32} {m_rc : Int32} {m_sa : Int64} {m_sb : Int64} {m_sc : Int32} {m_is : Int32} {m_os : Int32} {m_vn : Int32} {m_vc : Int32} {m_va : Int64} {m_vb : Int64} {m_ve : Int32} {m_no : Int32} {m_pl : Int32} {m_fa : Int32} {m_oc : Int32} {m_fu : Int32} {m_ke : Int32} {m_t : List Int64} {m_f : List Int32} {m_rs : List Int32} {m_rt : List Int64} {m_rf : List Int32} {m_st : List Int32} {m_ib : List Int32} {m_ob : List Int32} {m_al : List Int32} {m_el : List Int32} {m_vs : List Int32} {m_nr : List Int32} {m_ty : List Int32} {m_pa : List Int32} {m_fn : List Int64} {m_md : List Int64} {m_ms : List Int32} {m_mr : List Int32}  {K : List Int64 → List Int32 → Option (Int32 × Int32 × Int32 × Int64 × Int64 × List Int64 × List Int32 × List Int32)} (hK : ∀  (m_vt : List Int64) (m_vf : List Int32) (res : Int32 × Int32 × Int32 × Int64 × Int64 × List Int64 × List Int32 × List Int32), K m_vt m_vf = some res → tG l E RX8 cX8_save 2 (some .int) false 2 (fun r h' => r = some (.int res.1) ∧ h' = encM m_n m_pt m_rc m_sa m_sb m_sc m_is m_os (res.2.1) (res.2.2.1) (res.2.2.2.1) (res.2.2.2.2.1) m_ve m_no m_pl m_fa m_oc m_fu m_ke m_t m_f m_rs m_rt m_rf m_st m_ib m_ob m_al m_el (res.2.2.2.2.2.1) (res.2.2.2.2.2.2.1) (res.2.2.2.2.2.2.2) m_nr m_ty m_pa m_fn m_md m_ms m_mr) 0 0 70 [(0, .ref 0)] [] (encM m_n m_pt m_rc m_sa m_sb m_sc m_is m_os m_vn m_vc m_va m_vb m_ve m_no m_pl m_fa m_oc m_fu m_ke m_t m_f m_rs m_rt m_rf m_st m_ib m_ob m_al m_el m_vt m_vf m_vs m_nr m_ty m_pa m_fn m_md m_ms m_mr)) :
    ∀ (fu : Nat) (v1 : Int32) (m_vt : List Int64) (m_vf : List Int32) (res : Int32 × Int32 × Int32 × Int64 × Int64 × List Int64 × List Int32 × List Int32), f_X8_save_L34 m_t m_f K fu v1 m_vt m_vf = some res → tG l E RX8 cX8_save 2 (some .int) false 2 (fun r h' => r = some (.int res.1) ∧ h' = encM m_n m_pt m_rc m_sa m_sb m_sc m_is m_os (res.2.1) (res.2.2.1) (res.2.2.2.1) (res.2.2.2.2.1) m_ve m_no m_pl m_fa m_oc m_fu m_ke m_t m_f m_rs m_rt m_rf m_st m_ib m_ob m_al m_el (res.2.2.2.2.2.1) (res.2.2.2.2.2.2.1) (res.2.2.2.2.2.2.2) m_nr m_ty m_pa m_fn m_md m_ms m_mr) 0 0 34 [(0, .ref 0), (1, .int v1)] [] (encM m_n m_pt m_rc m_sa m_sb m_sc m_is m_os m_vn m_vc m_va m_vb m_ve m_no m_pl m_fa m_oc m_fu m_ke m_t m_f m_rs m_rt m_rf m_st m_ib m_ob m_al m_el m_vt m_vf m_vs m_nr m_ty m_pa m_fn m_md m_ms m_mr) := by
  intro fu
  induction fu with
  | zero => intro v1 m_vt m_vf res hf; exact nomatch (show none = some res from hf)
  | succ fu ih =>
    intro v1 m_vt m_vf res hf
    rw [f_X8_save_L34] at hf
    refine g_iload_n 1 (q := 35) dX8_save_34 rfl rfl ?_
    refine g_bipush (q := 37) (v := 8) dX8_save_35 rfl rfl ?_
    refine g_icmp_ge (t := 70) (q := 40) dX8_save_37 (by decide) rfl (fun c1 => ?_) (fun c1 => ?_)
    · rw [if_pos c1] at hf
      refine g_ls [0] rfl ?_
      exact hK _ _ _ hf
    · rw [if_neg c1] at hf
      refine g_aload_n 0 (q := 41) dX8_save_40 rfl rfl ?_
      refine g_get (q := 44) fl_X8_52 dX8_save_41 rfl rfl rfl ?_
      refine g_iload_n 1 (q := 45) dX8_save_44 rfl rfl ?_
      refine g_aload_n 0 (q := 46) dX8_save_45 rfl rfl ?_
      refine g_get (q := 49) fl_X8_16 dX8_save_46 rfl rfl rfl ?_
      refine g_iload_n 1 (q := 50) dX8_save_49 rfl rfl ?_
      obtain ⟨r2, e3, hf⟩ := Option.bind_eq_some_iff.mp hf
      refine g_laload (q := 51) dX8_save_50 rfl rfl e3 ?_
      obtain ⟨z4, e5, hf⟩ := Option.bind_eq_some_iff.mp hf
      refine g_lastore (q := 52) (h' := encM m_n m_pt m_rc m_sa m_sb m_sc m_is m_os m_vn m_vc m_va m_vb m_ve m_no m_pl m_fa m_oc m_fu m_ke m_t m_f m_rs m_rt m_rf m_st m_ib m_ob m_al m_el z4 m_vf m_vs m_nr m_ty m_pa m_fn m_md m_ms m_mr) dX8_save_51 rfl rfl e5 rfl ?_
      refine g_aload_n 0 (q := 53) dX8_save_52 rfl rfl ?_
      refine g_get (q := 56) fl_X8_55 dX8_save_53 rfl rfl rfl ?_
      refine g_iload_n 1 (q := 57) dX8_save_56 rfl rfl ?_
      refine g_aload_n 0 (q := 58) dX8_save_57 rfl rfl ?_
      refine g_get (q := 61) fl_X8_20 dX8_save_58 rfl rfl rfl ?_
      refine g_iload_n 1 (q := 62) dX8_save_61 rfl rfl ?_
      obtain ⟨r6, e7, hf⟩ := Option.bind_eq_some_iff.mp hf
      refine g_baload (q := 63) dX8_save_62 rfl rfl e7 ?_
      obtain ⟨z8, e9, hf⟩ := Option.bind_eq_some_iff.mp hf
      refine g_bastore (q := 64) (h' := encM m_n m_pt m_rc m_sa m_sb m_sc m_is m_os m_vn m_vc m_va m_vb m_ve m_no m_pl m_fa m_oc m_fu m_ke m_t m_f m_rs m_rt m_rf m_st m_ib m_ob m_al m_el z4 z8 m_vs m_nr m_ty m_pa m_fn m_md m_ms m_mr) dX8_save_63 rfl rfl e9 rfl ?_
      refine g_iinc 1 (q := 67) (v := (v1 + 1)) (L' := [(0, .ref 0), (1, .int (v1 + 1))]) dX8_save_64 rfl rfl rfl (by decide) rfl ?_
      refine g_goto (t := 34) dX8_save_67 (by decide) ?_
      refine g_ls [0, 1] rfl ?_
      exact ih _ _ _ _ hf
set_option maxRecDepth 20000 in
set_option maxHeartbeats 4000000 in
theorem ev_X8_save_L72 {l : Launch} {E : tEn}   {m_n : Int32} {m_pt : Int32} {m_rc : Int32} {m_sa : Int64} {m_sb : Int64} {m_sc : Int32} {m_is : Int32} {m_os : Int32} {m_vn : Int32} {m_vc : Int32} {m_va : Int64} {m_vb : Int64} {m_ve : Int32} {m_no : Int32} {m_pl : Int32} {m_fa : Int32} {m_oc : Int32} {m_fu : Int32} {m_ke : Int32} {m_t : List Int64} {m_f : List Int32} {m_rs : List Int32} {m_rt : List Int64} {m_rf : List Int32} {m_st : List Int32} {m_ib : List Int32} {m_ob : List Int32} {m_al : List Int32} {m_el : List Int32} {m_vt : List Int64} {m_vf : List Int32} {m_nr : List Int32} {m_ty : List Int32} {m_pa : List Int32} {m_fn : List Int64} {m_md : List Int64} {m_ms : List Int32} {m_mr : List Int32}  {K : List Int32 → Option (Int32 × Int32 × Int32 × Int64 × Int64 × List Int64 × List Int32 × List Int32)} (hK : ∀  (m_vs : List Int32) (res : Int32 × Int32 × Int32 × Int64 × Int64 × List Int64 × List Int32 × List Int32), K m_vs = some res → tG l E RX8 cX8_save 2 (some .int) false 2 (fun r h' => r = some (.int res.1) ∧ h' = encM m_n m_pt m_rc m_sa m_sb m_sc m_is m_os (res.2.1) (res.2.2.1) (res.2.2.2.1) (res.2.2.2.2.1) m_ve m_no m_pl m_fa m_oc m_fu m_ke m_t m_f m_rs m_rt m_rf m_st m_ib m_ob m_al m_el (res.2.2.2.2.2.1) (res.2.2.2.2.2.2.1) (res.2.2.2.2.2.2.2) m_nr m_ty m_pa m_fn m_md m_ms m_mr) 0 0 96 [(0, .ref 0)] [] (encM m_n m_pt m_rc m_sa m_sb m_sc m_is m_os m_vn m_vc m_va m_vb m_ve m_no m_pl m_fa m_oc m_fu m_ke m_t m_f m_rs m_rt m_rf m_st m_ib m_ob m_al m_el m_vt m_vf m_vs m_nr m_ty m_pa m_fn m_md m_ms m_mr)) :
    ∀ (fu : Nat) (v1 : Int32) (m_vs : List Int32) (res : Int32 × Int32 × Int32 × Int64 × Int64 × List Int64 × List Int32 × List Int32), f_X8_save_L72 m_st K fu v1 m_vs = some res → tG l E RX8 cX8_save 2 (some .int) false 2 (fun r h' => r = some (.int res.1) ∧ h' = encM m_n m_pt m_rc m_sa m_sb m_sc m_is m_os (res.2.1) (res.2.2.1) (res.2.2.2.1) (res.2.2.2.2.1) m_ve m_no m_pl m_fa m_oc m_fu m_ke m_t m_f m_rs m_rt m_rf m_st m_ib m_ob m_al m_el (res.2.2.2.2.2.1) (res.2.2.2.2.2.2.1) (res.2.2.2.2.2.2.2) m_nr m_ty m_pa m_fn m_md m_ms m_mr) 0 0 72 [(0, .ref 0), (1, .int v1)] [] (encM m_n m_pt m_rc m_sa m_sb m_sc m_is m_os m_vn m_vc m_va m_vb m_ve m_no m_pl m_fa m_oc m_fu m_ke m_t m_f m_rs m_rt m_rf m_st m_ib m_ob m_al m_el m_vt m_vf m_vs m_nr m_ty m_pa m_fn m_md m_ms m_mr) := by
  intro fu
  induction fu with
  | zero => intro v1 m_vs res hf; exact nomatch (show none = some res from hf)
  | succ fu ih =>
    intro v1 m_vs res hf
    rw [f_X8_save_L72] at hf
    refine g_iload_n 1 (q := 73) dX8_save_72 rfl rfl ?_
    refine g_bipush (q := 75) (v := 32) dX8_save_73 rfl rfl ?_
    refine g_icmp_ge (t := 96) (q := 78) dX8_save_75 (by decide) rfl (fun c12 => ?_) (fun c12 => ?_)
    · rw [if_pos c12] at hf
      refine g_ls [0] rfl ?_
      exact hK _ _ hf
    · rw [if_neg c12] at hf
      refine g_aload_n 0 (q := 79) dX8_save_78 rfl rfl ?_
      refine g_get (q := 82) fl_X8_58 dX8_save_79 rfl rfl rfl ?_
      refine g_iload_n 1 (q := 83) dX8_save_82 rfl rfl ?_
      refine g_aload_n 0 (q := 84) dX8_save_83 rfl rfl ?_
      refine g_get (q := 87) fl_X8_34 dX8_save_84 rfl rfl rfl ?_
      refine g_iload_n 1 (q := 88) dX8_save_87 rfl rfl ?_
      obtain ⟨r13, e14, hf⟩ := Option.bind_eq_some_iff.mp hf
      refine g_iaload (q := 89) dX8_save_88 rfl rfl e14 ?_
      obtain ⟨z15, e16, hf⟩ := Option.bind_eq_some_iff.mp hf
      refine g_iastore (q := 90) (h' := encM m_n m_pt m_rc m_sa m_sb m_sc m_is m_os m_vn m_vc m_va m_vb m_ve m_no m_pl m_fa m_oc m_fu m_ke m_t m_f m_rs m_rt m_rf m_st m_ib m_ob m_al m_el m_vt m_vf z15 m_nr m_ty m_pa m_fn m_md m_ms m_mr) dX8_save_89 rfl rfl e16 rfl ?_
      refine g_iinc 1 (q := 93) (v := (v1 + 1)) (L' := [(0, .ref 0), (1, .int (v1 + 1))]) dX8_save_90 rfl rfl rfl (by decide) rfl ?_
      refine g_goto (t := 72) dX8_save_93 (by decide) ?_
      refine g_ls [0, 1] rfl ?_
      exact ih _ _ _ hf
set_option maxRecDepth 20000 in
set_option maxHeartbeats 4000000 in
theorem ev_X8_save {l : Launch} {E : tEn}  {m_n : Int32} {m_pt : Int32} {m_rc : Int32} {m_sa : Int64} {m_sb : Int64} {m_sc : Int32} {m_is : Int32} {m_os : Int32} {m_vn : Int32} {m_vc : Int32} {m_va : Int64} {m_vb : Int64} {m_ve : Int32} {m_no : Int32} {m_pl : Int32} {m_fa : Int32} {m_oc : Int32} {m_fu : Int32} {m_ke : Int32} {m_t : List Int64} {m_f : List Int32} {m_rs : List Int32} {m_rt : List Int64} {m_rf : List Int32} {m_st : List Int32} {m_ib : List Int32} {m_ob : List Int32} {m_al : List Int32} {m_el : List Int32} {m_vt : List Int64} {m_vf : List Int32} {m_vs : List Int32} {m_nr : List Int32} {m_ty : List Int32} {m_pa : List Int32} {m_fn : List Int64} {m_md : List Int64} {m_ms : List Int32} {m_mr : List Int32}  {res : Int32 × Int32 × Int32 × Int64 × Int64 × List Int64 × List Int32 × List Int32} (hf : f_X8_save m_n m_sa m_sb m_sc m_vn m_vc m_va m_vb m_t m_f m_st m_vt m_vf m_vs = some res) : tEv l E yX8_save cX8_save 2 (some .int) 2 0 0 [.ref 0] (encM m_n m_pt m_rc m_sa m_sb m_sc m_is m_os m_vn m_vc m_va m_vb m_ve m_no m_pl m_fa m_oc m_fu m_ke m_t m_f m_rs m_rt m_rf m_st m_ib m_ob m_al m_el m_vt m_vf m_vs m_nr m_ty m_pa m_fn m_md m_ms m_mr) (fun r h' => r = some (.int res.1) ∧ h' = encM m_n m_pt m_rc m_sa m_sb m_sc m_is m_os (res.2.1) (res.2.2.1) (res.2.2.2.1) (res.2.2.2.2.1) m_ve m_no m_pl m_fa m_oc m_fu m_ke m_t m_f m_rs m_rt m_rf m_st m_ib m_ob m_al m_el (res.2.2.2.2.2.1) (res.2.2.2.2.2.2.1) (res.2.2.2.2.2.2.2) m_nr m_ty m_pa m_fn m_md m_ms m_mr) := by
  refine tEv.of (own := RX8) (ini := false) (L := [(0, .ref 0)]) (by decide +kernel) rfl (fun h9 => nomatch h9) rfl (Nat.le_of_ble_eq_true rfl) ?_
  rw [f_X8_save] at hf
  refine g_aload_n 0 (q := 1) dX8_save_0 rfl rfl ?_
  refine g_aload_n 0 (q := 2) dX8_save_1 rfl rfl ?_
  refine g_get (q := 5) fl_X8_7 dX8_save_2 rfl rfl rfl ?_
  refine g_put (q := 8) (h' := encM m_n m_pt m_rc m_sa m_sb m_sc m_is m_os m_n m_vc m_va m_vb m_ve m_no m_pl m_fa m_oc m_fu m_ke m_t m_f m_rs m_rt m_rf m_st m_ib m_ob m_al m_el m_vt m_vf m_vs m_nr m_ty m_pa m_fn m_md m_ms m_mr) fp_X8_49 dX8_save_5 rfl rfl (Nat.le_of_ble_eq_true rfl) (fun _ => ⟨rfl, rfl⟩) rfl ?_
  refine g_aload_n 0 (q := 9) dX8_save_8 rfl rfl ?_
  refine g_aload_n 0 (q := 10) dX8_save_9 rfl rfl ?_
  refine g_get (q := 13) fl_X8_115 dX8_save_10 rfl rfl rfl ?_
  refine g_put (q := 16) (h' := encM m_n m_pt m_rc m_sa m_sb m_sc m_is m_os m_n m_sc m_va m_vb m_ve m_no m_pl m_fa m_oc m_fu m_ke m_t m_f m_rs m_rt m_rf m_st m_ib m_ob m_al m_el m_vt m_vf m_vs m_nr m_ty m_pa m_fn m_md m_ms m_mr) fp_X8_310 dX8_save_13 rfl rfl (Nat.le_of_ble_eq_true rfl) (fun _ => ⟨rfl, rfl⟩) rfl ?_
  refine g_aload_n 0 (q := 17) dX8_save_16 rfl rfl ?_
  refine g_aload_n 0 (q := 18) dX8_save_17 rfl rfl ?_
  refine g_get (q := 21) fl_X8_108 dX8_save_18 rfl rfl rfl ?_
  refine g_put (q := 24) (h' := encM m_n m_pt m_rc m_sa m_sb m_sc m_is m_os m_n m_sc m_sa m_vb m_ve m_no m_pl m_fa m_oc m_fu m_ke m_t m_f m_rs m_rt m_rf m_st m_ib m_ob m_al m_el m_vt m_vf m_vs m_nr m_ty m_pa m_fn m_md m_ms m_mr) fp_X8_313 dX8_save_21 rfl rfl (Nat.le_of_ble_eq_true rfl) (fun _ => ⟨rfl, rfl⟩) rfl ?_
  refine g_aload_n 0 (q := 25) dX8_save_24 rfl rfl ?_
  refine g_aload_n 0 (q := 26) dX8_save_25 rfl rfl ?_
  refine g_get (q := 29) fl_X8_112 dX8_save_26 rfl rfl rfl ?_
  refine g_put (q := 32) (h' := encM m_n m_pt m_rc m_sa m_sb m_sc m_is m_os m_n m_sc m_sa m_sb m_ve m_no m_pl m_fa m_oc m_fu m_ke m_t m_f m_rs m_rt m_rf m_st m_ib m_ob m_al m_el m_vt m_vf m_vs m_nr m_ty m_pa m_fn m_md m_ms m_mr) fp_X8_316 dX8_save_29 rfl rfl (Nat.le_of_ble_eq_true rfl) (fun _ => ⟨rfl, rfl⟩) rfl ?_
  refine g_iconst (q := 33) (v := 0) dX8_save_32 rfl rfl ?_
  refine g_istore_n (q := 34) (L' := [(0, .ref 0), (1, .int 0)]) dX8_save_33 rfl (by decide) rfl ?_
  refine g_ls [0, 1] rfl ?_
  refine ev_X8_save_L34 (fun k10 k11 res hf => ?_) tFU _ _ _ res hf
  refine g_iconst (q := 71) (v := 0) dX8_save_70 rfl rfl ?_
  refine g_istore_n (q := 72) (L' := [(0, .ref 0), (1, .int 0)]) dX8_save_71 rfl (by decide) rfl ?_
  refine g_ls [0, 1] rfl ?_
  refine ev_X8_save_L72 (fun k17 res hf => ?_) tFU _ _ res hf
  refine g_aload_n 0 (q := 97) dX8_save_96 rfl rfl ?_
  obtain ⟨r18, e19, hf⟩ := Option.bind_eq_some_iff.mp hf
  refine g_callV (a := 0) (k2 := 0) (n2 := 0) (q := 100) (as := []) (st := []) (st1 := [.int r18]) tm_X8_usedSlots ml_X8_130 ti_X8_usedSlots rfl rfl dX8_save_97 rfl (ev_X8_usedSlots e19) rfl rfl (Nat.le_of_ble_eq_true rfl) (by decide) rfl rfl (Or.inl rfl) rfl ?_
  have hf := Option.some.inj hf
  subst hf
  exact g_ireturn dX8_save_100 rfl ⟨rfl, rfl⟩
def f_X8_restore_L62 (m_vt : List Int64) (m_vf : List Int32) (K : List Int64 → List Int32 → Option (Int32 × Int32 × Int32 × Int32 × Int64 × Int64 × Int32 × Int32 × Int32 × List Int64 × List Int32 × List Int32 × List Int64 × List Int64 × List Int32 × List Int32)) : Nat → Int32 → List Int64 → List Int32 → Option (Int32 × Int32 × Int32 × Int32 × Int64 × Int64 × Int32 × Int32 × Int32 × List Int64 × List Int32 × List Int32 × List Int64 × List Int64 × List Int32 × List Int32)
  | 0, _, _, _ => none
  | fu + 1, v1, m_t, m_f => (if 8 ≤ v1 then K  m_t m_f else (tld m_vt v1).bind fun r4 => (tst m_t v1 r4).bind fun z6 => (tld m_vf v1).bind fun r8 => (tst m_f v1 (vp_nar .boolean r8)).bind fun z10 => f_X8_restore_L62 m_vt m_vf K fu (v1 + 1) z6 z10)
def f_X8_restore_L100 (m_vs : List Int32) (K : List Int32 → Option (Int32 × Int32 × Int32 × Int32 × Int64 × Int64 × Int32 × Int32 × Int32 × List Int64 × List Int32 × List Int32 × List Int64 × List Int64 × List Int32 × List Int32)) : Nat → Int32 → List Int32 → Option (Int32 × Int32 × Int32 × Int32 × Int64 × Int64 × Int32 × Int32 × Int32 × List Int64 × List Int32 × List Int32 × List Int64 × List Int64 × List Int32 × List Int32)
  | 0, _, _ => none
  | fu + 1, v1, m_st => (if 32 ≤ v1 then K  m_st else (tld m_vs v1).bind fun r15 => (tst m_st v1 r15).bind fun z17 => f_X8_restore_L100 m_vs K fu (v1 + 1) z17)
def f_X8_restore  (m_n : Int32) (m_pt : Int32) (m_rc : Int32) (m_sa : Int64) (m_sb : Int64) (m_sc : Int32) (m_vn : Int32) (m_vc : Int32) (m_va : Int64) (m_vb : Int64) (m_fu : Int32) (m_ke : Int32) (m_t : List Int64) (m_f : List Int32) (m_st : List Int32) (m_vt : List Int64) (m_vf : List Int32) (m_vs : List Int32) (m_fn : List Int64) (m_md : List Int64) (m_ms : List Int32) (m_mr : List Int32) : Option (Int32 × Int32 × Int32 × Int32 × Int64 × Int64 × Int32 × Int32 × Int32 × List Int64 × List Int32 × List Int32 × List Int64 × List Int64 × List Int32 × List Int32) := (if m_vn = (-1) then some ((-7), m_n, m_pt, m_rc, m_sa, m_sb, m_sc, m_fu, m_ke, m_t, m_f, m_st, m_fn, m_md, m_ms, m_mr) else (if m_vn = m_n then f_X8_restore_L62 m_vt m_vf (fun k12 k13 => f_X8_restore_L100 m_vs (fun k19 => (f_X8_usedSlots k13).bind fun r20 => some (r20, m_n, m_pt, 0, m_va, m_vb, m_vc, m_fu, m_ke, k12, k13, k19, m_fn, m_md, m_ms, m_mr)) tFU 0 m_st) tFU 0 m_t m_f else (f_X8_setVariables m_vn m_n m_pt m_rc m_sa m_sb m_sc m_fu m_ke m_f m_fn m_md m_ms m_mr).bind fun r22 => f_X8_restore_L62 m_vt m_vf (fun k24 k25 => f_X8_restore_L100 m_vs (fun k26 => (f_X8_usedSlots k25).bind fun r27 => some (r27, r22.2.1, r22.2.2.1, 0, m_va, m_vb, m_vc, r22.2.2.2.2.2.2.2.1, r22.2.2.2.2.2.2.2.2.1, k24, k25, k26, r22.2.2.2.2.2.2.2.2.2.2.1, r22.2.2.2.2.2.2.2.2.2.2.2.1, r22.2.2.2.2.2.2.2.2.2.2.2.2.1, r22.2.2.2.2.2.2.2.2.2.2.2.2.2)) tFU 0 m_st) tFU 0 m_t (r22.2.2.2.2.2.2.2.2.2.1)))
set_option maxRecDepth 20000 in
set_option maxHeartbeats 4000000 in
theorem ev_X8_restore_L62 {l : Launch} {E : tEn}   {m_n : Int32} {m_pt : Int32} {m_rc : Int32} {m_sa : Int64} {m_sb : Int64} {m_sc : Int32} {m_is : Int32} {m_os : Int32} {m_vn : Int32} {m_vc : Int32} {m_va : Int64} {m_vb : Int64} {m_ve : Int32} {m_no : Int32} {m_pl : Int32} {m_fa : Int32} {m_oc : Int32} {m_fu : Int32} {m_ke : Int32} {m_rs : List Int32} {m_rt : List Int64} {m_rf : List Int32} {m_st : List Int32} {m_ib : List Int32} {m_ob : List Int32} {m_al : List Int32} {m_el : List Int32} {m_vt : List Int64} {m_vf : List Int32} {m_vs : List Int32} {m_nr : List Int32} {m_ty : List Int32} {m_pa : List Int32} {m_fn : List Int64} {m_md : List Int64} {m_ms : List Int32} {m_mr : List Int32}  {K : List Int64 → List Int32 → Option (Int32 × Int32 × Int32 × Int32 × Int64 × Int64 × Int32 × Int32 × Int32 × List Int64 × List Int32 × List Int32 × List Int64 × List Int64 × List Int32 × List Int32)} (hK : ∀  (m_t : List Int64) (m_f : List Int32) (res : Int32 × Int32 × Int32 × Int32 × Int64 × Int64 × Int32 × Int32 × Int32 × List Int64 × List Int32 × List Int32 × List Int64 × List Int64 × List Int32 × List Int32), K m_t m_f = some res → tG l E RX8 cX8_restore 2 (some .int) false 5 (fun r h' => r = some (.int res.1) ∧ h' = encM (res.2.1) (res.2.2.1) (res.2.2.2.1) (res.2.2.2.2.1) (res.2.2.2.2.2.1) (res.2.2.2.2.2.2.1) m_is m_os m_vn m_vc m_va m_vb m_ve m_no m_pl m_fa m_oc (res.2.2.2.2.2.2.2.1) (res.2.2.2.2.2.2.2.2.1) (res.2.2.2.2.2.2.2.2.2.1) (res.2.2.2.2.2.2.2.2.2.2.1) m_rs m_rt m_rf (res.2.2.2.2.2.2.2.2.2.2.2.1) m_ib m_ob m_al m_el m_vt m_vf m_vs m_nr m_ty m_pa (res.2.2.2.2.2.2.2.2.2.2.2.2.1) (res.2.2.2.2.2.2.2.2.2.2.2.2.2.1) (res.2.2.2.2.2.2.2.2.2.2.2.2.2.2.1) (res.2.2.2.2.2.2.2.2.2.2.2.2.2.2.2)) 0 0 98 [(0, .ref 0)] [] (encM m_n m_pt m_rc m_sa m_sb m_sc m_is m_os m_vn m_vc m_va m_vb m_ve m_no m_pl m_fa m_oc m_fu m_ke m_t m_f m_rs m_rt m_rf m_st m_ib m_ob m_al m_el m_vt m_vf m_vs m_nr m_ty m_pa m_fn m_md m_ms m_mr)) :
    ∀ (fu : Nat) (v1 : Int32) (m_t : List Int64) (m_f : List Int32) (res : Int32 × Int32 × Int32 × Int32 × Int64 × Int64 × Int32 × Int32 × Int32 × List Int64 × List Int32 × List Int32 × List Int64 × List Int64 × List Int32 × List Int32), f_X8_restore_L62 m_vt m_vf K fu v1 m_t m_f = some res → tG l E RX8 cX8_restore 2 (some .int) false 5 (fun r h' => r = some (.int res.1) ∧ h' = encM (res.2.1) (res.2.2.1) (res.2.2.2.1) (res.2.2.2.2.1) (res.2.2.2.2.2.1) (res.2.2.2.2.2.2.1) m_is m_os m_vn m_vc m_va m_vb m_ve m_no m_pl m_fa m_oc (res.2.2.2.2.2.2.2.1) (res.2.2.2.2.2.2.2.2.1) (res.2.2.2.2.2.2.2.2.2.1) (res.2.2.2.2.2.2.2.2.2.2.1) m_rs m_rt m_rf (res.2.2.2.2.2.2.2.2.2.2.2.1) m_ib m_ob m_al m_el m_vt m_vf m_vs m_nr m_ty m_pa (res.2.2.2.2.2.2.2.2.2.2.2.2.1) (res.2.2.2.2.2.2.2.2.2.2.2.2.2.1) (res.2.2.2.2.2.2.2.2.2.2.2.2.2.2.1) (res.2.2.2.2.2.2.2.2.2.2.2.2.2.2.2)) 0 0 62 [(0, .ref 0), (1, .int v1)] [] (encM m_n m_pt m_rc m_sa m_sb m_sc m_is m_os m_vn m_vc m_va m_vb m_ve m_no m_pl m_fa m_oc m_fu m_ke m_t m_f m_rs m_rt m_rf m_st m_ib m_ob m_al m_el m_vt m_vf m_vs m_nr m_ty m_pa m_fn m_md m_ms m_mr) := by
  intro fu
  induction fu with
  | zero => intro v1 m_t m_f res hf; exact nomatch (show none = some res from hf)
  | succ fu ih =>
    intro v1 m_t m_f res hf
    rw [f_X8_restore_L62] at hf
    refine g_iload_n 1 (q := 63) dX8_restore_62 rfl rfl ?_
    refine g_bipush (q := 65) (v := 8) dX8_restore_63 rfl rfl ?_
    refine g_icmp_ge (t := 98) (q := 68) dX8_restore_65 (by decide) rfl (fun c3 => ?_) (fun c3 => ?_)
    · rw [if_pos c3] at hf
      refine g_ls [0] rfl ?_
      exact hK _ _ _ hf
    · rw [if_neg c3] at hf
      refine g_aload_n 0 (q := 69) dX8_restore_68 rfl rfl ?_
      refine g_get (q := 72) fl_X8_16 dX8_restore_69 rfl rfl rfl ?_
      refine g_iload_n 1 (q := 73) dX8_restore_72 rfl rfl ?_
      refine g_aload_n 0 (q := 74) dX8_restore_73 rfl rfl ?_
      refine g_get (q := 77) fl_X8_52 dX8_restore_74 rfl rfl rfl ?_
      refine g_iload_n 1 (q := 78) dX8_restore_77 rfl rfl ?_
      obtain ⟨r4, e5, hf⟩ := Option.bind_eq_some_iff.mp hf
      refine g_laload (q := 79) dX8_restore_78 rfl rfl e5 ?_
      obtain ⟨z6, e7, hf⟩ := Option.bind_eq_some_iff.mp hf
      refine g_lastore (q := 80) (h' := encM m_n m_pt m_rc m_sa m_sb m_sc m_is m_os m_vn m_vc m_va m_vb m_ve m_no m_pl m_fa m_oc m_fu m_ke z6 m_f m_rs m_rt m_rf m_st m_ib m_ob m_al m_el m_vt m_vf m_vs m_nr m_ty m_pa m_fn m_md m_ms m_mr) dX8_restore_79 rfl rfl e7 rfl ?_
      refine g_aload_n 0 (q := 81) dX8_restore_80 rfl rfl ?_
      refine g_get (q := 84) fl_X8_20 dX8_restore_81 rfl rfl rfl ?_
      refine g_iload_n 1 (q := 85) dX8_restore_84 rfl rfl ?_
      refine g_aload_n 0 (q := 86) dX8_restore_85 rfl rfl ?_
      refine g_get (q := 89) fl_X8_55 dX8_restore_86 rfl rfl rfl ?_
      refine g_iload_n 1 (q := 90) dX8_restore_89 rfl rfl ?_
      obtain ⟨r8, e9, hf⟩ := Option.bind_eq_some_iff.mp hf
      refine g_baload (q := 91) dX8_restore_90 rfl rfl e9 ?_
      obtain ⟨z10, e11, hf⟩ := Option.bind_eq_some_iff.mp hf
      refine g_bastore (q := 92) (h' := encM m_n m_pt m_rc m_sa m_sb m_sc m_is m_os m_vn m_vc m_va m_vb m_ve m_no m_pl m_fa m_oc m_fu m_ke z6 z10 m_rs m_rt m_rf m_st m_ib m_ob m_al m_el m_vt m_vf m_vs m_nr m_ty m_pa m_fn m_md m_ms m_mr) dX8_restore_91 rfl rfl e11 rfl ?_
      refine g_iinc 1 (q := 95) (v := (v1 + 1)) (L' := [(0, .ref 0), (1, .int (v1 + 1))]) dX8_restore_92 rfl rfl rfl (by decide) rfl ?_
      refine g_goto (t := 62) dX8_restore_95 (by decide) ?_
      refine g_ls [0, 1] rfl ?_
      exact ih _ _ _ _ hf
set_option maxRecDepth 20000 in
set_option maxHeartbeats 4000000 in
theorem ev_X8_restore_L100 {l : Launch} {E : tEn}   {m_n : Int32} {m_pt : Int32} {m_rc : Int32} {m_sa : Int64} {m_sb : Int64} {m_sc : Int32} {m_is : Int32} {m_os : Int32} {m_vn : Int32} {m_vc : Int32} {m_va : Int64} {m_vb : Int64} {m_ve : Int32} {m_no : Int32} {m_pl : Int32} {m_fa : Int32} {m_oc : Int32} {m_fu : Int32} {m_ke : Int32} {m_t : List Int64} {m_f : List Int32} {m_rs : List Int32} {m_rt : List Int64} {m_rf : List Int32} {m_ib : List Int32} {m_ob : List Int32} {m_al : List Int32} {m_el : List Int32} {m_vt : List Int64} {m_vf : List Int32} {m_vs : List Int32} {m_nr : List Int32} {m_ty : List Int32} {m_pa : List Int32} {m_fn : List Int64} {m_md : List Int64} {m_ms : List Int32} {m_mr : List Int32}  {K : List Int32 → Option (Int32 × Int32 × Int32 × Int32 × Int64 × Int64 × Int32 × Int32 × Int32 × List Int64 × List Int32 × List Int32 × List Int64 × List Int64 × List Int32 × List Int32)} (hK : ∀  (m_st : List Int32) (res : Int32 × Int32 × Int32 × Int32 × Int64 × Int64 × Int32 × Int32 × Int32 × List Int64 × List Int32 × List Int32 × List Int64 × List Int64 × List Int32 × List Int32), K m_st = some res → tG l E RX8 cX8_restore 2 (some .int) false 5 (fun r h' => r = some (.int res.1) ∧ h' = encM (res.2.1) (res.2.2.1) (res.2.2.2.1) (res.2.2.2.2.1) (res.2.2.2.2.2.1) (res.2.2.2.2.2.2.1) m_is m_os m_vn m_vc m_va m_vb m_ve m_no m_pl m_fa m_oc (res.2.2.2.2.2.2.2.1) (res.2.2.2.2.2.2.2.2.1) (res.2.2.2.2.2.2.2.2.2.1) (res.2.2.2.2.2.2.2.2.2.2.1) m_rs m_rt m_rf (res.2.2.2.2.2.2.2.2.2.2.2.1) m_ib m_ob m_al m_el m_vt m_vf m_vs m_nr m_ty m_pa (res.2.2.2.2.2.2.2.2.2.2.2.2.1) (res.2.2.2.2.2.2.2.2.2.2.2.2.2.1) (res.2.2.2.2.2.2.2.2.2.2.2.2.2.2.1) (res.2.2.2.2.2.2.2.2.2.2.2.2.2.2.2)) 0 0 124 [(0, .ref 0)] [] (encM m_n m_pt m_rc m_sa m_sb m_sc m_is m_os m_vn m_vc m_va m_vb m_ve m_no m_pl m_fa m_oc m_fu m_ke m_t m_f m_rs m_rt m_rf m_st m_ib m_ob m_al m_el m_vt m_vf m_vs m_nr m_ty m_pa m_fn m_md m_ms m_mr)) :
    ∀ (fu : Nat) (v1 : Int32) (m_st : List Int32) (res : Int32 × Int32 × Int32 × Int32 × Int64 × Int64 × Int32 × Int32 × Int32 × List Int64 × List Int32 × List Int32 × List Int64 × List Int64 × List Int32 × List Int32), f_X8_restore_L100 m_vs K fu v1 m_st = some res → tG l E RX8 cX8_restore 2 (some .int) false 5 (fun r h' => r = some (.int res.1) ∧ h' = encM (res.2.1) (res.2.2.1) (res.2.2.2.1) (res.2.2.2.2.1) (res.2.2.2.2.2.1) (res.2.2.2.2.2.2.1) m_is m_os m_vn m_vc m_va m_vb m_ve m_no m_pl m_fa m_oc (res.2.2.2.2.2.2.2.1) (res.2.2.2.2.2.2.2.2.1) (res.2.2.2.2.2.2.2.2.2.1) (res.2.2.2.2.2.2.2.2.2.2.1) m_rs m_rt m_rf (res.2.2.2.2.2.2.2.2.2.2.2.1) m_ib m_ob m_al m_el m_vt m_vf m_vs m_nr m_ty m_pa (res.2.2.2.2.2.2.2.2.2.2.2.2.1) (res.2.2.2.2.2.2.2.2.2.2.2.2.2.1) (res.2.2.2.2.2.2.2.2.2.2.2.2.2.2.1) (res.2.2.2.2.2.2.2.2.2.2.2.2.2.2.2)) 0 0 100 [(0, .ref 0), (1, .int v1)] [] (encM m_n m_pt m_rc m_sa m_sb m_sc m_is m_os m_vn m_vc m_va m_vb m_ve m_no m_pl m_fa m_oc m_fu m_ke m_t m_f m_rs m_rt m_rf m_st m_ib m_ob m_al m_el m_vt m_vf m_vs m_nr m_ty m_pa m_fn m_md m_ms m_mr) := by
  intro fu
  induction fu with
  | zero => intro v1 m_st res hf; exact nomatch (show none = some res from hf)
  | succ fu ih =>
    intro v1 m_st res hf
    rw [f_X8_restore_L100] at hf
    refine g_iload_n 1 (q := 101) dX8_restore_100 rfl rfl ?_
    refine g_bipush (q := 103) (v := 32) dX8_restore_101 rfl rfl ?_
    refine g_icmp_ge (t := 124) (q := 106) dX8_restore_103 (by decide) rfl (fun c14 => ?_) (fun c14 => ?_)
    · rw [if_pos c14] at hf
      refine g_ls [0] rfl ?_
      exact hK _ _ hf
    · rw [if_neg c14] at hf
      refine g_aload_n 0 (q := 107) dX8_restore_106 rfl rfl ?_
      refine g_get (q := 110) fl_X8_34 dX8_restore_107 rfl rfl rfl ?_
      refine g_iload_n 1 (q := 111) dX8_restore_110 rfl rfl ?_
      refine g_aload_n 0 (q := 112) dX8_restore_111 rfl rfl ?_
      refine g_get (q := 115) fl_X8_58 dX8_restore_112 rfl rfl rfl ?_
      refine g_iload_n 1 (q := 116) dX8_restore_115 rfl rfl ?_
      obtain ⟨r15, e16, hf⟩ := Option.bind_eq_some_iff.mp hf
      refine g_iaload (q := 117) dX8_restore_116 rfl rfl e16 ?_
      obtain ⟨z17, e18, hf⟩ := Option.bind_eq_some_iff.mp hf
      refine g_iastore (q := 118) (h' := encM m_n m_pt m_rc m_sa m_sb m_sc m_is m_os m_vn m_vc m_va m_vb m_ve m_no m_pl m_fa m_oc m_fu m_ke m_t m_f m_rs m_rt m_rf z17 m_ib m_ob m_al m_el m_vt m_vf m_vs m_nr m_ty m_pa m_fn m_md m_ms m_mr) dX8_restore_117 rfl rfl e18 rfl ?_
      refine g_iinc 1 (q := 121) (v := (v1 + 1)) (L' := [(0, .ref 0), (1, .int (v1 + 1))]) dX8_restore_118 rfl rfl rfl (by decide) rfl ?_
      refine g_goto (t := 100) dX8_restore_121 (by decide) ?_
      refine g_ls [0, 1] rfl ?_
      exact ih _ _ _ hf
set_option maxRecDepth 20000 in
set_option maxHeartbeats 4000000 in
theorem ev_X8_restore {l : Launch} {E : tEn}  {m_n : Int32} {m_pt : Int32} {m_rc : Int32} {m_sa : Int64} {m_sb : Int64} {m_sc : Int32} {m_is : Int32} {m_os : Int32} {m_vn : Int32} {m_vc : Int32} {m_va : Int64} {m_vb : Int64} {m_ve : Int32} {m_no : Int32} {m_pl : Int32} {m_fa : Int32} {m_oc : Int32} {m_fu : Int32} {m_ke : Int32} {m_t : List Int64} {m_f : List Int32} {m_rs : List Int32} {m_rt : List Int64} {m_rf : List Int32} {m_st : List Int32} {m_ib : List Int32} {m_ob : List Int32} {m_al : List Int32} {m_el : List Int32} {m_vt : List Int64} {m_vf : List Int32} {m_vs : List Int32} {m_nr : List Int32} {m_ty : List Int32} {m_pa : List Int32} {m_fn : List Int64} {m_md : List Int64} {m_ms : List Int32} {m_mr : List Int32}  {res : Int32 × Int32 × Int32 × Int32 × Int64 × Int64 × Int32 × Int32 × Int32 × List Int64 × List Int32 × List Int32 × List Int64 × List Int64 × List Int32 × List Int32} (hf : f_X8_restore m_n m_pt m_rc m_sa m_sb m_sc m_vn m_vc m_va m_vb m_fu m_ke m_t m_f m_st m_vt m_vf m_vs m_fn m_md m_ms m_mr = some res) : tEv l E yX8_restore cX8_restore 2 (some .int) 5 0 0 [.ref 0] (encM m_n m_pt m_rc m_sa m_sb m_sc m_is m_os m_vn m_vc m_va m_vb m_ve m_no m_pl m_fa m_oc m_fu m_ke m_t m_f m_rs m_rt m_rf m_st m_ib m_ob m_al m_el m_vt m_vf m_vs m_nr m_ty m_pa m_fn m_md m_ms m_mr) (fun r h' => r = some (.int res.1) ∧ h' = encM (res.2.1) (res.2.2.1) (res.2.2.2.1) (res.2.2.2.2.1) (res.2.2.2.2.2.1) (res.2.2.2.2.2.2.1) m_is m_os m_vn m_vc m_va m_vb m_ve m_no m_pl m_fa m_oc (res.2.2.2.2.2.2.2.1) (res.2.2.2.2.2.2.2.2.1) (res.2.2.2.2.2.2.2.2.2.1) (res.2.2.2.2.2.2.2.2.2.2.1) m_rs m_rt m_rf (res.2.2.2.2.2.2.2.2.2.2.2.1) m_ib m_ob m_al m_el m_vt m_vf m_vs m_nr m_ty m_pa (res.2.2.2.2.2.2.2.2.2.2.2.2.1) (res.2.2.2.2.2.2.2.2.2.2.2.2.2.1) (res.2.2.2.2.2.2.2.2.2.2.2.2.2.2.1) (res.2.2.2.2.2.2.2.2.2.2.2.2.2.2.2)) := by
  refine tEv.of (own := RX8) (ini := false) (L := [(0, .ref 0)]) (by decide +kernel) rfl (fun h9 => nomatch h9) rfl (Nat.le_of_ble_eq_true rfl) ?_
  rw [f_X8_restore] at hf
  refine g_aload_n 0 (q := 1) dX8_restore_0 rfl rfl ?_
  refine g_get (q := 4) fl_X8_49 dX8_restore_1 rfl rfl rfl ?_
  refine g_iconst (q := 5) (v := (-1)) dX8_restore_4 rfl rfl ?_
  refine g_icmp_ne (t := 11) (q := 8) dX8_restore_5 (by decide) rfl (fun c1 => ?_) (fun c1 => ?_)
  · rw [if_neg c1] at hf
    refine g_aload_n 0 (q := 12) dX8_restore_11 rfl rfl ?_
    refine g_get (q := 15) fl_X8_49 dX8_restore_12 rfl rfl rfl ?_
    refine g_aload_n 0 (q := 16) dX8_restore_15 rfl rfl ?_
    refine g_get (q := 19) fl_X8_7 dX8_restore_16 rfl rfl rfl ?_
    refine g_icmp_eq (t := 31) (q := 22) dX8_restore_19 (by decide) rfl (fun c2 => ?_) (fun c2 => ?_)
    · rw [if_pos c2] at hf
      refine g_aload_n 0 (q := 32) dX8_restore_31 rfl rfl ?_
      refine g_iconst (q := 33) (v := 0) dX8_restore_32 rfl rfl ?_
      refine g_put (q := 36) (h' := encM m_n m_pt 0 m_sa m_sb m_sc m_is m_os m_vn m_vc m_va m_vb m_ve m_no m_pl m_fa m_oc m_fu m_ke m_t m_f m_rs m_rt m_rf m_st m_ib m_ob m_al m_el m_vt m_vf m_vs m_nr m_ty m_pa m_fn m_md m_ms m_mr) fp_X8_95 dX8_restore_33 rfl rfl (Nat.le_of_ble_eq_true rfl) (fun _ => ⟨rfl, rfl⟩) rfl ?_
      refine g_aload_n 0 (q := 37) dX8_restore_36 rfl rfl ?_
      refine g_aload_n 0 (q := 38) dX8_restore_37 rfl rfl ?_
      refine g_get (q := 41) fl_X8_310 dX8_restore_38 rfl rfl rfl ?_
      refine g_put (q := 44) (h' := encM m_n m_pt 0 m_sa m_sb m_vc m_is m_os m_vn m_vc m_va m_vb m_ve m_no m_pl m_fa m_oc m_fu m_ke m_t m_f m_rs m_rt m_rf m_st m_ib m_ob m_al m_el m_vt m_vf m_vs m_nr m_ty m_pa m_fn m_md m_ms m_mr) fp_X8_115 dX8_restore_41 rfl rfl (Nat.le_of_ble_eq_true rfl) (fun _ => ⟨rfl, rfl⟩) rfl ?_
      refine g_aload_n 0 (q := 45) dX8_restore_44 rfl rfl ?_
      refine g_aload_n 0 (q := 46) dX8_restore_45 rfl rfl ?_
      refine g_get (q := 49) fl_X8_313 dX8_restore_46 rfl rfl rfl ?_
      refine g_put (q := 52) (h' := encM m_n m_pt 0 m_va m_sb m_vc m_is m_os m_vn m_vc m_va m_vb m_ve m_no m_pl m_fa m_oc m_fu m_ke m_t m_f m_rs m_rt m_rf m_st m_ib m_ob m_al m_el m_vt m_vf m_vs m_nr m_ty m_pa m_fn m_md m_ms m_mr) fp_X8_108 dX8_restore_49 rfl rfl (Nat.le_of_ble_eq_true rfl) (fun _ => ⟨rfl, rfl⟩) rfl ?_
      refine g_aload_n 0 (q := 53) dX8_restore_52 rfl rfl ?_
      refine g_aload_n 0 (q := 54) dX8_restore_53 rfl rfl ?_
      refine g_get (q := 57) fl_X8_316 dX8_restore_54 rfl rfl rfl ?_
      refine g_put (q := 60) (h' := encM m_n m_pt 0 m_va m_vb m_vc m_is m_os m_vn m_vc m_va m_vb m_ve m_no m_pl m_fa m_oc m_fu m_ke m_t m_f m_rs m_rt m_rf m_st m_ib m_ob m_al m_el m_vt m_vf m_vs m_nr m_ty m_pa m_fn m_md m_ms m_mr) fp_X8_112 dX8_restore_57 rfl rfl (Nat.le_of_ble_eq_true rfl) (fun _ => ⟨rfl, rfl⟩) rfl ?_
      refine g_iconst (q := 61) (v := 0) dX8_restore_60 rfl rfl ?_
      refine g_istore_n (q := 62) (L' := [(0, .ref 0), (1, .int 0)]) dX8_restore_61 rfl (by decide) rfl ?_
      refine g_ls [0, 1] rfl ?_
      refine ev_X8_restore_L62 (fun k12 k13 res hf => ?_) tFU _ _ _ res hf
      refine g_iconst (q := 99) (v := 0) dX8_restore_98 rfl rfl ?_
      refine g_istore_n (q := 100) (L' := [(0, .ref 0), (1, .int 0)]) dX8_restore_99 rfl (by decide) rfl ?_
      refine g_ls [0, 1] rfl ?_
      refine ev_X8_restore_L100 (fun k19 res hf => ?_) tFU _ _ res hf
      refine g_aload_n 0 (q := 125) dX8_restore_124 rfl rfl ?_
      obtain ⟨r20, e21, hf⟩ := Option.bind_eq_some_iff.mp hf
      refine g_callV (a := 0) (k2 := 0) (n2 := 0) (q := 128) (as := []) (st := []) (st1 := [.int r20]) tm_X8_usedSlots ml_X8_130 ti_X8_usedSlots rfl rfl dX8_restore_125 rfl (ev_X8_usedSlots e21) rfl rfl (Nat.le_of_ble_eq_true rfl) (by decide) rfl rfl (Or.inl rfl) rfl ?_
      have hf := Option.some.inj hf
      subst hf
      exact g_ireturn dX8_restore_128 rfl ⟨rfl, rfl⟩
    · rw [if_neg c2] at hf
      refine g_aload_n 0 (q := 23) dX8_restore_22 rfl rfl ?_
      refine g_aload_n 0 (q := 24) dX8_restore_23 rfl rfl ?_
      refine g_get (q := 27) fl_X8_49 dX8_restore_24 rfl rfl rfl ?_
      obtain ⟨r22, e23, hf⟩ := Option.bind_eq_some_iff.mp hf
      refine g_callV (a := 0) (k2 := 0) (n2 := 0) (q := 30) (as := [.int m_vn]) (st := []) (st1 := [.int r22.1]) tm_X8_setVariables ml_X8_319 ti_X8_setVariables rfl rfl dX8_restore_27 rfl (ev_X8_setVariables e23) rfl rfl (Nat.le_of_ble_eq_true rfl) (by decide) rfl rfl (Or.inl (encM_len.trans encM_len.symm)) rfl ?_
      refine g_pop (q := 31) dX8_restore_30 rfl rfl ?_
      refine g_aload_n 0 (q := 32) dX8_restore_31 rfl rfl ?_
      refine g_iconst (q := 33) (v := 0) dX8_restore_32 rfl rfl ?_
      refine g_put (q := 36) (h' := encM (r22.2.1) (r22.2.2.1) 0 (r22.2.2.2.2.1) (r22.2.2.2.2.2.1) (r22.2.2.2.2.2.2.1) m_is m_os m_vn m_vc m_va m_vb m_ve m_no m_pl m_fa m_oc (r22.2.2.2.2.2.2.2.1) (r22.2.2.2.2.2.2.2.2.1) m_t (r22.2.2.2.2.2.2.2.2.2.1) m_rs m_rt m_rf m_st m_ib m_ob m_al m_el m_vt m_vf m_vs m_nr m_ty m_pa (r22.2.2.2.2.2.2.2.2.2.2.1) (r22.2.2.2.2.2.2.2.2.2.2.2.1) (r22.2.2.2.2.2.2.2.2.2.2.2.2.1) (r22.2.2.2.2.2.2.2.2.2.2.2.2.2)) fp_X8_95 dX8_restore_33 rfl rfl (Nat.le_of_ble_eq_true rfl) (fun _ => ⟨rfl, rfl⟩) rfl ?_
      refine g_aload_n 0 (q := 37) dX8_restore_36 rfl rfl ?_
      refine g_aload_n 0 (q := 38) dX8_restore_37 rfl rfl ?_
      refine g_get (q := 41) fl_X8_310 dX8_restore_38 rfl rfl rfl ?_
      refine g_put (q := 44) (h' := encM (r22.2.1) (r22.2.2.1) 0 (r22.2.2.2.2.1) (r22.2.2.2.2.2.1) m_vc m_is m_os m_vn m_vc m_va m_vb m_ve m_no m_pl m_fa m_oc (r22.2.2.2.2.2.2.2.1) (r22.2.2.2.2.2.2.2.2.1) m_t (r22.2.2.2.2.2.2.2.2.2.1) m_rs m_rt m_rf m_st m_ib m_ob m_al m_el m_vt m_vf m_vs m_nr m_ty m_pa (r22.2.2.2.2.2.2.2.2.2.2.1) (r22.2.2.2.2.2.2.2.2.2.2.2.1) (r22.2.2.2.2.2.2.2.2.2.2.2.2.1) (r22.2.2.2.2.2.2.2.2.2.2.2.2.2)) fp_X8_115 dX8_restore_41 rfl rfl (Nat.le_of_ble_eq_true rfl) (fun _ => ⟨rfl, rfl⟩) rfl ?_
      refine g_aload_n 0 (q := 45) dX8_restore_44 rfl rfl ?_
      refine g_aload_n 0 (q := 46) dX8_restore_45 rfl rfl ?_
      refine g_get (q := 49) fl_X8_313 dX8_restore_46 rfl rfl rfl ?_
      refine g_put (q := 52) (h' := encM (r22.2.1) (r22.2.2.1) 0 m_va (r22.2.2.2.2.2.1) m_vc m_is m_os m_vn m_vc m_va m_vb m_ve m_no m_pl m_fa m_oc (r22.2.2.2.2.2.2.2.1) (r22.2.2.2.2.2.2.2.2.1) m_t (r22.2.2.2.2.2.2.2.2.2.1) m_rs m_rt m_rf m_st m_ib m_ob m_al m_el m_vt m_vf m_vs m_nr m_ty m_pa (r22.2.2.2.2.2.2.2.2.2.2.1) (r22.2.2.2.2.2.2.2.2.2.2.2.1) (r22.2.2.2.2.2.2.2.2.2.2.2.2.1) (r22.2.2.2.2.2.2.2.2.2.2.2.2.2)) fp_X8_108 dX8_restore_49 rfl rfl (Nat.le_of_ble_eq_true rfl) (fun _ => ⟨rfl, rfl⟩) rfl ?_
      refine g_aload_n 0 (q := 53) dX8_restore_52 rfl rfl ?_
      refine g_aload_n 0 (q := 54) dX8_restore_53 rfl rfl ?_
      refine g_get (q := 57) fl_X8_316 dX8_restore_54 rfl rfl rfl ?_
      refine g_put (q := 60) (h' := encM (r22.2.1) (r22.2.2.1) 0 m_va m_vb m_vc m_is m_os m_vn m_vc m_va m_vb m_ve m_no m_pl m_fa m_oc (r22.2.2.2.2.2.2.2.1) (r22.2.2.2.2.2.2.2.2.1) m_t (r22.2.2.2.2.2.2.2.2.2.1) m_rs m_rt m_rf m_st m_ib m_ob m_al m_el m_vt m_vf m_vs m_nr m_ty m_pa (r22.2.2.2.2.2.2.2.2.2.2.1) (r22.2.2.2.2.2.2.2.2.2.2.2.1) (r22.2.2.2.2.2.2.2.2.2.2.2.2.1) (r22.2.2.2.2.2.2.2.2.2.2.2.2.2)) fp_X8_112 dX8_restore_57 rfl rfl (Nat.le_of_ble_eq_true rfl) (fun _ => ⟨rfl, rfl⟩) rfl ?_
      refine g_iconst (q := 61) (v := 0) dX8_restore_60 rfl rfl ?_
      refine g_istore_n (q := 62) (L' := [(0, .ref 0), (1, .int 0)]) dX8_restore_61 rfl (by decide) rfl ?_
      refine g_ls [0, 1] rfl ?_
      refine ev_X8_restore_L62 (fun k24 k25 res hf => ?_) tFU _ _ _ res hf
      refine g_iconst (q := 99) (v := 0) dX8_restore_98 rfl rfl ?_
      refine g_istore_n (q := 100) (L' := [(0, .ref 0), (1, .int 0)]) dX8_restore_99 rfl (by decide) rfl ?_
      refine g_ls [0, 1] rfl ?_
      refine ev_X8_restore_L100 (fun k26 res hf => ?_) tFU _ _ res hf
      refine g_aload_n 0 (q := 125) dX8_restore_124 rfl rfl ?_
      obtain ⟨r27, e28, hf⟩ := Option.bind_eq_some_iff.mp hf
      refine g_callV (a := 0) (k2 := 0) (n2 := 0) (q := 128) (as := []) (st := []) (st1 := [.int r27]) tm_X8_usedSlots ml_X8_130 ti_X8_usedSlots rfl rfl dX8_restore_125 rfl (ev_X8_usedSlots e28) rfl rfl (Nat.le_of_ble_eq_true rfl) (by decide) rfl rfl (Or.inl rfl) rfl ?_
      have hf := Option.some.inj hf
      subst hf
      exact g_ireturn dX8_restore_128 rfl ⟨rfl, rfl⟩
  · rw [if_pos c1] at hf
    refine g_bipush (q := 10) (v := (-7)) dX8_restore_8 rfl rfl ?_
    have hf := Option.some.inj hf
    subst hf
    exact g_ireturn dX8_restore_10 rfl ⟨rfl, rfl⟩
def f_X8_isArray (a0 : Int32)  : Int32 := (f_X8_isIn (Int32.toInt64 a0) 0 3)
theorem bl_X8_isArray (a0 : Int32)  : f_X8_isArray a0 = 0 ∨ f_X8_isArray a0 = 1 := by
  unfold f_X8_isArray
  repeat' split
  all_goals first | exact Or.inl rfl | exact Or.inr rfl | exact bl_X8_isIn _ _ _
set_option maxRecDepth 20000 in
set_option maxHeartbeats 4000000 in
theorem ev_X8_isArray {l : Launch} {E : tEn}  {h : tHp} {a0 : Int32} : tEv l E yX8_isArray cX8_isArray 1 (some .boolean) 2 0 0 [.int a0] (h) (fun r h' => r = some (.int (f_X8_isArray a0)) ∧ h' = h) := by
  refine tEv.of (own := RX8) (ini := false) (L := [(0, .int a0)]) (by decide +kernel) rfl (fun h9 => nomatch h9) rfl (Nat.le_of_ble_eq_true rfl) ?_
  obtain ⟨res, hf⟩ : ∃ z, f_X8_isArray a0 = z := ⟨_, rfl⟩
  rw [hf]
  rw [f_X8_isArray] at hf
  refine g_iload_n 0 (q := 1) dX8_isArray_0 rfl rfl ?_
  refine g_i2l (q := 2) dX8_isArray_1 rfl ?_
  refine g_lconst (q := 3) (v := 0) dX8_isArray_2 rfl rfl ?_
  refine g_ldc2_w (q := 6) kc_X8_174 dX8_isArray_3 rfl ?_
  refine g_callS (k2 := 0) (n2 := 0) (q := 9) (as := [.long (Int32.toInt64 a0), .long 0, .long 3]) (st := []) (st1 := [.int (f_X8_isIn (Int32.toInt64 a0) 0 3)]) tm_X8_isIn ml_X8_87 ts_X8_isIn dX8_isArray_6 rfl ev_X8_isIn rfl rfl (Nat.le_of_ble_eq_true rfl) (by decide) rfl rfl (Or.inl rfl) rfl ?_
  subst hf
  exact g_zreturn (bl_X8_isIn (Int32.toInt64 a0) 0 3) dX8_isArray_9 rfl ⟨rfl, rfl⟩
def f_X8_createArray_L32 (w1 : Int32) (K : List Int32 → Option (Int32 × List Int32 × List Int32)) : Nat → Int32 → List Int32 → Option (Int32 × List Int32 × List Int32)
  | 0, _, _ => none
  | fu + 1, v3, m_el => (if 16 ≤ v3 then K  m_el else (tst m_el ((16 * w1) + v3) 0).bind fun z7 => f_X8_createArray_L32 w1 K fu (v3 + 1) z7)
def f_X8_createArray (a0 : Int32) (a1 : Int32) (m_al : List Int32) (m_el : List Int32) : Option (Int32 × List Int32 × List Int32) := (if (f_X8_isArray a0) = 0 then some ((-2), m_al, m_el) else (if a1 ≤ 16 then (if 0 ≤ a1 then (tst m_al a0 a1).bind fun z4 => f_X8_createArray_L32 a0 (fun k9 => some (1, z4, k9)) tFU 0 m_el else some ((-14), m_al, m_el)) else some ((-2), m_al, m_el)))
set_option maxRecDepth 20000 in
set_option maxHeartbeats 4000000 in
theorem ev_X8_createArray_L32 {l : Launch} {E : tEn}   {m_n : Int32} {m_pt : Int32} {m_rc : Int32} {m_sa : Int64} {m_sb : Int64} {m_sc : Int32} {m_is : Int32} {m_os : Int32} {m_vn : Int32} {m_vc : Int32} {m_va : Int64} {m_vb : Int64} {m_ve : Int32} {m_no : Int32} {m_pl : Int32} {m_fa : Int32} {m_oc : Int32} {m_fu : Int32} {m_ke : Int32} {m_t : List Int64} {m_f : List Int32} {m_rs : List Int32} {m_rt : List Int64} {m_rf : List Int32} {m_st : List Int32} {m_ib : List Int32} {m_ob : List Int32} {m_al : List Int32} {m_vt : List Int64} {m_vf : List Int32} {m_vs : List Int32} {m_nr : List Int32} {m_ty : List Int32} {m_pa : List Int32} {m_fn : List Int64} {m_md : List Int64} {m_ms : List Int32} {m_mr : List Int32} {w1 : Int32} {K : List Int32 → Option (Int32 × List Int32 × List Int32)} (hK : ∀  (m_el : List Int32) (res : Int32 × List Int32 × List Int32), K m_el = some res → tG l E RX8 cX8_createArray 4 (some .int) false 3 (fun r h' => r = some (.int res.1) ∧ h' = encM m_n m_pt m_rc m_sa m_sb m_sc m_is m_os m_vn m_vc m_va m_vb m_ve m_no m_pl m_fa m_oc m_fu m_ke m_t m_f m_rs m_rt m_rf m_st m_ib m_ob (res.2.1) (res.2.2) m_vt m_vf m_vs m_nr m_ty m_pa m_fn m_md m_ms m_mr) 0 0 56 [] [] (encM m_n m_pt m_rc m_sa m_sb m_sc m_is m_os m_vn m_vc m_va m_vb m_ve m_no m_pl m_fa m_oc m_fu m_ke m_t m_f m_rs m_rt m_rf m_st m_ib m_ob m_al m_el m_vt m_vf m_vs m_nr m_ty m_pa m_fn m_md m_ms m_mr)) :
    ∀ (fu : Nat) (v3 : Int32) (m_el : List Int32) (res : Int32 × List Int32 × List Int32), f_X8_createArray_L32 w1 K fu v3 m_el = some res → tG l E RX8 cX8_createArray 4 (some .int) false 3 (fun r h' => r = some (.int res.1) ∧ h' = encM m_n m_pt m_rc m_sa m_sb m_sc m_is m_os m_vn m_vc m_va m_vb m_ve m_no m_pl m_fa m_oc m_fu m_ke m_t m_f m_rs m_rt m_rf m_st m_ib m_ob (res.2.1) (res.2.2) m_vt m_vf m_vs m_nr m_ty m_pa m_fn m_md m_ms m_mr) 0 0 32 [(0, .ref 0), (1, .int w1), (3, .int v3)] [] (encM m_n m_pt m_rc m_sa m_sb m_sc m_is m_os m_vn m_vc m_va m_vb m_ve m_no m_pl m_fa m_oc m_fu m_ke m_t m_f m_rs m_rt m_rf m_st m_ib m_ob m_al m_el m_vt m_vf m_vs m_nr m_ty m_pa m_fn m_md m_ms m_mr) := by
  intro fu
  induction fu with
  | zero => intro v3 m_el res hf; exact nomatch (show none = some res from hf)
  | succ fu ih =>
    intro v3 m_el res hf
    rw [f_X8_createArray_L32] at hf
    refine g_iload_n 2 (q := 33) dX8_createArray_32 rfl rfl ?_
    refine g_bipush (q := 35) (v := 16) dX8_createArray_33 rfl rfl ?_
    refine g_icmp_ge (t := 56) (q := 38) dX8_createArray_35 (by decide) rfl (fun c6 => ?_) (fun c6 => ?_)
    · rw [if_pos c6] at hf
      refine g_ls [] rfl ?_
      exact hK _ _ hf
    · rw [if_neg c6] at hf
      refine g_aload_n 0 (q := 39) dX8_createArray_38 rfl rfl ?_
      refine g_get (q := 42) fl_X8_46 dX8_createArray_39 rfl rfl rfl ?_
      refine g_bipush (q := 44) (v := 16) dX8_createArray_42 rfl rfl ?_
      refine g_iload_n 1 (q := 45) dX8_createArray_44 rfl rfl ?_
      refine g_imul (q := 46) dX8_createArray_45 rfl ?_
      refine g_iload_n 2 (q := 47) dX8_createArray_46 rfl rfl ?_
      refine g_iadd (q := 48) dX8_createArray_47 rfl ?_
      refine g_iconst (q := 49) (v := 0) dX8_createArray_48 rfl rfl ?_
      obtain ⟨z7, e8, hf⟩ := Option.bind_eq_some_iff.mp hf
      refine g_iastore (q := 50) (h' := encM m_n m_pt m_rc m_sa m_sb m_sc m_is m_os m_vn m_vc m_va m_vb m_ve m_no m_pl m_fa m_oc m_fu m_ke m_t m_f m_rs m_rt m_rf m_st m_ib m_ob m_al z7 m_vt m_vf m_vs m_nr m_ty m_pa m_fn m_md m_ms m_mr) dX8_createArray_49 rfl rfl e8 rfl ?_
      refine g_iinc 2 (q := 53) (v := (v3 + 1)) (L' := [(0, .ref 0), (1, .int w1), (3, .int (v3 + 1))]) dX8_createArray_50 rfl rfl rfl (by decide) rfl ?_
      refine g_goto (t := 32) dX8_createArray_53 (by decide) ?_
      refine g_ls [0, 1, 2] rfl ?_
      exact ih _ _ _ hf
set_option maxRecDepth 20000 in
set_option maxHeartbeats 4000000 in
theorem ev_X8_createArray {l : Launch} {E : tEn}  {m_n : Int32} {m_pt : Int32} {m_rc : Int32} {m_sa : Int64} {m_sb : Int64} {m_sc : Int32} {m_is : Int32} {m_os : Int32} {m_vn : Int32} {m_vc : Int32} {m_va : Int64} {m_vb : Int64} {m_ve : Int32} {m_no : Int32} {m_pl : Int32} {m_fa : Int32} {m_oc : Int32} {m_fu : Int32} {m_ke : Int32} {m_t : List Int64} {m_f : List Int32} {m_rs : List Int32} {m_rt : List Int64} {m_rf : List Int32} {m_st : List Int32} {m_ib : List Int32} {m_ob : List Int32} {m_al : List Int32} {m_el : List Int32} {m_vt : List Int64} {m_vf : List Int32} {m_vs : List Int32} {m_nr : List Int32} {m_ty : List Int32} {m_pa : List Int32} {m_fn : List Int64} {m_md : List Int64} {m_ms : List Int32} {m_mr : List Int32} {a0 : Int32} {a1 : Int32} {res : Int32 × List Int32 × List Int32} (hf : f_X8_createArray a0 a1 m_al m_el = some res) : tEv l E yX8_createArray cX8_createArray 4 (some .int) 3 0 0 [.ref 0, .int a0, .int a1] (encM m_n m_pt m_rc m_sa m_sb m_sc m_is m_os m_vn m_vc m_va m_vb m_ve m_no m_pl m_fa m_oc m_fu m_ke m_t m_f m_rs m_rt m_rf m_st m_ib m_ob m_al m_el m_vt m_vf m_vs m_nr m_ty m_pa m_fn m_md m_ms m_mr) (fun r h' => r = some (.int res.1) ∧ h' = encM m_n m_pt m_rc m_sa m_sb m_sc m_is m_os m_vn m_vc m_va m_vb m_ve m_no m_pl m_fa m_oc m_fu m_ke m_t m_f m_rs m_rt m_rf m_st m_ib m_ob (res.2.1) (res.2.2) m_vt m_vf m_vs m_nr m_ty m_pa m_fn m_md m_ms m_mr) := by
  refine tEv.of (own := RX8) (ini := false) (L := [(0, .ref 0), (1, .int a0), (2, .int a1)]) (by decide +kernel) rfl (fun h9 => nomatch h9) rfl (Nat.le_of_ble_eq_true rfl) ?_
  rw [f_X8_createArray] at hf
  refine g_iload_n 1 (q := 1) dX8_createArray_0 rfl rfl ?_
  refine g_callS (k2 := 0) (n2 := 0) (q := 4) (as := [.int a0]) (st := []) (st1 := [.int (f_X8_isArray a0)]) tm_X8_isArray ml_X8_322 ts_X8_isArray dX8_createArray_1 rfl ev_X8_isArray rfl rfl (Nat.le_of_ble_eq_true rfl) (by decide) rfl rfl (Or.inl rfl) rfl ?_
  refine g_if_eq (t := 13) (q := 7) dX8_createArray_4 (by decide) rfl (fun c1 => ?_) (fun c1 => ?_)
  · rw [if_pos c1] at hf
    refine g_bipush (q := 15) (v := (-2)) dX8_createArray_13 rfl rfl ?_
    have hf := Option.some.inj hf
    subst hf
    exact g_ireturn dX8_createArray_15 rfl ⟨rfl, rfl⟩
  · rw [if_neg c1] at hf
    refine g_iload_n 2 (q := 8) dX8_createArray_7 rfl rfl ?_
    refine g_bipush (q := 10) (v := 16) dX8_createArray_8 rfl rfl ?_
    refine g_icmp_le (t := 16) (q := 13) dX8_createArray_10 (by decide) rfl (fun c2 => ?_) (fun c2 => ?_)
    · rw [if_pos c2] at hf
      refine g_iload_n 2 (q := 17) dX8_createArray_16 rfl rfl ?_
      refine g_if_ge (t := 23) (q := 20) dX8_createArray_17 (by decide) rfl (fun c3 => ?_) (fun c3 => ?_)
      · rw [if_pos c3] at hf
        refine g_aload_n 0 (q := 24) dX8_createArray_23 rfl rfl ?_
        refine g_get (q := 27) fl_X8_43 dX8_createArray_24 rfl rfl rfl ?_
        refine g_iload_n 1 (q := 28) dX8_createArray_27 rfl rfl ?_
        refine g_iload_n 2 (q := 29) dX8_createArray_28 rfl rfl ?_
        obtain ⟨z4, e5, hf⟩ := Option.bind_eq_some_iff.mp hf
        refine g_iastore (q := 30) (h' := encM m_n m_pt m_rc m_sa m_sb m_sc m_is m_os m_vn m_vc m_va m_vb m_ve m_no m_pl m_fa m_oc m_fu m_ke m_t m_f m_rs m_rt m_rf m_st m_ib m_ob z4 m_el m_vt m_vf m_vs m_nr m_ty m_pa m_fn m_md m_ms m_mr) dX8_createArray_29 rfl rfl e5 rfl ?_
        refine g_iconst (q := 31) (v := 0) dX8_createArray_30 rfl rfl ?_
        refine g_istore_n (q := 32) (L' := [(0, .ref 0), (1, .int a0), (2, .int a1), (3, .int 0)]) dX8_createArray_31 rfl (by decide) rfl ?_
        refine g_ls [0, 1, 3] rfl ?_
        refine ev_X8_createArray_L32 (fun k9 res hf => ?_) tFU _ _ res hf
        refine g_iconst (q := 57) (v := 1) dX8_createArray_56 rfl rfl ?_
        have hf := Option.some.inj hf
        subst hf
        exact g_ireturn dX8_createArray_57 rfl ⟨rfl, rfl⟩
      · rw [if_neg c3] at hf
        refine g_bipush (q := 22) (v := (-14)) dX8_createArray_20 rfl rfl ?_
        have hf := Option.some.inj hf
        subst hf
        exact g_ireturn dX8_createArray_22 rfl ⟨rfl, rfl⟩
    · rw [if_neg c2] at hf
      refine g_bipush (q := 15) (v := (-2)) dX8_createArray_13 rfl rfl ?_
      have hf := Option.some.inj hf
      subst hf
      exact g_ireturn dX8_createArray_15 rfl ⟨rfl, rfl⟩
def f_X8_setElement (a0 : Int32) (a1 : Int32) (a2 : Int32) (m_al : List Int32) (m_el : List Int32) : Option (Int32 × List Int32) := (if (f_X8_isArray a0) = 0 then some ((-2), m_el) else (tld m_al a0).bind fun r2 => (if r2 = (-1) then some ((-11), m_el) else (tld m_al a0).bind fun r5 => (if (f_X8_isIn (Int32.toInt64 a1) 0 (Int32.toInt64 (r5 - 1))) = 0 then some ((-13), m_el) else (tst m_el ((16 * a0) + a1) a2).bind fun z8 => some (1, z8))))
set_option maxRecDepth 20000 in
set_option maxHeartbeats 4000000 in
theorem ev_X8_setElement {l : Launch} {E : tEn}  {m_n : Int32} {m_pt : Int32} {m_rc : Int32} {m_sa : Int64} {m_sb : Int64} {m_sc : Int32} {m_is : Int32} {m_os : Int32} {m_vn : Int32} {m_vc : Int32} {m_va : Int64} {m_vb : Int64} {m_ve : Int32} {m_no : Int32} {m_pl : Int32} {m_fa : Int32} {m_oc : Int32} {m_fu : Int32} {m_ke : Int32} {m_t : List Int64} {m_f : List Int32} {m_rs : List Int32} {m_rt : List Int64} {m_rf : List Int32} {m_st : List Int32} {m_ib : List Int32} {m_ob : List Int32} {m_al : List Int32} {m_el : List Int32} {m_vt : List Int64} {m_vf : List Int32} {m_vs : List Int32} {m_nr : List Int32} {m_ty : List Int32} {m_pa : List Int32} {m_fn : List Int64} {m_md : List Int64} {m_ms : List Int32} {m_mr : List Int32} {a0 : Int32} {a1 : Int32} {a2 : Int32} {res : Int32 × List Int32} (hf : f_X8_setElement a0 a1 a2 m_al m_el = some res) : tEv l E yX8_setElement cX8_setElement 4 (some .int) 3 0 0 [.ref 0, .int a0, .int a1, .int a2] (encM m_n m_pt m_rc m_sa m_sb m_sc m_is m_os m_vn m_vc m_va m_vb m_ve m_no m_pl m_fa m_oc m_fu m_ke m_t m_f m_rs m_rt m_rf m_st m_ib m_ob m_al m_el m_vt m_vf m_vs m_nr m_ty m_pa m_fn m_md m_ms m_mr) (fun r h' => r = some (.int res.1) ∧ h' = encM m_n m_pt m_rc m_sa m_sb m_sc m_is m_os m_vn m_vc m_va m_vb m_ve m_no m_pl m_fa m_oc m_fu m_ke m_t m_f m_rs m_rt m_rf m_st m_ib m_ob m_al (res.2) m_vt m_vf m_vs m_nr m_ty m_pa m_fn m_md m_ms m_mr) := by
  refine tEv.of (own := RX8) (ini := false) (L := [(0, .ref 0), (1, .int a0), (2, .int a1), (3, .int a2)]) (by decide +kernel) rfl (fun h9 => nomatch h9) rfl (Nat.le_of_ble_eq_true rfl) ?_
  rw [f_X8_setElement] at hf
  refine g_iload_n 1 (q := 1) dX8_setElement_0 rfl rfl ?_
  refine g_callS (k2 := 0) (n2 := 0) (q := 4) (as := [.int a0]) (st := []) (st1 := [.int (f_X8_isArray a0)]) tm_X8_isArray ml_X8_322 ts_X8_isArray dX8_setElement_1 rfl ev_X8_isArray rfl rfl (Nat.le_of_ble_eq_true rfl) (by decide) rfl rfl (Or.inl rfl) rfl ?_
  refine g_if_ne (t := 10) (q := 7) dX8_setElement_4 (by decide) rfl (fun c1 => ?_) (fun c1 => ?_)
  · rw [if_neg c1] at hf
    refine g_aload_n 0 (q := 11) dX8_setElement_10 rfl rfl ?_
    refine g_get (q := 14) fl_X8_43 dX8_setElement_11 rfl rfl rfl ?_
    refine g_iload_n 1 (q := 15) dX8_setElement_14 rfl rfl ?_
    obtain ⟨r2, e3, hf⟩ := Option.bind_eq_some_iff.mp hf
    refine g_iaload (q := 16) dX8_setElement_15 rfl rfl e3 ?_
    refine g_iconst (q := 17) (v := (-1)) dX8_setElement_16 rfl rfl ?_
    refine g_icmp_ne (t := 23) (q := 20) dX8_setElement_17 (by decide) rfl (fun c4 => ?_) (fun c4 => ?_)
    · rw [if_neg c4] at hf
      refine g_iload_n 2 (q := 24) dX8_setElement_23 rfl rfl ?_
      refine g_i2l (q := 25) dX8_setElement_24 rfl ?_
      refine g_lconst (q := 26) (v := 0) dX8_setElement_25 rfl rfl ?_
      refine g_aload_n 0 (q := 27) dX8_setElement_26 rfl rfl ?_
      refine g_get (q := 30) fl_X8_43 dX8_setElement_27 rfl rfl rfl ?_
      refine g_iload_n 1 (q := 31) dX8_setElement_30 rfl rfl ?_
      obtain ⟨r5, e6, hf⟩ := Option.bind_eq_some_iff.mp hf
      refine g_iaload (q := 32) dX8_setElement_31 rfl rfl e6 ?_
      refine g_iconst (q := 33) (v := 1) dX8_setElement_32 rfl rfl ?_
      refine g_isub (q := 34) dX8_setElement_33 rfl ?_
      refine g_i2l (q := 35) dX8_setElement_34 rfl ?_
      refine g_callS (k2 := 0) (n2 := 0) (q := 38) (as := [.long (Int32.toInt64 a1), .long 0, .long (Int32.toInt64 (r5 - 1))]) (st := []) (st1 := [.int (f_X8_isIn (Int32.toInt64 a1) 0 (Int32.toInt64 (r5 - 1)))]) tm_X8_isIn ml_X8_87 ts_X8_isIn dX8_setElement_35 rfl ev_X8_isIn rfl rfl (Nat.le_of_ble_eq_true rfl) (by decide) rfl rfl (Or.inl rfl) rfl ?_
      refine g_if_ne (t := 44) (q := 41) dX8_setElement_38 (by decide) rfl (fun c7 => ?_) (fun c7 => ?_)
      · rw [if_neg c7] at hf
        refine g_aload_n 0 (q := 45) dX8_setElement_44 rfl rfl ?_
        refine g_get (q := 48) fl_X8_46 dX8_setElement_45 rfl rfl rfl ?_
        refine g_bipush (q := 50) (v := 16) dX8_setElement_48 rfl rfl ?_
        refine g_iload_n 1 (q := 51) dX8_setElement_50 rfl rfl ?_
        refine g_imul (q := 52) dX8_setElement_51 rfl ?_
        refine g_iload_n 2 (q := 53) dX8_setElement_52 rfl rfl ?_
        refine g_iadd (q := 54) dX8_setElement_53 rfl ?_
        refine g_iload_n 3 (q := 55) dX8_setElement_54 rfl rfl ?_
        obtain ⟨z8, e9, hf⟩ := Option.bind_eq_some_iff.mp hf
        refine g_iastore (q := 56) (h' := encM m_n m_pt m_rc m_sa m_sb m_sc m_is m_os m_vn m_vc m_va m_vb m_ve m_no m_pl m_fa m_oc m_fu m_ke m_t m_f m_rs m_rt m_rf m_st m_ib m_ob m_al z8 m_vt m_vf m_vs m_nr m_ty m_pa m_fn m_md m_ms m_mr) dX8_setElement_55 rfl rfl e9 rfl ?_
        refine g_iconst (q := 57) (v := 1) dX8_setElement_56 rfl rfl ?_
        have hf := Option.some.inj hf
        subst hf
        exact g_ireturn dX8_setElement_57 rfl ⟨rfl, rfl⟩
      · rw [if_pos c7] at hf
        refine g_bipush (q := 43) (v := (-13)) dX8_setElement_41 rfl rfl ?_
        have hf := Option.some.inj hf
        subst hf
        exact g_ireturn dX8_setElement_43 rfl ⟨rfl, rfl⟩
    · rw [if_pos c4] at hf
      refine g_bipush (q := 22) (v := (-11)) dX8_setElement_20 rfl rfl ?_
      have hf := Option.some.inj hf
      subst hf
      exact g_ireturn dX8_setElement_22 rfl ⟨rfl, rfl⟩
  · rw [if_pos c1] at hf
    refine g_bipush (q := 9) (v := (-2)) dX8_setElement_7 rfl rfl ?_
    have hf := Option.some.inj hf
    subst hf
    exact g_ireturn dX8_setElement_9 rfl ⟨rfl, rfl⟩
def f_X8_element (a0 : Int32) (a1 : Int32) (m_al : List Int32) (m_el : List Int32) : Option (Int64) := (if (f_X8_isArray a0) = 0 then some (-9223372036854775808) else (tld m_al a0).bind fun r2 => (if (f_X8_isIn (Int32.toInt64 a1) 0 (Int32.toInt64 (r2 - 1))) = 0 then some (-9223372036854775808) else (tld m_el ((16 * a0) + a1)).bind fun r5 => some (Int32.toInt64 r5)))
set_option maxRecDepth 20000 in
set_option maxHeartbeats 4000000 in
theorem ev_X8_element {l : Launch} {E : tEn}  {m_n : Int32} {m_pt : Int32} {m_rc : Int32} {m_sa : Int64} {m_sb : Int64} {m_sc : Int32} {m_is : Int32} {m_os : Int32} {m_vn : Int32} {m_vc : Int32} {m_va : Int64} {m_vb : Int64} {m_ve : Int32} {m_no : Int32} {m_pl : Int32} {m_fa : Int32} {m_oc : Int32} {m_fu : Int32} {m_ke : Int32} {m_t : List Int64} {m_f : List Int32} {m_rs : List Int32} {m_rt : List Int64} {m_rf : List Int32} {m_st : List Int32} {m_ib : List Int32} {m_ob : List Int32} {m_al : List Int32} {m_el : List Int32} {m_vt : List Int64} {m_vf : List Int32} {m_vs : List Int32} {m_nr : List Int32} {m_ty : List Int32} {m_pa : List Int32} {m_fn : List Int64} {m_md : List Int64} {m_ms : List Int32} {m_mr : List Int32} {a0 : Int32} {a1 : Int32} {res : Int64} (hf : f_X8_element a0 a1 m_al m_el = some res) : tEv l E yX8_element cX8_element 3 (some .long) 3 0 0 [.ref 0, .int a0, .int a1] (encM m_n m_pt m_rc m_sa m_sb m_sc m_is m_os m_vn m_vc m_va m_vb m_ve m_no m_pl m_fa m_oc m_fu m_ke m_t m_f m_rs m_rt m_rf m_st m_ib m_ob m_al m_el m_vt m_vf m_vs m_nr m_ty m_pa m_fn m_md m_ms m_mr) (fun r h' => r = some (.long res) ∧ h' = encM m_n m_pt m_rc m_sa m_sb m_sc m_is m_os m_vn m_vc m_va m_vb m_ve m_no m_pl m_fa m_oc m_fu m_ke m_t m_f m_rs m_rt m_rf m_st m_ib m_ob m_al m_el m_vt m_vf m_vs m_nr m_ty m_pa m_fn m_md m_ms m_mr) := by
  refine tEv.of (own := RX8) (ini := false) (L := [(0, .ref 0), (1, .int a0), (2, .int a1)]) (by decide +kernel) rfl (fun h9 => nomatch h9) rfl (Nat.le_of_ble_eq_true rfl) ?_
  rw [f_X8_element] at hf
  refine g_iload_n 1 (q := 1) dX8_element_0 rfl rfl ?_
  refine g_callS (k2 := 0) (n2 := 0) (q := 4) (as := [.int a0]) (st := []) (st1 := [.int (f_X8_isArray a0)]) tm_X8_isArray ml_X8_322 ts_X8_isArray dX8_element_1 rfl ev_X8_isArray rfl rfl (Nat.le_of_ble_eq_true rfl) (by decide) rfl rfl (Or.inl rfl) rfl ?_
  refine g_if_eq (t := 40) (q := 7) dX8_element_4 (by decide) rfl (fun c1 => ?_) (fun c1 => ?_)
  · rw [if_pos c1] at hf
    refine g_ldc2_w (q := 43) kc_X8_327 dX8_element_40 rfl ?_
    have hf := Option.some.inj hf
    subst hf
    exact g_lreturn dX8_element_43 rfl ⟨rfl, rfl⟩
  · rw [if_neg c1] at hf
    refine g_iload_n 2 (q := 8) dX8_element_7 rfl rfl ?_
    refine g_i2l (q := 9) dX8_element_8 rfl ?_
    refine g_lconst (q := 10) (v := 0) dX8_element_9 rfl rfl ?_
    refine g_aload_n 0 (q := 11) dX8_element_10 rfl rfl ?_
    refine g_get (q := 14) fl_X8_43 dX8_element_11 rfl rfl rfl ?_
    refine g_iload_n 1 (q := 15) dX8_element_14 rfl rfl ?_
    obtain ⟨r2, e3, hf⟩ := Option.bind_eq_some_iff.mp hf
    refine g_iaload (q := 16) dX8_element_15 rfl rfl e3 ?_
    refine g_iconst (q := 17) (v := 1) dX8_element_16 rfl rfl ?_
    refine g_isub (q := 18) dX8_element_17 rfl ?_
    refine g_i2l (q := 19) dX8_element_18 rfl ?_
    refine g_callS (k2 := 0) (n2 := 0) (q := 22) (as := [.long (Int32.toInt64 a1), .long 0, .long (Int32.toInt64 (r2 - 1))]) (st := []) (st1 := [.int (f_X8_isIn (Int32.toInt64 a1) 0 (Int32.toInt64 (r2 - 1)))]) tm_X8_isIn ml_X8_87 ts_X8_isIn dX8_element_19 rfl ev_X8_isIn rfl rfl (Nat.le_of_ble_eq_true rfl) (by decide) rfl rfl (Or.inl rfl) rfl ?_
    refine g_if_eq (t := 40) (q := 25) dX8_element_22 (by decide) rfl (fun c4 => ?_) (fun c4 => ?_)
    · rw [if_pos c4] at hf
      refine g_ldc2_w (q := 43) kc_X8_327 dX8_element_40 rfl ?_
      have hf := Option.some.inj hf
      subst hf
      exact g_lreturn dX8_element_43 rfl ⟨rfl, rfl⟩
    · rw [if_neg c4] at hf
      refine g_aload_n 0 (q := 26) dX8_element_25 rfl rfl ?_
      refine g_get (q := 29) fl_X8_46 dX8_element_26 rfl rfl rfl ?_
      refine g_bipush (q := 31) (v := 16) dX8_element_29 rfl rfl ?_
      refine g_iload_n 1 (q := 32) dX8_element_31 rfl rfl ?_
      refine g_imul (q := 33) dX8_element_32 rfl ?_
      refine g_iload_n 2 (q := 34) dX8_element_33 rfl rfl ?_
      refine g_iadd (q := 35) dX8_element_34 rfl ?_
      obtain ⟨r5, e6, hf⟩ := Option.bind_eq_some_iff.mp hf
      refine g_iaload (q := 36) dX8_element_35 rfl rfl e6 ?_
      refine g_i2l (q := 37) dX8_element_36 rfl ?_
      refine g_goto (t := 43) dX8_element_37 (by decide) ?_
      have hf := Option.some.inj hf
      subst hf
      exact g_lreturn dX8_element_43 rfl ⟨rfl, rfl⟩
def f_X8_compare_L45 (w1 : Int32) (w2 : Int32) (m_n : Int32) (m_pt : Int32) (m_t : List Int64) (m_al : List Int32) (m_el : List Int32) (K : Option (Int32)) : Nat → Int32 → Option (Int32)
  | 0, _ => none
  | fu + 1, v4 => (tld m_al w1).bind fun r9 => (if r9 ≤ v4 then K else (tld m_el ((16 * w1) + v4)).bind fun r12 => (tld m_t w2).bind fun r14 => (f_X8_primeOf r14 v4 m_n m_pt).bind fun r16 => (if r12 = r16 then f_X8_compare_L45 w1 w2 m_n m_pt m_t m_al m_el K fu (v4 + 1) else some v4))
def f_X8_compare (a0 : Int32) (a1 : Int32) (m_n : Int32) (m_pt : Int32) (m_t : List Int64) (m_f : List Int32) (m_al : List Int32) (m_el : List Int32) : Option (Int32) := (if (f_X8_isArray a0) = 0 then some (-2) else (if (f_X8_isSlot a1) = 0 then some (-2) else (f_X8_wrongOrNot a1 m_n m_pt m_t m_f).bind fun r3 => (if r3 = 0 then (tld m_al a0).bind fun r6 => (if r6 = (-1) then some (-11) else f_X8_compare_L45 a0 a1 m_n m_pt m_t m_al m_el (some (-1)) tFU 0) else some r3)))
set_option maxRecDepth 20000 in
set_option maxHeartbeats 4000000 in
theorem ev_X8_compare_L45 {l : Launch} {E : tEn}   {m_n : Int32} {m_pt : Int32} {m_rc : Int32} {m_sa : Int64} {m_sb : Int64} {m_sc : Int32} {m_is : Int32} {m_os : Int32} {m_vn : Int32} {m_vc : Int32} {m_va : Int64} {m_vb : Int64} {m_ve : Int32} {m_no : Int32} {m_pl : Int32} {m_fa : Int32} {m_oc : Int32} {m_fu : Int32} {m_ke : Int32} {m_t : List Int64} {m_f : List Int32} {m_rs : List Int32} {m_rt : List Int64} {m_rf : List Int32} {m_st : List Int32} {m_ib : List Int32} {m_ob : List Int32} {m_al : List Int32} {m_el : List Int32} {m_vt : List Int64} {m_vf : List Int32} {m_vs : List Int32} {m_nr : List Int32} {m_ty : List Int32} {m_pa : List Int32} {m_fn : List Int64} {m_md : List Int64} {m_ms : List Int32} {m_mr : List Int32} {w1 : Int32} {w2 : Int32} {K : Option (Int32)} (hK : ∀   (res : Int32), K  = some res → tG l E RX8 cX8_compare 5 (some .int) false 5 (fun r h' => r = some (.int res) ∧ h' = encM m_n m_pt m_rc m_sa m_sb m_sc m_is m_os m_vn m_vc m_va m_vb m_ve m_no m_pl m_fa m_oc m_fu m_ke m_t m_f m_rs m_rt m_rf m_st m_ib m_ob m_al m_el m_vt m_vf m_vs m_nr m_ty m_pa m_fn m_md m_ms m_mr) 0 0 92 [] [] (encM m_n m_pt m_rc m_sa m_sb m_sc m_is m_os m_vn m_vc m_va m_vb m_ve m_no m_pl m_fa m_oc m_fu m_ke m_t m_f m_rs m_rt m_rf m_st m_ib m_ob m_al m_el m_vt m_vf m_vs m_nr m_ty m_pa m_fn m_md m_ms m_mr)) :
    ∀ (fu : Nat) (v4 : Int32) (res : Int32), f_X8_compare_L45 w1 w2 m_n m_pt m_t m_al m_el K fu v4 = some res → tG l E RX8 cX8_compare 5 (some .int) false 5 (fun r h' => r = some (.int res) ∧ h' = encM m_n m_pt m_rc m_sa m_sb m_sc m_is m_os m_vn m_vc m_va m_vb m_ve m_no m_pl m_fa m_oc m_fu m_ke m_t m_f m_rs m_rt m_rf m_st m_ib m_ob m_al m_el m_vt m_vf m_vs m_nr m_ty m_pa m_fn m_md m_ms m_mr) 0 0 45 [(0, .ref 0), (1, .int w1), (2, .int w2), (4, .int v4)] [] (encM m_n m_pt m_rc m_sa m_sb m_sc m_is m_os m_vn m_vc m_va m_vb m_ve m_no m_pl m_fa m_oc m_fu m_ke m_t m_f m_rs m_rt m_rf m_st m_ib m_ob m_al m_el m_vt m_vf m_vs m_nr m_ty m_pa m_fn m_md m_ms m_mr) := by
  intro fu
  induction fu with
  | zero => intro v4 res hf; exact nomatch (show none = some res from hf)
  | succ fu ih =>
    intro v4 res hf
    rw [f_X8_compare_L45] at hf
    refine g_iload 3 (q := 47) dX8_compare_45 rfl rfl ?_
    refine g_aload_n 0 (q := 48) dX8_compare_47 rfl rfl ?_
    refine g_get (q := 51) fl_X8_43 dX8_compare_48 rfl rfl rfl ?_
    refine g_iload_n 1 (q := 52) dX8_compare_51 rfl rfl ?_
    obtain ⟨r9, e10, hf⟩ := Option.bind_eq_some_iff.mp hf
    refine g_iaload (q := 53) dX8_compare_52 rfl rfl e10 ?_
    refine g_icmp_ge (t := 92) (q := 56) dX8_compare_53 (by decide) rfl (fun c11 => ?_) (fun c11 => ?_)
    · rw [if_pos c11] at hf
      refine g_ls [] rfl ?_
      exact hK _ hf
    · rw [if_neg c11] at hf
      refine g_aload_n 0 (q := 57) dX8_compare_56 rfl rfl ?_
      refine g_get (q := 60) fl_X8_46 dX8_compare_57 rfl rfl rfl ?_
      refine g_bipush (q := 62) (v := 16) dX8_compare_60 rfl rfl ?_
      refine g_iload_n 1 (q := 63) dX8_compare_62 rfl rfl ?_
      refine g_imul (q := 64) dX8_compare_63 rfl ?_
      refine g_iload 3 (q := 66) dX8_compare_64 rfl rfl ?_
      refine g_iadd (q := 67) dX8_compare_66 rfl ?_
      obtain ⟨r12, e13, hf⟩ := Option.bind_eq_some_iff.mp hf
      refine g_iaload (q := 68) dX8_compare_67 rfl rfl e13 ?_
      refine g_aload_n 0 (q := 69) dX8_compare_68 rfl rfl ?_
      refine g_aload_n 0 (q := 70) dX8_compare_69 rfl rfl ?_
      refine g_get (q := 73) fl_X8_16 dX8_compare_70 rfl rfl rfl ?_
      refine g_iload_n 2 (q := 74) dX8_compare_73 rfl rfl ?_
      obtain ⟨r14, e15, hf⟩ := Option.bind_eq_some_iff.mp hf
      refine g_laload (q := 75) dX8_compare_74 rfl rfl e15 ?_
      refine g_iload 3 (q := 77) dX8_compare_75 rfl rfl ?_
      obtain ⟨r16, e17, hf⟩ := Option.bind_eq_some_iff.mp hf
      refine g_callV (a := 0) (k2 := 0) (n2 := 0) (q := 80) (as := [.long r14, .int v4]) (st := [.int r12]) (st1 := [.int r16, .int r12]) tm_X8_primeOf ml_X8_156 ti_X8_primeOf rfl rfl dX8_compare_77 rfl (ev_X8_primeOf e17) rfl rfl (Nat.le_of_ble_eq_true rfl) (by decide) rfl rfl (Or.inl rfl) rfl ?_
      refine g_icmp_eq (t := 86) (q := 83) dX8_compare_80 (by decide) rfl (fun c18 => ?_) (fun c18 => ?_)
      · rw [if_pos c18] at hf
        refine g_iinc 3 (q := 89) (v := (v4 + 1)) (L' := [(0, .ref 0), (1, .int w1), (2, .int w2), (4, .int (v4 + 1))]) dX8_compare_86 rfl rfl rfl (by decide) rfl ?_
        refine g_goto (t := 45) dX8_compare_89 (by decide) ?_
        refine g_ls [0, 1, 2, 3] rfl ?_
        exact ih _ _ hf
      · rw [if_neg c18] at hf
        refine g_iload 3 (q := 85) dX8_compare_83 rfl rfl ?_
        have hf := Option.some.inj hf
        subst hf
        exact g_ireturn dX8_compare_85 rfl ⟨rfl, rfl⟩
set_option maxRecDepth 20000 in
set_option maxHeartbeats 4000000 in
theorem ev_X8_compare {l : Launch} {E : tEn}  {m_n : Int32} {m_pt : Int32} {m_rc : Int32} {m_sa : Int64} {m_sb : Int64} {m_sc : Int32} {m_is : Int32} {m_os : Int32} {m_vn : Int32} {m_vc : Int32} {m_va : Int64} {m_vb : Int64} {m_ve : Int32} {m_no : Int32} {m_pl : Int32} {m_fa : Int32} {m_oc : Int32} {m_fu : Int32} {m_ke : Int32} {m_t : List Int64} {m_f : List Int32} {m_rs : List Int32} {m_rt : List Int64} {m_rf : List Int32} {m_st : List Int32} {m_ib : List Int32} {m_ob : List Int32} {m_al : List Int32} {m_el : List Int32} {m_vt : List Int64} {m_vf : List Int32} {m_vs : List Int32} {m_nr : List Int32} {m_ty : List Int32} {m_pa : List Int32} {m_fn : List Int64} {m_md : List Int64} {m_ms : List Int32} {m_mr : List Int32} {a0 : Int32} {a1 : Int32} {res : Int32} (hf : f_X8_compare a0 a1 m_n m_pt m_t m_f m_al m_el = some res) : tEv l E yX8_compare cX8_compare 5 (some .int) 5 0 0 [.ref 0, .int a0, .int a1] (encM m_n m_pt m_rc m_sa m_sb m_sc m_is m_os m_vn m_vc m_va m_vb m_ve m_no m_pl m_fa m_oc m_fu m_ke m_t m_f m_rs m_rt m_rf m_st m_ib m_ob m_al m_el m_vt m_vf m_vs m_nr m_ty m_pa m_fn m_md m_ms m_mr) (fun r h' => r = some (.int res) ∧ h' = encM m_n m_pt m_rc m_sa m_sb m_sc m_is m_os m_vn m_vc m_va m_vb m_ve m_no m_pl m_fa m_oc m_fu m_ke m_t m_f m_rs m_rt m_rf m_st m_ib m_ob m_al m_el m_vt m_vf m_vs m_nr m_ty m_pa m_fn m_md m_ms m_mr) := by
  refine tEv.of (own := RX8) (ini := false) (L := [(0, .ref 0), (1, .int a0), (2, .int a1)]) (by decide +kernel) rfl (fun h9 => nomatch h9) rfl (Nat.le_of_ble_eq_true rfl) ?_
  rw [f_X8_compare] at hf
  refine g_iload_n 1 (q := 1) dX8_compare_0 rfl rfl ?_
  refine g_callS (k2 := 0) (n2 := 0) (q := 4) (as := [.int a0]) (st := []) (st1 := [.int (f_X8_isArray a0)]) tm_X8_isArray ml_X8_322 ts_X8_isArray dX8_compare_1 rfl ev_X8_isArray rfl rfl (Nat.le_of_ble_eq_true rfl) (by decide) rfl rfl (Or.inl rfl) rfl ?_
  refine g_if_eq (t := 14) (q := 7) dX8_compare_4 (by decide) rfl (fun c1 => ?_) (fun c1 => ?_)
  · rw [if_pos c1] at hf
    refine g_bipush (q := 16) (v := (-2)) dX8_compare_14 rfl rfl ?_
    have hf := Option.some.inj hf
    subst hf
    exact g_ireturn dX8_compare_16 rfl ⟨rfl, rfl⟩
  · rw [if_neg c1] at hf
    refine g_iload_n 2 (q := 8) dX8_compare_7 rfl rfl ?_
    refine g_callS (k2 := 0) (n2 := 0) (q := 11) (as := [.int a1]) (st := []) (st1 := [.int (f_X8_isSlot a1)]) tm_X8_isSlot ml_X8_118 ts_X8_isSlot dX8_compare_8 rfl ev_X8_isSlot rfl rfl (Nat.le_of_ble_eq_true rfl) (by decide) rfl rfl (Or.inl rfl) rfl ?_
    refine g_if_ne (t := 17) (q := 14) dX8_compare_11 (by decide) rfl (fun c2 => ?_) (fun c2 => ?_)
    · rw [if_neg c2] at hf
      refine g_aload_n 0 (q := 18) dX8_compare_17 rfl rfl ?_
      refine g_iload_n 2 (q := 19) dX8_compare_18 rfl rfl ?_
      obtain ⟨r3, e4, hf⟩ := Option.bind_eq_some_iff.mp hf
      refine g_callV (a := 0) (k2 := 0) (n2 := 0) (q := 22) (as := [.int a1]) (st := []) (st1 := [.int r3]) tm_X8_wrongOrNot ml_X8_150 ti_X8_wrongOrNot rfl rfl dX8_compare_19 rfl (ev_X8_wrongOrNot e4) rfl rfl (Nat.le_of_ble_eq_true rfl) (by decide) rfl rfl (Or.inl rfl) rfl ?_
      refine g_istore_n (q := 23) (L' := [(0, .ref 0), (1, .int a0), (2, .int a1), (3, .int r3)]) dX8_compare_22 rfl (by decide) rfl ?_
      refine g_iload_n 3 (q := 24) dX8_compare_23 rfl rfl ?_
      refine g_if_eq (t := 29) (q := 27) dX8_compare_24 (by decide) rfl (fun c5 => ?_) (fun c5 => ?_)
      · rw [if_pos c5] at hf
        refine g_aload_n 0 (q := 30) dX8_compare_29 rfl rfl ?_
        refine g_get (q := 33) fl_X8_43 dX8_compare_30 rfl rfl rfl ?_
        refine g_iload_n 1 (q := 34) dX8_compare_33 rfl rfl ?_
        obtain ⟨r6, e7, hf⟩ := Option.bind_eq_some_iff.mp hf
        refine g_iaload (q := 35) dX8_compare_34 rfl rfl e7 ?_
        refine g_iconst (q := 36) (v := (-1)) dX8_compare_35 rfl rfl ?_
        refine g_icmp_ne (t := 42) (q := 39) dX8_compare_36 (by decide) rfl (fun c8 => ?_) (fun c8 => ?_)
        · rw [if_neg c8] at hf
          refine g_iconst (q := 43) (v := 0) dX8_compare_42 rfl rfl ?_
          refine g_istore (q := 45) (L' := [(0, .ref 0), (1, .int a0), (2, .int a1), (3, .int r3), (4, .int 0)]) dX8_compare_43 rfl (by decide) rfl ?_
          refine g_ls [0, 1, 2, 4] rfl ?_
          refine ev_X8_compare_L45 (fun  res hf => ?_) tFU _ res hf
          refine g_iconst (q := 93) (v := (-1)) dX8_compare_92 rfl rfl ?_
          have hf := Option.some.inj hf
          subst hf
          exact g_ireturn dX8_compare_93 rfl ⟨rfl, rfl⟩
        · rw [if_pos c8] at hf
          refine g_bipush (q := 41) (v := (-11)) dX8_compare_39 rfl rfl ?_
          have hf := Option.some.inj hf
          subst hf
          exact g_ireturn dX8_compare_41 rfl ⟨rfl, rfl⟩
      · rw [if_neg c5] at hf
        refine g_iload_n 3 (q := 28) dX8_compare_27 rfl rfl ?_
        have hf := Option.some.inj hf
        subst hf
        exact g_ireturn dX8_compare_28 rfl ⟨rfl, rfl⟩
    · rw [if_pos c2] at hf
      refine g_bipush (q := 16) (v := (-2)) dX8_compare_14 rfl rfl ?_
      have hf := Option.some.inj hf
      subst hf
      exact g_ireturn dX8_compare_16 rfl ⟨rfl, rfl⟩
def f_X8_undoable  (m_rc : Int32) : Int32 := m_rc
set_option maxRecDepth 20000 in
set_option maxHeartbeats 4000000 in
theorem ev_X8_undoable {l : Launch} {E : tEn}  {m_n : Int32} {m_pt : Int32} {m_rc : Int32} {m_sa : Int64} {m_sb : Int64} {m_sc : Int32} {m_is : Int32} {m_os : Int32} {m_vn : Int32} {m_vc : Int32} {m_va : Int64} {m_vb : Int64} {m_ve : Int32} {m_no : Int32} {m_pl : Int32} {m_fa : Int32} {m_oc : Int32} {m_fu : Int32} {m_ke : Int32} {m_t : List Int64} {m_f : List Int32} {m_rs : List Int32} {m_rt : List Int64} {m_rf : List Int32} {m_st : List Int32} {m_ib : List Int32} {m_ob : List Int32} {m_al : List Int32} {m_el : List Int32} {m_vt : List Int64} {m_vf : List Int32} {m_vs : List Int32} {m_nr : List Int32} {m_ty : List Int32} {m_pa : List Int32} {m_fn : List Int64} {m_md : List Int64} {m_ms : List Int32} {m_mr : List Int32}  : tEv l E yX8_undoable cX8_undoable 1 (some .int) 1 0 0 [.ref 0] (encM m_n m_pt m_rc m_sa m_sb m_sc m_is m_os m_vn m_vc m_va m_vb m_ve m_no m_pl m_fa m_oc m_fu m_ke m_t m_f m_rs m_rt m_rf m_st m_ib m_ob m_al m_el m_vt m_vf m_vs m_nr m_ty m_pa m_fn m_md m_ms m_mr) (fun r h' => r = some (.int (f_X8_undoable m_rc)) ∧ h' = encM m_n m_pt m_rc m_sa m_sb m_sc m_is m_os m_vn m_vc m_va m_vb m_ve m_no m_pl m_fa m_oc m_fu m_ke m_t m_f m_rs m_rt m_rf m_st m_ib m_ob m_al m_el m_vt m_vf m_vs m_nr m_ty m_pa m_fn m_md m_ms m_mr) := by
  refine tEv.of (own := RX8) (ini := false) (L := [(0, .ref 0)]) (by decide +kernel) rfl (fun h9 => nomatch h9) rfl (Nat.le_of_ble_eq_true rfl) ?_
  obtain ⟨res, hf⟩ : ∃ z, f_X8_undoable m_rc = z := ⟨_, rfl⟩
  rw [hf]
  rw [f_X8_undoable] at hf
  refine g_aload_n 0 (q := 1) dX8_undoable_0 rfl rfl ?_
  refine g_get (q := 4) fl_X8_95 dX8_undoable_1 rfl rfl rfl ?_
  subst hf
  exact g_ireturn dX8_undoable_4 rfl ⟨rfl, rfl⟩
