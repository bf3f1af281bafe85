/-! written by wip/whole/main.py out of the bytecode: a pure function for each method, and its contract -/
def f_X8_essential (a0 : Int32) (m_n : Int32) (m_pt : Int32) (m_t : List Int64) (m_f : List Int32) : Option (Int32) := (f_X8_wrong a0 m_f).bind fun r1 => (if r1 = 0 then (tld m_t a0).bind fun r4 => (f_X8_essentialOf r4 m_n m_pt).bind fun r6 => some r6 else (f_X8_wrong a0 m_f).bind fun r8 => some r8)
set_option maxRecDepth 20000 in
set_option maxHeartbeats 4000000 in
theorem ev_X8_essential {l : Launch} {E : tEn}  {m_n : Int32} {m_pt : Int32} {m_rc : Int32} {m_sa : Int64} {m_sb : Int64} {m_sc : Int32} {m_is : Int32} {m_os : Int32} {m_vn : Int32} {m_vc : Int32} {m_va : Int64} {m_vb : Int64} {m_ve : Int32} {m_no : Int32} {m_pl : Int32} {m_fa : Int32} {m_oc : Int32} {m_fu : Int32} {m_ke : Int32} {m_t : List Int64} {m_f : List Int32} {m_rs : List Int32} {m_rt : List Int64} {m_rf : List Int32} {m_st : List Int32} {m_ib : List Int32} {m_ob : List Int32} {m_al : List Int32} {m_el : List Int32} {m_vt : List Int64} {m_vf : List Int32} {m_vs : List Int32} {m_nr : List Int32} {m_ty : List Int32} {m_pa : List Int32} {m_fn : List Int64} {m_md : List Int64} {m_ms : List Int32} {m_mr : List Int32} {a0 : Int32} {res : Int32} (hf : f_X8_essential a0 m_n m_pt m_t m_f = some res) : tEv l E yX8_essential cX8_essential 2 (some .int) 4 0 0 [.ref 0, .int a0] (encM m_n m_pt m_rc m_sa m_sb m_sc m_is m_os m_vn m_vc m_va m_vb m_ve m_no m_pl m_fa m_oc m_fu m_ke m_t m_f m_rs m_rt m_rf m_st m_ib m_ob m_al m_el m_vt m_vf m_vs m_nr m_ty m_pa m_fn m_md m_ms m_mr) (fun r h' => r = some (.int res) ∧ h' = encM m_n m_pt m_rc m_sa m_sb m_sc m_is m_os m_vn m_vc m_va m_vb m_ve m_no m_pl m_fa m_oc m_fu m_ke m_t m_f m_rs m_rt m_rf m_st m_ib m_ob m_al m_el m_vt m_vf m_vs m_nr m_ty m_pa m_fn m_md m_ms m_mr) := by
  refine tEv.of (own := RX8) (ini := false) (L := [(0, .ref 0), (1, .int a0)]) (by decide +kernel) rfl (fun h9 => nomatch h9) rfl (Nat.le_of_ble_eq_true rfl) ?_
  rw [f_X8_essential] at hf
  refine g_aload_n 0 (q := 1) dX8_essential_0 rfl rfl ?_
  refine g_iload_n 1 (q := 2) dX8_essential_1 rfl rfl ?_
  obtain ⟨r1, e2, hf⟩ := Option.bind_eq_some_iff.mp hf
  refine g_callV (a := 0) (k2 := 0) (n2 := 0) (q := 5) (as := [.int a0]) (st := []) (st1 := [.int r1]) tm_X8_wrong ml_X8_137 ti_X8_wrong rfl rfl dX8_essential_2 rfl (ev_X8_wrong e2) rfl rfl (Nat.le_of_ble_eq_true rfl) (by decide) rfl rfl (Or.inl rfl) rfl ?_
  refine g_if_eq (t := 16) (q := 8) dX8_essential_5 (by decide) rfl (fun c3 => ?_) (fun c3 => ?_)
  · rw [if_pos c3] at hf
    refine g_aload_n 0 (q := 17) dX8_essential_16 rfl rfl ?_
    refine g_aload_n 0 (q := 18) dX8_essential_17 rfl rfl ?_
    refine g_get (q := 21) fl_X8_16 dX8_essential_18 rfl rfl rfl ?_
    refine g_iload_n 1 (q := 22) dX8_essential_21 rfl rfl ?_
    obtain ⟨r4, e5, hf⟩ := Option.bind_eq_some_iff.mp hf
    refine g_laload (q := 23) dX8_essential_22 rfl rfl e5 ?_
    obtain ⟨r6, e7, hf⟩ := Option.bind_eq_some_iff.mp hf
    refine g_callV (a := 0) (k2 := 0) (n2 := 0) (q := 26) (as := [.long r4]) (st := []) (st1 := [.int r6]) tm_X8_essentialOf ml_X8_141 ti_X8_essentialOf rfl rfl dX8_essential_23 rfl (ev_X8_essentialOf e7) rfl rfl (Nat.le_of_ble_eq_true rfl) (by decide) rfl rfl (Or.inl rfl) rfl ?_
    have hf := Option.some.inj hf
    subst hf
    exact g_ireturn dX8_essential_26 rfl ⟨rfl, rfl⟩
  · rw [if_neg c3] at hf
    refine g_aload_n 0 (q := 9) dX8_essential_8 rfl rfl ?_
    refine g_iload_n 1 (q := 10) dX8_essential_9 rfl rfl ?_
    obtain ⟨r8, e9, hf⟩ := Option.bind_eq_some_iff.mp hf
    refine g_callV (a := 0) (k2 := 0) (n2 := 0) (q := 13) (as := [.int a0]) (st := []) (st1 := [.int r8]) tm_X8_wrong ml_X8_137 ti_X8_wrong rfl rfl dX8_essential_10 rfl (ev_X8_wrong e9) rfl rfl (Nat.le_of_ble_eq_true rfl) (by decide) rfl rfl (Or.inl rfl) rfl ?_
    refine g_goto (t := 26) dX8_essential_13 (by decide) ?_
    have hf := Option.some.inj hf
    subst hf
    exact g_ireturn dX8_essential_26 rfl ⟨rfl, rfl⟩
def f_X8_violation_L13 (w1 : Int64) (w3 : Int32) (m_n : Int32) (K : Option (Int32)) : Nat → Int32 → Option (Int32)
  | 0, _ => none
  | fu + 1, v4 => (if m_n ≤ v4 then K else (if ((w3 >>> (v4 &&& 31)) &&& 1) = 0 then (if (f_X8_at w1 w3) = 0 then f_X8_violation_L13 w1 w3 m_n K fu (v4 + 1) else (if (f_X8_at w1 (w3 ||| ((1 : Int32) <<< (v4 &&& 31)))) = 0 then some w3 else f_X8_violation_L13 w1 w3 m_n K fu (v4 + 1))) else f_X8_violation_L13 w1 w3 m_n K fu (v4 + 1)))
def f_X8_violation_L2 (w1 : Int64) (m_n : Int32) (m_pt : Int32) (K : Option (Int32)) : Nat → Int32 → Option (Int32)
  | 0, _ => none
  | fu + 1, v3 => (if m_pt ≤ v3 then K else f_X8_violation_L13 w1 v3 m_n (f_X8_violation_L2 w1 m_n m_pt K fu (v3 + 1)) tFU 0)
def f_X8_violation (a0 : Int64) (m_n : Int32) (m_pt : Int32) : Option (Int32) := f_X8_violation_L2 a0 m_n m_pt (some (-1)) tFU 0
set_option maxRecDepth 20000 in
set_option maxHeartbeats 4000000 in
theorem ev_X8_violation_L13 {l : Launch} {E : tEn}   {m_n : Int32} {m_pt : Int32} {m_rc : Int32} {m_sa : Int64} {m_sb : Int64} {m_sc : Int32} {m_is : Int32} {m_os : Int32} {m_vn : Int32} {m_vc : Int32} {m_va : Int64} {m_vb : Int64} {m_ve : Int32} {m_no : Int32} {m_pl : Int32} {m_fa : Int32} {m_oc : Int32} {m_fu : Int32} {m_ke : Int32} {m_t : List Int64} {m_f : List Int32} {m_rs : List Int32} {m_rt : List Int64} {m_rf : List Int32} {m_st : List Int32} {m_ib : List Int32} {m_ob : List Int32} {m_al : List Int32} {m_el : List Int32} {m_vt : List Int64} {m_vf : List Int32} {m_vs : List Int32} {m_nr : List Int32} {m_ty : List Int32} {m_pa : List Int32} {m_fn : List Int64} {m_md : List Int64} {m_ms : List Int32} {m_mr : List Int32} {w1 : Int64} {w3 : Int32} {K : Option (Int32)} (hK : ∀   (res : Int32), K  = some res → tG l E RX8 cX8_violation 5 (some .int) false 2 (fun r h' => r = some (.int res) ∧ h' = encM m_n m_pt m_rc m_sa m_sb m_sc m_is m_os m_vn m_vc m_va m_vb m_ve m_no m_pl m_fa m_oc m_fu m_ke m_t m_f m_rs m_rt m_rf m_st m_ib m_ob m_al m_el m_vt m_vf m_vs m_nr m_ty m_pa m_fn m_md m_ms m_mr) 0 0 60 [(0, .ref 0), (1, .long w1), (3, .int w3)] [] (encM m_n m_pt m_rc m_sa m_sb m_sc m_is m_os m_vn m_vc m_va m_vb m_ve m_no m_pl m_fa m_oc m_fu m_ke m_t m_f m_rs m_rt m_rf m_st m_ib m_ob m_al m_el m_vt m_vf m_vs m_nr m_ty m_pa m_fn m_md m_ms m_mr)) :
    ∀ (fu : Nat) (v4 : Int32) (res : Int32), f_X8_violation_L13 w1 w3 m_n K fu v4 = some res → tG l E RX8 cX8_violation 5 (some .int) false 2 (fun r h' => r = some (.int res) ∧ h' = encM m_n m_pt m_rc m_sa m_sb m_sc m_is m_os m_vn m_vc m_va m_vb m_ve m_no m_pl m_fa m_oc m_fu m_ke m_t m_f m_rs m_rt m_rf m_st m_ib m_ob m_al m_el m_vt m_vf m_vs m_nr m_ty m_pa m_fn m_md m_ms m_mr) 0 0 13 [(0, .ref 0), (1, .long w1), (3, .int w3), (4, .int v4)] [] (encM m_n m_pt m_rc m_sa m_sb m_sc m_is m_os m_vn m_vc m_va m_vb m_ve m_no m_pl m_fa m_oc m_fu m_ke m_t m_f m_rs m_rt m_rf m_st m_ib m_ob m_al m_el m_vt m_vf m_vs m_nr m_ty m_pa m_fn m_md m_ms m_mr) := by
  intro fu
  induction fu with
  | zero => intro v4 res hf; exact nomatch (show none = some res from hf)
  | succ fu ih =>
    intro v4 res hf
    rw [f_X8_violation_L13] at hf
    refine g_iload 3 (q := 15) dX8_violation_13 rfl rfl ?_
    refine g_aload_n 0 (q := 16) dX8_violation_15 rfl rfl ?_
    refine g_get (q := 19) fl_X8_7 dX8_violation_16 rfl rfl rfl ?_
    refine g_icmp_ge (t := 60) (q := 22) dX8_violation_19 (by decide) rfl (fun c2 => ?_) (fun c2 => ?_)
    · rw [if_pos c2] at hf
      refine g_ls [0, 1, 2] rfl ?_
      exact hK _ hf
    · rw [if_neg c2] at hf
      refine g_iload_n 2 (q := 23) dX8_violation_22 rfl rfl ?_
      refine g_iload 3 (q := 25) dX8_violation_23 rfl rfl ?_
      refine g_ishr (q := 26) dX8_violation_25 rfl ?_
      refine g_iconst (q := 27) (v := 1) dX8_violation_26 rfl rfl ?_
      refine g_iand (q := 28) dX8_violation_27 rfl ?_
      refine g_if_ne (t := 54) (q := 31) dX8_violation_28 (by decide) rfl (fun c3 => ?_) (fun c3 => ?_)
      · rw [if_neg c3] at hf
        refine g_iinc 3 (q := 57) (v := (v4 + 1)) (L' := [(0, .ref 0), (1, .long w1), (3, .int w3), (4, .int (v4 + 1))]) dX8_violation_54 rfl rfl rfl (by decide) rfl ?_
        refine g_goto (t := 13) dX8_violation_57 (by decide) ?_
        refine g_ls [0, 1, 2, 3] rfl ?_
        exact ih _ _ hf
      · rw [if_pos c3] at hf
        refine g_lload_n 1 (q := 32) dX8_violation_31 rfl rfl ?_
        refine g_iload_n 2 (q := 33) dX8_violation_32 rfl rfl ?_
        refine g_callS (k2 := 0) (n2 := 0) (q := 36) (as := [.long w1, .int w3]) (st := []) (st1 := [.int (f_X8_at w1 w3)]) tm_X8_at ml_X8_91 ts_X8_at dX8_violation_33 rfl ev_X8_at rfl rfl (Nat.le_of_ble_eq_true rfl) (by decide) rfl rfl (Or.inl rfl) rfl ?_
        refine g_if_eq (t := 54) (q := 39) dX8_violation_36 (by decide) rfl (fun c4 => ?_) (fun c4 => ?_)
        · rw [if_pos c4] at hf
          refine g_iinc 3 (q := 57) (v := (v4 + 1)) (L' := [(0, .ref 0), (1, .long w1), (3, .int w3), (4, .int (v4 + 1))]) dX8_violation_54 rfl rfl rfl (by decide) rfl ?_
          refine g_goto (t := 13) dX8_violation_57 (by decide) ?_
          refine g_ls [0, 1, 2, 3] rfl ?_
          exact ih _ _ hf
        · rw [if_neg c4] at hf
          refine g_lload_n 1 (q := 40) dX8_violation_39 rfl rfl ?_
          refine g_iload_n 2 (q := 41) dX8_violation_40 rfl rfl ?_
          refine g_iconst (q := 42) (v := 1) dX8_violation_41 rfl rfl ?_
          refine g_iload 3 (q := 44) dX8_violation_42 rfl rfl ?_
          refine g_ishl (q := 45) dX8_violation_44 rfl ?_
          refine g_ior (q := 46) dX8_violation_45 rfl ?_
          refine g_callS (k2 := 0) (n2 := 0) (q := 49) (as := [.long w1, .int (w3 ||| ((1 : Int32) <<< (v4 &&& 31)))]) (st := []) (st1 := [.int (f_X8_at w1 (w3 ||| ((1 : Int32) <<< (v4 &&& 31))))]) tm_X8_at ml_X8_91 ts_X8_at dX8_violation_46 rfl ev_X8_at rfl rfl (Nat.le_of_ble_eq_true rfl) (by decide) rfl rfl (Or.inl rfl) rfl ?_
          refine g_if_ne (t := 54) (q := 52) dX8_violation_49 (by decide) rfl (fun c5 => ?_) (fun c5 => ?_)
          · rw [if_neg c5] at hf
            refine g_iinc 3 (q := 57) (v := (v4 + 1)) (L' := [(0, .ref 0), (1, .long w1), (3, .int w3), (4, .int (v4 + 1))]) dX8_violation_54 rfl rfl rfl (by decide) rfl ?_
            refine g_goto (t := 13) dX8_violation_57 (by decide) ?_
            refine g_ls [0, 1, 2, 3] rfl ?_
            exact ih _ _ hf
          · rw [if_pos c5] at hf
            refine g_iload_n 2 (q := 53) dX8_violation_52 rfl rfl ?_
            have hf := Option.some.inj hf
            subst hf
            exact g_ireturn dX8_violation_53 rfl ⟨rfl, rfl⟩
set_option maxRecDepth 20000 in
set_option maxHeartbeats 4000000 in
theorem ev_X8_violation_L2 {l : Launch} {E : tEn}   {m_n : Int32} {m_pt : Int32} {m_rc : Int32} {m_sa : Int64} {m_sb : Int64} {m_sc : Int32} {m_is : Int32} {m_os : Int32} {m_vn : Int32} {m_vc : Int32} {m_va : Int64} {m_vb : Int64} {m_ve : Int32} {m_no : Int32} {m_pl : Int32} {m_fa : Int32} {m_oc : Int32} {m_fu : Int32} {m_ke : Int32} {m_t : List Int64} {m_f : List Int32} {m_rs : List Int32} {m_rt : List Int64} {m_rf : List Int32} {m_st : List Int32} {m_ib : List Int32} {m_ob : List Int32} {m_al : List Int32} {m_el : List Int32} {m_vt : List Int64} {m_vf : List Int32} {m_vs : List Int32} {m_nr : List Int32} {m_ty : List Int32} {m_pa : List Int32} {m_fn : List Int64} {m_md : List Int64} {m_ms : List Int32} {m_mr : List Int32} {w1 : Int64} {K : Option (Int32)} (hK : ∀   (res : Int32), K  = some res → tG l E RX8 cX8_violation 5 (some .int) false 2 (fun r h' => r = some (.int res) ∧ h' = encM m_n m_pt m_rc m_sa m_sb m_sc m_is m_os m_vn m_vc m_va m_vb m_ve m_no m_pl m_fa m_oc m_fu m_ke m_t m_f m_rs m_rt m_rf m_st m_ib m_ob m_al m_el m_vt m_vf m_vs m_nr m_ty m_pa m_fn m_md m_ms m_mr) 0 0 66 [] [] (encM m_n m_pt m_rc m_sa m_sb m_sc m_is m_os m_vn m_vc m_va m_vb m_ve m_no m_pl m_fa m_oc m_fu m_ke m_t m_f m_rs m_rt m_rf m_st m_ib m_ob m_al m_el m_vt m_vf m_vs m_nr m_ty m_pa m_fn m_md m_ms m_mr)) :
    ∀ (fu : Nat) (v3 : Int32) (res : Int32), f_X8_violation_L2 w1 m_n m_pt K fu v3 = some res → tG l E RX8 cX8_violation 5 (some .int) false 2 (fun r h' => r = some (.int res) ∧ h' = encM m_n m_pt m_rc m_sa m_sb m_sc m_is m_os m_vn m_vc m_va m_vb m_ve m_no m_pl m_fa m_oc m_fu m_ke m_t m_f m_rs m_rt m_rf m_st m_ib m_ob m_al m_el m_vt m_vf m_vs m_nr m_ty m_pa m_fn m_md m_ms m_mr) 0 0 2 [(0, .ref 0), (1, .long w1), (3, .int v3)] [] (encM m_n m_pt m_rc m_sa m_sb m_sc m_is m_os m_vn m_vc m_va m_vb m_ve m_no m_pl m_fa m_oc m_fu m_ke m_t m_f m_rs m_rt m_rf m_st m_ib m_ob m_al m_el m_vt m_vf m_vs m_nr m_ty m_pa m_fn m_md m_ms m_mr) := by
  intro fu
  induction fu with
  | zero => intro v3 res hf; exact nomatch (show none = some res from hf)
  | succ fu ih =>
    intro v3 res hf
    rw [f_X8_violation_L2] at hf
    refine g_iload_n 2 (q := 3) dX8_violation_2 rfl rfl ?_
    refine g_aload_n 0 (q := 4) dX8_violation_3 rfl rfl ?_
    refine g_get (q := 7) fl_X8_13 dX8_violation_4 rfl rfl rfl ?_
    refine g_icmp_ge (t := 66) (q := 10) dX8_violation_7 (by decide) rfl (fun c1 => ?_) (fun c1 => ?_)
    · rw [if_pos c1] at hf
      refine g_ls [] rfl ?_
      exact hK _ hf
    · rw [if_neg c1] at hf
      refine g_iconst (q := 11) (v := 0) dX8_violation_10 rfl rfl ?_
      refine g_istore (q := 13) (L' := [(0, .ref 0), (1, .long w1), (3, .int v3), (4, .int 0)]) dX8_violation_11 rfl (by decide) rfl ?_
      refine g_ls [0, 1, 2, 3] rfl ?_
      refine ev_X8_violation_L13 (fun  res hf => ?_) tFU _ res hf
      refine g_iinc 2 (q := 63) (v := (v3 + 1)) (L' := [(0, .ref 0), (1, .long w1), (3, .int (v3 + 1))]) dX8_violation_60 rfl rfl rfl (by decide) rfl ?_
      refine g_goto (t := 2) dX8_violation_63 (by decide) ?_
      refine g_ls [0, 1, 2] rfl ?_
      exact ih _ _ hf
set_option maxRecDepth 20000 in
set_option maxHeartbeats 4000000 in
theorem ev_X8_violation {l : Launch} {E : tEn}  {m_n : Int32} {m_pt : Int32} {m_rc : Int32} {m_sa : Int64} {m_sb : Int64} {m_sc : Int32} {m_is : Int32} {m_os : Int32} {m_vn : Int32} {m_vc : Int32} {m_va : Int64} {m_vb : Int64} {m_ve : Int32} {m_no : Int32} {m_pl : Int32} {m_fa : Int32} {m_oc : Int32} {m_fu : Int32} {m_ke : Int32} {m_t : List Int64} {m_f : List Int32} {m_rs : List Int32} {m_rt : List Int64} {m_rf : List Int32} {m_st : List Int32} {m_ib : List Int32} {m_ob : List Int32} {m_al : List Int32} {m_el : List Int32} {m_vt : List Int64} {m_vf : List Int32} {m_vs : List Int32} {m_nr : List Int32} {m_ty : List Int32} {m_pa : List Int32} {m_fn : List Int64} {m_md : List Int64} {m_ms : List Int32} {m_mr : List Int32} {a0 : Int64} {res : Int32} (hf : f_X8_violation a0 m_n m_pt = some res) : tEv l E yX8_violation cX8_violation 5 (some .int) 2 0 0 [.ref 0, .long a0] (encM m_n m_pt m_rc m_sa m_sb m_sc m_is m_os m_vn m_vc m_va m_vb m_ve m_no m_pl m_fa m_oc m_fu m_ke m_t m_f m_rs m_rt m_rf m_st m_ib m_ob m_al m_el m_vt m_vf m_vs m_nr m_ty m_pa m_fn m_md m_ms m_mr) (fun r h' => r = some (.int res) ∧ h' = encM m_n m_pt m_rc m_sa m_sb m_sc m_is m_os m_vn m_vc m_va m_vb m_ve m_no m_pl m_fa m_oc m_fu m_ke m_t m_f m_rs m_rt m_rf m_st m_ib m_ob m_al m_el m_vt m_vf m_vs m_nr m_ty m_pa m_fn m_md m_ms m_mr) := by
  refine tEv.of (own := RX8) (ini := false) (L := [(0, .ref 0), (1, .long a0)]) (by decide +kernel) rfl (fun h9 => nomatch h9) rfl (Nat.le_of_ble_eq_true rfl) ?_
  rw [f_X8_violation] at hf
  refine g_iconst (q := 1) (v := 0) dX8_violation_0 rfl rfl ?_
  refine g_istore_n (q := 2) (L' := [(0, .ref 0), (1, .long a0), (3, .int 0)]) dX8_violation_1 rfl (by decide) rfl ?_
  refine g_ls [0, 1, 2] rfl ?_
  refine ev_X8_violation_L2 (fun  res hf => ?_) tFU _ res hf
  refine g_iconst (q := 67) (v := (-1)) dX8_violation_66 rfl rfl ?_
  have hf := Option.some.inj hf
  subst hf
  exact g_ireturn dX8_violation_67 rfl ⟨rfl, rfl⟩
def f_X8_isMonotone (a0 : Int32) (m_n : Int32) (m_pt : Int32) (m_t : List Int64) (m_f : List Int32) : Option (Int32) := (f_X8_wrong a0 m_f).bind fun r1 => (if r1 = 0 then (tld m_t a0).bind fun r4 => (f_X8_violation r4 m_n m_pt).bind fun r6 => (if r6 = (-1) then some 1 else some 0) else (f_X8_wrong a0 m_f).bind fun r9 => some r9)
set_option maxRecDepth 20000 in
set_option maxHeartbeats 4000000 in
theorem ev_X8_isMonotone {l : Launch} {E : tEn}  {m_n : Int32} {m_pt : Int32} {m_rc : Int32} {m_sa : Int64} {m_sb : Int64} {m_sc : Int32} {m_is : Int32} {m_os : Int32} {m_vn : Int32} {m_vc : Int32} {m_va : Int64} {m_vb : Int64} {m_ve : Int32} {m_no : Int32} {m_pl : Int32} {m_fa : Int32} {m_oc : Int32} {m_fu : Int32} {m_ke : Int32} {m_t : List Int64} {m_f : List Int32} {m_rs : List Int32} {m_rt : List Int64} {m_rf : List Int32} {m_st : List Int32} {m_ib : List Int32} {m_ob : List Int32} {m_al : List Int32} {m_el : List Int32} {m_vt : List Int64} {m_vf : List Int32} {m_vs : List Int32} {m_nr : List Int32} {m_ty : List Int32} {m_pa : List Int32} {m_fn : List Int64} {m_md : List Int64} {m_ms : List Int32} {m_mr : List Int32} {a0 : Int32} {res : Int32} (hf : f_X8_isMonotone a0 m_n m_pt m_t m_f = some res) : tEv l E yX8_isMonotone cX8_isMonotone 2 (some .int) 4 0 0 [.ref 0, .int a0] (encM m_n m_pt m_rc m_sa m_sb m_sc m_is m_os m_vn m_vc m_va m_vb m_ve m_no m_pl m_fa m_oc m_fu m_ke m_t m_f m_rs m_rt m_rf m_st m_ib m_ob m_al m_el m_vt m_vf m_vs m_nr m_ty m_pa m_fn m_md m_ms m_mr) (fun r h' => r = some (.int res) ∧ h' = encM m_n m_pt m_rc m_sa m_sb m_sc m_is m_os m_vn m_vc m_va m_vb m_ve m_no m_pl m_fa m_oc m_fu m_ke m_t m_f m_rs m_rt m_rf m_st m_ib m_ob m_al m_el m_vt m_vf m_vs m_nr m_ty m_pa m_fn m_md m_ms m_mr) := by
  refine tEv.of (own := RX8) (ini := false) (L := [(0, .ref 0), (1, .int a0)]) (by decide +kernel) rfl (fun h9 => nomatch h9) rfl (Nat.le_of_ble_eq_true rfl) ?_
  rw [f_X8_isMonotone] at hf
  refine g_aload_n 0 (q := 1) dX8_isMonotone_0 rfl rfl ?_
  refine g_iload_n 1 (q := 2) dX8_isMonotone_1 rfl rfl ?_
  obtain ⟨r1, e2, hf⟩ := Option.bind_eq_some_iff.mp hf
  refine g_callV (a := 0) (k2 := 0) (n2 := 0) (q := 5) (as := [.int a0]) (st := []) (st1 := [.int r1]) tm_X8_wrong ml_X8_137 ti_X8_wrong rfl rfl dX8_isMonotone_2 rfl (ev_X8_wrong e2) rfl rfl (Nat.le_of_ble_eq_true rfl) (by decide) rfl rfl (Or.inl rfl) rfl ?_
  refine g_if_eq (t := 16) (q := 8) dX8_isMonotone_5 (by decide) rfl (fun c3 => ?_) (fun c3 => ?_)
  · rw [if_pos c3] at hf
    refine g_aload_n 0 (q := 17) dX8_isMonotone_16 rfl rfl ?_
    refine g_aload_n 0 (q := 18) dX8_isMonotone_17 rfl rfl ?_
    refine g_get (q := 21) fl_X8_16 dX8_isMonotone_18 rfl rfl rfl ?_
    refine g_iload_n 1 (q := 22) dX8_isMonotone_21 rfl rfl ?_
    obtain ⟨r4, e5, hf⟩ := Option.bind_eq_some_iff.mp hf
    refine g_laload (q := 23) dX8_isMonotone_22 rfl rfl e5 ?_
    obtain ⟨r6, e7, hf⟩ := Option.bind_eq_some_iff.mp hf
    refine g_callV (a := 0) (k2 := 0) (n2 := 0) (q := 26) (as := [.long r4]) (st := []) (st1 := [.int r6]) tm_X8_violation ml_X8_144 ti_X8_violation rfl rfl dX8_isMonotone_23 rfl (ev_X8_violation e7) rfl rfl (Nat.le_of_ble_eq_true rfl) (by decide) rfl rfl (Or.inl rfl) rfl ?_
    refine g_iconst (q := 27) (v := (-1)) dX8_isMonotone_26 rfl rfl ?_
    refine g_icmp_ne (t := 34) (q := 30) dX8_isMonotone_27 (by decide) rfl (fun c8 => ?_) (fun c8 => ?_)
    · rw [if_neg c8] at hf
      refine g_iconst (q := 35) (v := 0) dX8_isMonotone_34 rfl rfl ?_
      have hf := Option.some.inj hf
      subst hf
      exact g_ireturn dX8_isMonotone_35 rfl ⟨rfl, rfl⟩
    · rw [if_pos c8] at hf
      refine g_iconst (q := 31) (v := 1) dX8_isMonotone_30 rfl rfl ?_
      refine g_goto (t := 35) dX8_isMonotone_31 (by decide) ?_
      have hf := Option.some.inj hf
      subst hf
      exact g_ireturn dX8_isMonotone_35 rfl ⟨rfl, rfl⟩
  · rw [if_neg c3] at hf
    refine g_aload_n 0 (q := 9) dX8_isMonotone_8 rfl rfl ?_
    refine g_iload_n 1 (q := 10) dX8_isMonotone_9 rfl rfl ?_
    obtain ⟨r9, e10, hf⟩ := Option.bind_eq_some_iff.mp hf
    refine g_callV (a := 0) (k2 := 0) (n2 := 0) (q := 13) (as := [.int a0]) (st := []) (st1 := [.int r9]) tm_X8_wrong ml_X8_137 ti_X8_wrong rfl rfl dX8_isMonotone_10 rfl (ev_X8_wrong e10) rfl rfl (Nat.le_of_ble_eq_true rfl) (by decide) rfl rfl (Or.inl rfl) rfl ?_
    refine g_goto (t := 35) dX8_isMonotone_13 (by decide) ?_
    have hf := Option.some.inj hf
    subst hf
    exact g_ireturn dX8_isMonotone_35 rfl ⟨rfl, rfl⟩
def f_X8_violatingPoint (a0 : Int32) (m_n : Int32) (m_pt : Int32) (m_t : List Int64) (m_f : List Int32) : Option (Int32) := (f_X8_wrong a0 m_f).bind fun r1 => (if r1 = 0 then (tld m_t a0).bind fun r4 => (f_X8_violation r4 m_n m_pt).bind fun r6 => some r6 else (f_X8_wrong a0 m_f).bind fun r8 => some r8)
set_option maxRecDepth 20000 in
set_option maxHeartbeats 4000000 in
theorem ev_X8_violatingPoint {l : Launch} {E : tEn}  {m_n : Int32} {m_pt : Int32} {m_rc : Int32} {m_sa : Int64} {m_sb : Int64} {m_sc : Int32} {m_is : Int32} {m_os : Int32} {m_vn : Int32} {m_vc : Int32} {m_va : Int64} {m_vb : Int64} {m_ve : Int32} {m_no : Int32} {m_pl : Int32} {m_fa : Int32} {m_oc : Int32} {m_fu : Int32} {m_ke : Int32} {m_t : List Int64} {m_f : List Int32} {m_rs : List Int32} {m_rt : List Int64} {m_rf : List Int32} {m_st : List Int32} {m_ib : List Int32} {m_ob : List Int32} {m_al : List Int32} {m_el : List Int32} {m_vt : List Int64} {m_vf : List Int32} {m_vs : List Int32} {m_nr : List Int32} {m_ty : List Int32} {m_pa : List Int32} {m_fn : List Int64} {m_md : List Int64} {m_ms : List Int32} {m_mr : List Int32} {a0 : Int32} {res : Int32} (hf : f_X8_violatingPoint a0 m_n m_pt m_t m_f = some res) : tEv l E yX8_violatingPoint cX8_violatingPoint 2 (some .int) 4 0 0 [.ref 0, .int a0] (encM m_n m_pt m_rc m_sa m_sb m_sc m_is m_os m_vn m_vc m_va m_vb m_ve m_no m_pl m_fa m_oc m_fu m_ke m_t m_f m_rs m_rt m_rf m_st m_ib m_ob m_al m_el m_vt m_vf m_vs m_nr m_ty m_pa m_fn m_md m_ms m_mr) (fun r h' => r = some (.int res) ∧ h' = encM m_n m_pt m_rc m_sa m_sb m_sc m_is m_os m_vn m_vc m_va m_vb m_ve m_no m_pl m_fa m_oc m_fu m_ke m_t m_f m_rs m_rt m_rf m_st m_ib m_ob m_al m_el m_vt m_vf m_vs m_nr m_ty m_pa m_fn m_md m_ms m_mr) := by
  refine tEv.of (own := RX8) (ini := false) (L := [(0, .ref 0), (1, .int a0)]) (by decide +kernel) rfl (fun h9 => nomatch h9) rfl (Nat.le_of_ble_eq_true rfl) ?_
  rw [f_X8_violatingPoint] at hf
  refine g_aload_n 0 (q := 1) dX8_violatingPoint_0 rfl rfl ?_
  refine g_iload_n 1 (q := 2) dX8_violatingPoint_1 rfl rfl ?_
  obtain ⟨r1, e2, hf⟩ := Option.bind_eq_some_iff.mp hf
  refine g_callV (a := 0) (k2 := 0) (n2 := 0) (q := 5) (as := [.int a0]) (st := []) (st1 := [.int r1]) tm_X8_wrong ml_X8_137 ti_X8_wrong rfl rfl dX8_violatingPoint_2 rfl (ev_X8_wrong e2) rfl rfl (Nat.le_of_ble_eq_true rfl) (by decide) rfl rfl (Or.inl rfl) rfl ?_
  refine g_if_eq (t := 16) (q := 8) dX8_violatingPoint_5 (by decide) rfl (fun c3 => ?_) (fun c3 => ?_)
  · rw [if_pos c3] at hf
    refine g_aload_n 0 (q := 17) dX8_violatingPoint_16 rfl rfl ?_
    refine g_aload_n 0 (q := 18) dX8_violatingPoint_17 rfl rfl ?_
    refine g_get (q := 21) fl_X8_16 dX8_violatingPoint_18 rfl rfl rfl ?_
    refine g_iload_n 1 (q := 22) dX8_violatingPoint_21 rfl rfl ?_
    obtain ⟨r4, e5, hf⟩ := Option.bind_eq_some_iff.mp hf
    refine g_laload (q := 23) dX8_violatingPoint_22 rfl rfl e5 ?_
    obtain ⟨r6, e7, hf⟩ := Option.bind_eq_some_iff.mp hf
    refine g_callV (a := 0) (k2 := 0) (n2 := 0) (q := 26) (as := [.long r4]) (st := []) (st1 := [.int r6]) tm_X8_violation ml_X8_144 ti_X8_violation rfl rfl dX8_violatingPoint_23 rfl (ev_X8_violation e7) rfl rfl (Nat.le_of_ble_eq_true rfl) (by decide) rfl rfl (Or.inl rfl) rfl ?_
    have hf := Option.some.inj hf
    subst hf
    exact g_ireturn dX8_violatingPoint_26 rfl ⟨rfl, rfl⟩
  · rw [if_neg c3] at hf
    refine g_aload_n 0 (q := 9) dX8_violatingPoint_8 rfl rfl ?_
    refine g_iload_n 1 (q := 10) dX8_violatingPoint_9 rfl rfl ?_
    obtain ⟨r8, e9, hf⟩ := Option.bind_eq_some_iff.mp hf
    refine g_callV (a := 0) (k2 := 0) (n2 := 0) (q := 13) (as := [.int a0]) (st := []) (st1 := [.int r8]) tm_X8_wrong ml_X8_137 ti_X8_wrong rfl rfl dX8_violatingPoint_10 rfl (ev_X8_wrong e9) rfl rfl (Nat.le_of_ble_eq_true rfl) (by decide) rfl rfl (Or.inl rfl) rfl ?_
    refine g_goto (t := 26) dX8_violatingPoint_13 (by decide) ?_
    have hf := Option.some.inj hf
    subst hf
    exact g_ireturn dX8_violatingPoint_26 rfl ⟨rfl, rfl⟩
def f_X8_wrongOrNot (a0 : Int32) (m_n : Int32) (m_pt : Int32) (m_t : List Int64) (m_f : List Int32) : Option (Int32) := (f_X8_wrong a0 m_f).bind fun r1 => (if r1 = 0 then (tld m_t a0).bind fun r4 => (f_X8_violation r4 m_n m_pt).bind fun r6 => (if r6 = (-1) then some 0 else some (-4)) else (f_X8_wrong a0 m_f).bind fun r9 => some r9)
set_option maxRecDepth 20000 in
set_option maxHeartbeats 4000000 in
theorem ev_X8_wrongOrNot {l : Launch} {E : tEn}  {m_n : Int32} {m_pt : Int32} {m_rc : Int32} {m_sa : Int64} {m_sb : Int64} {m_sc : Int32} {m_is : Int32} {m_os : Int32} {m_vn : Int32} {m_vc : Int32} {m_va : Int64} {m_vb : Int64} {m_ve : Int32} {m_no : Int32} {m_pl : Int32} {m_fa : Int32} {m_oc : Int32} {m_fu : Int32} {m_ke : Int32} {m_t : List Int64} {m_f : List Int32} {m_rs : List Int32} {m_rt : List Int64} {m_rf : List Int32} {m_st : List Int32} {m_ib : List Int32} {m_ob : List Int32} {m_al : List Int32} {m_el : List Int32} {m_vt : List Int64} {m_vf : List Int32} {m_vs : List Int32} {m_nr : List Int32} {m_ty : List Int32} {m_pa : List Int32} {m_fn : List Int64} {m_md : List Int64} {m_ms : List Int32} {m_mr : List Int32} {a0 : Int32} {res : Int32} (hf : f_X8_wrongOrNot a0 m_n m_pt m_t m_f = some res) : tEv l E yX8_wrongOrNot cX8_wrongOrNot 2 (some .int) 4 0 0 [.ref 0, .int a0] (encM m_n m_pt m_rc m_sa m_sb m_sc m_is m_os m_vn m_vc m_va m_vb m_ve m_no m_pl m_fa m_oc m_fu m_ke m_t m_f m_rs m_rt m_rf m_st m_ib m_ob m_al m_el m_vt m_vf m_vs m_nr m_ty m_pa m_fn m_md m_ms m_mr) (fun r h' => r = some (.int res) ∧ h' = encM m_n m_pt m_rc m_sa m_sb m_sc m_is m_os m_vn m_vc m_va m_vb m_ve m_no m_pl m_fa m_oc m_fu m_ke m_t m_f m_rs m_rt m_rf m_st m_ib m_ob m_al m_el m_vt m_vf m_vs m_nr m_ty m_pa m_fn m_md m_ms m_mr) := by
  refine tEv.of (own := RX8) (ini := false) (L := [(0, .ref 0), (1, .int a0)]) (by decide +kernel) rfl (fun h9 => nomatch h9) rfl (Nat.le_of_ble_eq_true rfl) ?_
  rw [f_X8_wrongOrNot] at hf
  refine g_aload_n 0 (q := 1) dX8_wrongOrNot_0 rfl rfl ?_
  refine g_iload_n 1 (q := 2) dX8_wrongOrNot_1 rfl rfl ?_
  obtain ⟨r1, e2, hf⟩ := Option.bind_eq_some_iff.mp hf
  refine g_callV (a := 0) (k2 := 0) (n2 := 0) (q := 5) (as := [.int a0]) (st := []) (st1 := [.int r1]) tm_X8_wrong ml_X8_137 ti_X8_wrong rfl rfl dX8_wrongOrNot_2 rfl (ev_X8_wrong e2) rfl rfl (Nat.le_of_ble_eq_true rfl) (by decide) rfl rfl (Or.inl rfl) rfl ?_
  refine g_if_eq (t := 16) (q := 8) dX8_wrongOrNot_5 (by decide) rfl (fun c3 => ?_) (fun c3 => ?_)
  · rw [if_pos c3] at hf
    refine g_aload_n 0 (q := 17) dX8_wrongOrNot_16 rfl rfl ?_
    refine g_aload_n 0 (q := 18) dX8_wrongOrNot_17 rfl rfl ?_
    refine g_get (q := 21) fl_X8_16 dX8_wrongOrNot_18 rfl rfl rfl ?_
    refine g_iload_n 1 (q := 22) dX8_wrongOrNot_21 rfl rfl ?_
    obtain ⟨r4, e5, hf⟩ := Option.bind_eq_some_iff.mp hf
    refine g_laload (q := 23) dX8_wrongOrNot_22 rfl rfl e5 ?_
    obtain ⟨r6, e7, hf⟩ := Option.bind_eq_some_iff.mp hf
    refine g_callV (a := 0) (k2 := 0) (n2 := 0) (q := 26) (as := [.long r4]) (st := []) (st1 := [.int r6]) tm_X8_violation ml_X8_144 ti_X8_violation rfl rfl dX8_wrongOrNot_23 rfl (ev_X8_violation e7) rfl rfl (Nat.le_of_ble_eq_true rfl) (by decide) rfl rfl (Or.inl rfl) rfl ?_
    refine g_iconst (q := 27) (v := (-1)) dX8_wrongOrNot_26 rfl rfl ?_
    refine g_icmp_ne (t := 34) (q := 30) dX8_wrongOrNot_27 (by decide) rfl (fun c8 => ?_) (fun c8 => ?_)
    · rw [if_neg c8] at hf
      refine g_bipush (q := 36) (v := (-4)) dX8_wrongOrNot_34 rfl rfl ?_
      have hf := Option.some.inj hf
      subst hf
      exact g_ireturn dX8_wrongOrNot_36 rfl ⟨rfl, rfl⟩
    · rw [if_pos c8] at hf
      refine g_iconst (q := 31) (v := 0) dX8_wrongOrNot_30 rfl rfl ?_
      refine g_goto (t := 36) dX8_wrongOrNot_31 (by decide) ?_
      have hf := Option.some.inj hf
      subst hf
      exact g_ireturn dX8_wrongOrNot_36 rfl ⟨rfl, rfl⟩
  · rw [if_neg c3] at hf
    refine g_aload_n 0 (q := 9) dX8_wrongOrNot_8 rfl rfl ?_
    refine g_iload_n 1 (q := 10) dX8_wrongOrNot_9 rfl rfl ?_
    obtain ⟨r9, e10, hf⟩ := Option.bind_eq_some_iff.mp hf
    refine g_callV (a := 0) (k2 := 0) (n2 := 0) (q := 13) (as := [.int a0]) (st := []) (st1 := [.int r9]) tm_X8_wrong ml_X8_137 ti_X8_wrong rfl rfl dX8_wrongOrNot_10 rfl (ev_X8_wrong e10) rfl rfl (Nat.le_of_ble_eq_true rfl) (by decide) rfl rfl (Or.inl rfl) rfl ?_
    refine g_goto (t := 36) dX8_wrongOrNot_13 (by decide) ?_
    have hf := Option.some.inj hf
    subst hf
    exact g_ireturn dX8_wrongOrNot_36 rfl ⟨rfl, rfl⟩
def f_X8_isPrime_L13 (w1 : Int64) (w3 : Int32) (m_n : Int32) (K : Option (Int32)) : Nat → Int32 → Option (Int32)
  | 0, _ => none
  | fu + 1, v4 => (if m_n ≤ v4 then K else (if ((w3 >>> (v4 &&& 31)) &&& 1) = 1 then (if (f_X8_at w1 (w3 ^^^ ((1 : Int32) <<< (v4 &&& 31)))) = 0 then f_X8_isPrime_L13 w1 w3 m_n K fu (v4 + 1) else some 0) else f_X8_isPrime_L13 w1 w3 m_n K fu (v4 + 1)))
def f_X8_isPrime (a0 : Int64) (a1 : Int32) (m_n : Int32) : Option (Int32) := (if (f_X8_at a0 a1) = 0 then some 0 else f_X8_isPrime_L13 a0 a1 m_n (some 1) tFU 0)
set_option maxRecDepth 20000 in
set_option maxHeartbeats 4000000 in
theorem ev_X8_isPrime_L13 {l : Launch} {E : tEn}   {m_n : Int32} {m_pt : Int32} {m_rc : Int32} {m_sa : Int64} {m_sb : Int64} {m_sc : Int32} {m_is : Int32} {m_os : Int32} {m_vn : Int32} {m_vc : Int32} {m_va : Int64} {m_vb : Int64} {m_ve : Int32} {m_no : Int32} {m_pl : Int32} {m_fa : Int32} {m_oc : Int32} {m_fu : Int32} {m_ke : Int32} {m_t : List Int64} {m_f : List Int32} {m_rs : List Int32} {m_rt : List Int64} {m_rf : List Int32} {m_st : List Int32} {m_ib : List Int32} {m_ob : List Int32} {m_al : List Int32} {m_el : List Int32} {m_vt : List Int64} {m_vf : List Int32} {m_vs : List Int32} {m_nr : List Int32} {m_ty : List Int32} {m_pa : List Int32} {m_fn : List Int64} {m_md : List Int64} {m_ms : List Int32} {m_mr : List Int32} {w1 : Int64} {w3 : Int32} {K : Option (Int32)} (hK : ∀   (res : Int32), K  = some res → tG l E RX8 cX8_isPrime 5 (some .boolean) false 2 (fun r h' => r = some (.int res) ∧ h' = encM m_n m_pt m_rc m_sa m_sb m_sc m_is m_os m_vn m_vc m_va m_vb m_ve m_no m_pl m_fa m_oc m_fu m_ke m_t m_f m_rs m_rt m_rf m_st m_ib m_ob m_al m_el m_vt m_vf m_vs m_nr m_ty m_pa m_fn m_md m_ms m_mr) 0 0 53 [] [] (encM m_n m_pt m_rc m_sa m_sb m_sc m_is m_os m_vn m_vc m_va m_vb m_ve m_no m_pl m_fa m_oc m_fu m_ke m_t m_f m_rs m_rt m_rf m_st m_ib m_ob m_al m_el m_vt m_vf m_vs m_nr m_ty m_pa m_fn m_md m_ms m_mr)) :
    ∀ (fu : Nat) (v4 : Int32) (res : Int32), f_X8_isPrime_L13 w1 w3 m_n K fu v4 = some res → tG l E RX8 cX8_isPrime 5 (some .boolean) false 2 (fun r h' => r = some (.int res) ∧ h' = encM m_n m_pt m_rc m_sa m_sb m_sc m_is m_os m_vn m_vc m_va m_vb m_ve m_no m_pl m_fa m_oc m_fu m_ke m_t m_f m_rs m_rt m_rf m_st m_ib m_ob m_al m_el m_vt m_vf m_vs m_nr m_ty m_pa m_fn m_md m_ms m_mr) 0 0 13 [(0, .ref 0), (1, .long w1), (3, .int w3), (4, .int v4)] [] (encM m_n m_pt m_rc m_sa m_sb m_sc m_is m_os m_vn m_vc m_va m_vb m_ve m_no m_pl m_fa m_oc m_fu m_ke m_t m_f m_rs m_rt m_rf m_st m_ib m_ob m_al m_el m_vt m_vf m_vs m_nr m_ty m_pa m_fn m_md m_ms m_mr) := by
  intro fu
  induction fu with
  | zero => intro v4 res hf; exact nomatch (show none = some res from hf)
  | succ fu ih =>
    intro v4 res hf
    rw [f_X8_isPrime_L13] at hf
    refine g_iload 3 (q := 15) dX8_isPrime_13 rfl rfl ?_
    refine g_aload_n 0 (q := 16) dX8_isPrime_15 rfl rfl ?_
    refine g_get (q := 19) fl_X8_7 dX8_isPrime_16 rfl rfl rfl ?_
    refine g_icmp_ge (t := 53) (q := 22) dX8_isPrime_19 (by decide) rfl (fun c2 => ?_) (fun c2 => ?_)
    · rw [if_pos c2] at hf
      refine g_ls [] rfl ?_
      exact hK _ hf
    · rw [if_neg c2] at hf
      refine g_iload_n 2 (q := 23) dX8_isPrime_22 rfl rfl ?_
      refine g_iload 3 (q := 25) dX8_isPrime_23 rfl rfl ?_
      refine g_ishr (q := 26) dX8_isPrime_25 rfl ?_
      refine g_iconst (q := 27) (v := 1) dX8_isPrime_26 rfl rfl ?_
      refine g_iand (q := 28) dX8_isPrime_27 rfl ?_
      refine g_iconst (q := 29) (v := 1) dX8_isPrime_28 rfl rfl ?_
      refine g_icmp_ne (t := 47) (q := 32) dX8_isPrime_29 (by decide) rfl (fun c3 => ?_) (fun c3 => ?_)
      · rw [if_neg c3] at hf
        refine g_iinc 3 (q := 50) (v := (v4 + 1)) (L' := [(0, .ref 0), (1, .long w1), (3, .int w3), (4, .int (v4 + 1))]) dX8_isPrime_47 rfl rfl rfl (by decide) rfl ?_
        refine g_goto (t := 13) dX8_isPrime_50 (by decide) ?_
        refine g_ls [0, 1, 2, 3] rfl ?_
        exact ih _ _ hf
      · rw [if_pos c3] at hf
        refine g_lload_n 1 (q := 33) dX8_isPrime_32 rfl rfl ?_
        refine g_iload_n 2 (q := 34) dX8_isPrime_33 rfl rfl ?_
        refine g_iconst (q := 35) (v := 1) dX8_isPrime_34 rfl rfl ?_
        refine g_iload 3 (q := 37) dX8_isPrime_35 rfl rfl ?_
        refine g_ishl (q := 38) dX8_isPrime_37 rfl ?_
        refine g_ixor (q := 39) dX8_isPrime_38 rfl ?_
        refine g_callS (k2 := 0) (n2 := 0) (q := 42) (as := [.long w1, .int (w3 ^^^ ((1 : Int32) <<< (v4 &&& 31)))]) (st := []) (st1 := [.int (f_X8_at w1 (w3 ^^^ ((1 : Int32) <<< (v4 &&& 31))))]) tm_X8_at ml_X8_91 ts_X8_at dX8_isPrime_39 rfl ev_X8_at rfl rfl (Nat.le_of_ble_eq_true rfl) (by decide) rfl rfl (Or.inl rfl) rfl ?_
        refine g_if_eq (t := 47) (q := 45) dX8_isPrime_42 (by decide) rfl (fun c4 => ?_) (fun c4 => ?_)
        · rw [if_pos c4] at hf
          refine g_iinc 3 (q := 50) (v := (v4 + 1)) (L' := [(0, .ref 0), (1, .long w1), (3, .int w3), (4, .int (v4 + 1))]) dX8_isPrime_47 rfl rfl rfl (by decide) rfl ?_
          refine g_goto (t := 13) dX8_isPrime_50 (by decide) ?_
          refine g_ls [0, 1, 2, 3] rfl ?_
          exact ih _ _ hf
        · rw [if_neg c4] at hf
          refine g_iconst (q := 46) (v := 0) dX8_isPrime_45 rfl rfl ?_
          have hf := Option.some.inj hf
          subst hf
          exact g_zreturn (Or.inl rfl) dX8_isPrime_46 rfl ⟨rfl, rfl⟩
set_option maxRecDepth 20000 in
set_option maxHeartbeats 4000000 in
theorem ev_X8_isPrime {l : Launch} {E : tEn}  {m_n : Int32} {m_pt : Int32} {m_rc : Int32} {m_sa : Int64} {m_sb : Int64} {m_sc : Int32} {m_is : Int32} {m_os : Int32} {m_vn : Int32} {m_vc : Int32} {m_va : Int64} {m_vb : Int64} {m_ve : Int32} {m_no : Int32} {m_pl : Int32} {m_fa : Int32} {m_oc : Int32} {m_fu : Int32} {m_ke : Int32} {m_t : List Int64} {m_f : List Int32} {m_rs : List Int32} {m_rt : List Int64} {m_rf : List Int32} {m_st : List Int32} {m_ib : List Int32} {m_ob : List Int32} {m_al : List Int32} {m_el : List Int32} {m_vt : List Int64} {m_vf : List Int32} {m_vs : List Int32} {m_nr : List Int32} {m_ty : List Int32} {m_pa : List Int32} {m_fn : List Int64} {m_md : List Int64} {m_ms : List Int32} {m_mr : List Int32} {a0 : Int64} {a1 : Int32} {res : Int32} (hf : f_X8_isPrime a0 a1 m_n = some res) : tEv l E yX8_isPrime cX8_isPrime 5 (some .boolean) 2 0 0 [.ref 0, .long a0, .int a1] (encM m_n m_pt m_rc m_sa m_sb m_sc m_is m_os m_vn m_vc m_va m_vb m_ve m_no m_pl m_fa m_oc m_fu m_ke m_t m_f m_rs m_rt m_rf m_st m_ib m_ob m_al m_el m_vt m_vf m_vs m_nr m_ty m_pa m_fn m_md m_ms m_mr) (fun r h' => r = some (.int res) ∧ h' = encM m_n m_pt m_rc m_sa m_sb m_sc m_is m_os m_vn m_vc m_va m_vb m_ve m_no m_pl m_fa m_oc m_fu m_ke m_t m_f m_rs m_rt m_rf m_st m_ib m_ob m_al m_el m_vt m_vf m_vs m_nr m_ty m_pa m_fn m_md m_ms m_mr) := by
  refine tEv.of (own := RX8) (ini := false) (L := [(0, .ref 0), (1, .long a0), (3, .int a1)]) (by decide +kernel) rfl (fun h9 => nomatch h9) rfl (Nat.le_of_ble_eq_true rfl) ?_
  rw [f_X8_isPrime] at hf
  refine g_lload_n 1 (q := 1) dX8_isPrime_0 rfl rfl ?_
  refine g_iload_n 2 (q := 2) dX8_isPrime_1 rfl rfl ?_
  refine g_callS (k2 := 0) (n2 := 0) (q := 5) (as := [.long a0, .int a1]) (st := []) (st1 := [.int (f_X8_at a0 a1)]) tm_X8_at ml_X8_91 ts_X8_at dX8_isPrime_2 rfl ev_X8_at rfl rfl (Nat.le_of_ble_eq_true rfl) (by decide) rfl rfl (Or.inl rfl) rfl ?_
  refine g_if_ne (t := 10) (q := 8) dX8_isPrime_5 (by decide) rfl (fun c1 => ?_) (fun c1 => ?_)
  · rw [if_neg c1] at hf
    refine g_iconst (q := 11) (v := 0) dX8_isPrime_10 rfl rfl ?_
    refine g_istore (q := 13) (L' := [(0, .ref 0), (1, .long a0), (3, .int a1), (4, .int 0)]) dX8_isPrime_11 rfl (by decide) rfl ?_
    refine g_ls [0, 1, 2, 3] rfl ?_
    refine ev_X8_isPrime_L13 (fun  res hf => ?_) tFU _ res hf
    refine g_iconst (q := 54) (v := 1) dX8_isPrime_53 rfl rfl ?_
    have hf := Option.some.inj hf
    subst hf
    exact g_zreturn (Or.inr rfl) dX8_isPrime_54 rfl ⟨rfl, rfl⟩
  · rw [if_pos c1] at hf
    refine g_iconst (q := 9) (v := 0) dX8_isPrime_8 rfl rfl ?_
    have hf := Option.some.inj hf
    subst hf
    exact g_zreturn (Or.inl rfl) dX8_isPrime_9 rfl ⟨rfl, rfl⟩
def f_X8_primesOf_L5 (w1 : Int64) (m_n : Int32) (m_pt : Int32) (K : Int32 → Option (Int32)) : Nat → Int32 → Int32 → Option (Int32)
  | 0, _, _ => none
  | fu + 1, v3, v4 => (if m_pt ≤ v4 then K v3 else (f_X8_isPrime w1 v4 m_n).bind fun r2 => (if r2 = 0 then f_X8_primesOf_L5 w1 m_n m_pt K fu (v3 + 0) (v4 + 1) else f_X8_primesOf_L5 w1 m_n m_pt K fu (v3 + 1) (v4 + 1)))
def f_X8_primesOf (a0 : Int64) (m_n : Int32) (m_pt : Int32) : Option (Int32) := f_X8_primesOf_L5 a0 m_n m_pt (fun y5 => some y5) tFU 0 0
set_option maxRecDepth 20000 in
set_option maxHeartbeats 4000000 in
theorem ev_X8_primesOf_L5 {l : Launch} {E : tEn}   {m_n : Int32} {m_pt : Int32} {m_rc : Int32} {m_sa : Int64} {m_sb : Int64} {m_sc : Int32} {m_is : Int32} {m_os : Int32} {m_vn : Int32} {m_vc : Int32} {m_va : Int64} {m_vb : Int64} {m_ve : Int32} {m_no : Int32} {m_pl : Int32} {m_fa : Int32} {m_oc : Int32} {m_fu : Int32} {m_ke : Int32} {m_t : List Int64} {m_f : List Int32} {m_rs : List Int32} {m_rt : List Int64} {m_rf : List Int32} {m_st : List Int32} {m_ib : List Int32} {m_ob : List Int32} {m_al : List Int32} {m_el : List Int32} {m_vt : List Int64} {m_vf : List Int32} {m_vs : List Int32} {m_nr : List Int32} {m_ty : List Int32} {m_pa : List Int32} {m_fn : List Int64} {m_md : List Int64} {m_ms : List Int32} {m_mr : List Int32} {w1 : Int64} {K : Int32 → Option (Int32)} (hK : ∀ (v3 : Int32)  (res : Int32), K v3 = some res → tG l E RX8 cX8_primesOf 5 (some .int) false 3 (fun r h' => r = some (.int res) ∧ h' = encM m_n m_pt m_rc m_sa m_sb m_sc m_is m_os m_vn m_vc m_va m_vb m_ve m_no m_pl m_fa m_oc m_fu m_ke m_t m_f m_rs m_rt m_rf m_st m_ib m_ob m_al m_el m_vt m_vf m_vs m_nr m_ty m_pa m_fn m_md m_ms m_mr) 0 0 38 [(3, .int v3)] [] (encM m_n m_pt m_rc m_sa m_sb m_sc m_is m_os m_vn m_vc m_va m_vb m_ve m_no m_pl m_fa m_oc m_fu m_ke m_t m_f m_rs m_rt m_rf m_st m_ib m_ob m_al m_el m_vt m_vf m_vs m_nr m_ty m_pa m_fn m_md m_ms m_mr)) :
    ∀ (fu : Nat) (v3 : Int32) (v4 : Int32) (res : Int32), f_X8_primesOf_L5 w1 m_n m_pt K fu v3 v4 = some res → tG l E RX8 cX8_primesOf 5 (some .int) false 3 (fun r h' => r = some (.int res) ∧ h' = encM m_n m_pt m_rc m_sa m_sb m_sc m_is m_os m_vn m_vc m_va m_vb m_ve m_no m_pl m_fa m_oc m_fu m_ke m_t m_f m_rs m_rt m_rf m_st m_ib m_ob m_al m_el m_vt m_vf m_vs m_nr m_ty m_pa m_fn m_md m_ms m_mr) 0 0 5 [(0, .ref 0), (1, .long w1), (3, .int v3), (4, .int v4)] [] (encM m_n m_pt m_rc m_sa m_sb m_sc m_is m_os m_vn m_vc m_va m_vb m_ve m_no m_pl m_fa m_oc m_fu m_ke m_t m_f m_rs m_rt m_rf m_st m_ib m_ob m_al m_el m_vt m_vf m_vs m_nr m_ty m_pa m_fn m_md m_ms m_mr) := by
  intro fu
  induction fu with
  | zero => intro v3 v4 res hf; exact nomatch (show none = some res from hf)
  | succ fu ih =>
    intro v3 v4 res hf
    rw [f_X8_primesOf_L5] at hf
    refine g_iload 3 (q := 7) dX8_primesOf_5 rfl rfl ?_
    refine g_aload_n 0 (q := 8) dX8_primesOf_7 rfl rfl ?_
    refine g_get (q := 11) fl_X8_13 dX8_primesOf_8 rfl rfl rfl ?_
    refine g_icmp_ge (t := 38) (q := 14) dX8_primesOf_11 (by decide) rfl (fun c1 => ?_) (fun c1 => ?_)
    · rw [if_pos c1] at hf
      refine g_ls [2] rfl ?_
      exact hK _ _ hf
    · rw [if_neg c1] at hf
      refine g_iload_n 2 (q := 15) dX8_primesOf_14 rfl rfl ?_
      refine g_aload_n 0 (q := 16) dX8_primesOf_15 rfl rfl ?_
      refine g_lload_n 1 (q := 17) dX8_primesOf_16 rfl rfl ?_
      refine g_iload 3 (q := 19) dX8_primesOf_17 rfl rfl ?_
      obtain ⟨r2, e3, hf⟩ := Option.bind_eq_some_iff.mp hf
      refine g_callV (a := 0) (k2 := 0) (n2 := 0) (q := 22) (as := [.long w1, .int v4]) (st := [.int v3]) (st1 := [.int r2, .int v3]) tm_X8_isPrime ml_X8_147 ti_X8_isPrime rfl rfl dX8_primesOf_19 rfl (ev_X8_isPrime e3) rfl rfl (Nat.le_of_ble_eq_true rfl) (by decide) rfl rfl (Or.inl rfl) rfl ?_
      refine g_if_eq (t := 29) (q := 25) dX8_primesOf_22 (by decide) rfl (fun c4 => ?_) (fun c4 => ?_)
      · rw [if_pos c4] at hf
        refine g_iconst (q := 30) (v := 0) dX8_primesOf_29 rfl rfl ?_
        refine g_iadd (q := 31) dX8_primesOf_30 rfl ?_
        refine g_istore_n (q := 32) (L' := [(0, .ref 0), (1, .long w1), (3, .int (v3 + 0)), (4, .int v4)]) dX8_primesOf_31 rfl (by decide) rfl ?_
        refine g_iinc 3 (q := 35) (v := (v4 + 1)) (L' := [(0, .ref 0), (1, .long w1), (3, .int (v3 + 0)), (4, .int (v4 + 1))]) dX8_primesOf_32 rfl rfl rfl (by decide) rfl ?_
        refine g_goto (t := 5) dX8_primesOf_35 (by decide) ?_
        refine g_ls [0, 1, 2, 3] rfl ?_
        exact ih _ _ _ hf
      · rw [if_neg c4] at hf
        refine g_iconst (q := 26) (v := 1) dX8_primesOf_25 rfl rfl ?_
        refine g_goto (t := 30) dX8_primesOf_26 (by decide) ?_
        refine g_iadd (q := 31) dX8_primesOf_30 rfl ?_
        refine g_istore_n (q := 32) (L' := [(0, .ref 0), (1, .long w1), (3, .int (v3 + 1)), (4, .int v4)]) dX8_primesOf_31 rfl (by decide) rfl ?_
        refine g_iinc 3 (q := 35) (v := (v4 + 1)) (L' := [(0, .ref 0), (1, .long w1), (3, .int (v3 + 1)), (4, .int (v4 + 1))]) dX8_primesOf_32 rfl rfl rfl (by decide) rfl ?_
        refine g_goto (t := 5) dX8_primesOf_35 (by decide) ?_
        refine g_ls [0, 1, 2, 3] rfl ?_
        exact ih _ _ _ hf
set_option maxRecDepth 20000 in
set_option maxHeartbeats 4000000 in
theorem ev_X8_primesOf {l : Launch} {E : tEn}  {m_n : Int32} {m_pt : Int32} {m_rc : Int32} {m_sa : Int64} {m_sb : Int64} {m_sc : Int32} {m_is : Int32} {m_os : Int32} {m_vn : Int32} {m_vc : Int32} {m_va : Int64} {m_vb : Int64} {m_ve : Int32} {m_no : Int32} {m_pl : Int32} {m_fa : Int32} {m_oc : Int32} {m_fu : Int32} {m_ke : Int32} {m_t : List Int64} {m_f : List Int32} {m_rs : List Int32} {m_rt : List Int64} {m_rf : List Int32} {m_st : List Int32} {m_ib : List Int32} {m_ob : List Int32} {m_al : List Int32} {m_el : List Int32} {m_vt : List Int64} {m_vf : List Int32} {m_vs : List Int32} {m_nr : List Int32} {m_ty : List Int32} {m_pa : List Int32} {m_fn : List Int64} {m_md : List Int64} {m_ms : List Int32} {m_mr : List Int32} {a0 : Int64} {res : Int32} (hf : f_X8_primesOf a0 m_n m_pt = some res) : tEv l E yX8_primesOf cX8_primesOf 5 (some .int) 3 0 0 [.ref 0, .long a0] (encM m_n m_pt m_rc m_sa m_sb m_sc m_is m_os m_vn m_vc m_va m_vb m_ve m_no m_pl m_fa m_oc m_fu m_ke m_t m_f m_rs m_rt m_rf m_st m_ib m_ob m_al m_el m_vt m_vf m_vs m_nr m_ty m_pa m_fn m_md m_ms m_mr) (fun r h' => r = some (.int res) ∧ h' = encM m_n m_pt m_rc m_sa m_sb m_sc m_is m_os m_vn m_vc m_va m_vb m_ve m_no m_pl m_fa m_oc m_fu m_ke m_t m_f m_rs m_rt m_rf m_st m_ib m_ob m_al m_el m_vt m_vf m_vs m_nr m_ty m_pa m_fn m_md m_ms m_mr) := by
  refine tEv.of (own := RX8) (ini := false) (L := [(0, .ref 0), (1, .long a0)]) (by decide +kernel) rfl (fun h9 => nomatch h9) rfl (Nat.le_of_ble_eq_true rfl) ?_
  rw [f_X8_primesOf] at hf
  refine g_iconst (q := 1) (v := 0) dX8_primesOf_0 rfl rfl ?_
  refine g_istore_n (q := 2) (L' := [(0, .ref 0), (1, .long a0), (3, .int 0)]) dX8_primesOf_1 rfl (by decide) rfl ?_
  refine g_iconst (q := 3) (v := 0) dX8_primesOf_2 rfl rfl ?_
  refine g_istore (q := 5) (L' := [(0, .ref 0), (1, .long a0), (3, .int 0), (4, .int 0)]) dX8_primesOf_3 rfl (by decide) rfl ?_
  refine g_ls [0, 1, 2, 3] rfl ?_
  refine ev_X8_primesOf_L5 (fun y5 res hf => ?_) tFU _ _ res hf
  refine g_iload_n 0 (q := 39) dX8_primesOf_38 rfl rfl ?_
  have hf := Option.some.inj hf
  subst hf
  exact g_ireturn dX8_primesOf_39 rfl ⟨rfl, rfl⟩
def f_X8_primeImplicants (a0 : Int32) (m_n : Int32) (m_pt : Int32) (m_t : List Int64) (m_f : List Int32) : Option (Int32) := (f_X8_wrongOrNot a0 m_n m_pt m_t m_f).bind fun r1 => (if r1 = 0 then (tld m_t a0).bind fun r4 => (f_X8_primesOf r4 m_n m_pt).bind fun r6 => some r6 else some r1)
set_option maxRecDepth 20000 in
set_option maxHeartbeats 4000000 in
theorem ev_X8_primeImplicants {l : Launch} {E : tEn}  {m_n : Int32} {m_pt : Int32} {m_rc : Int32} {m_sa : Int64} {m_sb : Int64} {m_sc : Int32} {m_is : Int32} {m_os : Int32} {m_vn : Int32} {m_vc : Int32} {m_va : Int64} {m_vb : Int64} {m_ve : Int32} {m_no : Int32} {m_pl : Int32} {m_fa : Int32} {m_oc : Int32} {m_fu : Int32} {m_ke : Int32} {m_t : List Int64} {m_f : List Int32} {m_rs : List Int32} {m_rt : List Int64} {m_rf : List Int32} {m_st : List Int32} {m_ib : List Int32} {m_ob : List Int32} {m_al : List Int32} {m_el : List Int32} {m_vt : List Int64} {m_vf : List Int32} {m_vs : List Int32} {m_nr : List Int32} {m_ty : List Int32} {m_pa : List Int32} {m_fn : List Int64} {m_md : List Int64} {m_ms : List Int32} {m_mr : List Int32} {a0 : Int32} {res : Int32} (hf : f_X8_primeImplicants a0 m_n m_pt m_t m_f = some res) : tEv l E yX8_primeImplicants cX8_primeImplicants 3 (some .int) 5 0 0 [.ref 0, .int a0] (encM m_n m_pt m_rc m_sa m_sb m_sc m_is m_os m_vn m_vc m_va m_vb m_ve m_no m_pl m_fa m_oc m_fu m_ke m_t m_f m_rs m_rt m_rf m_st m_ib m_ob m_al m_el m_vt m_vf m_vs m_nr m_ty m_pa m_fn m_md m_ms m_mr) (fun r h' => r = some (.int res) ∧ h' = encM m_n m_pt m_rc m_sa m_sb m_sc m_is m_os m_vn m_vc m_va m_vb m_ve m_no m_pl m_fa m_oc m_fu m_ke m_t m_f m_rs m_rt m_rf m_st m_ib m_ob m_al m_el m_vt m_vf m_vs m_nr m_ty m_pa m_fn m_md m_ms m_mr) := by
  refine tEv.of (own := RX8) (ini := false) (L := [(0, .ref 0), (1, .int a0)]) (by decide +kernel) rfl (fun h9 => nomatch h9) rfl (Nat.le_of_ble_eq_true rfl) ?_
  rw [f_X8_primeImplicants] at hf
  refine g_aload_n 0 (q := 1) dX8_primeImplicants_0 rfl rfl ?_
  refine g_iload_n 1 (q := 2) dX8_primeImplicants_1 rfl rfl ?_
  obtain ⟨r1, e2, hf⟩ := Option.bind_eq_some_iff.mp hf
  refine g_callV (a := 0) (k2 := 0) (n2 := 0) (q := 5) (as := [.int a0]) (st := []) (st1 := [.int r1]) tm_X8_wrongOrNot ml_X8_150 ti_X8_wrongOrNot rfl rfl dX8_primeImplicants_2 rfl (ev_X8_wrongOrNot e2) rfl rfl (Nat.le_of_ble_eq_true rfl) (by decide) rfl rfl (Or.inl rfl) rfl ?_
  refine g_istore_n (q := 6) (L' := [(0, .ref 0), (1, .int a0), (2, .int r1)]) dX8_primeImplicants_5 rfl (by decide) rfl ?_
  refine g_iload_n 2 (q := 7) dX8_primeImplicants_6 rfl rfl ?_
  refine g_if_eq (t := 14) (q := 10) dX8_primeImplicants_7 (by decide) rfl (fun c3 => ?_) (fun c3 => ?_)
  · rw [if_pos c3] at hf
    refine g_aload_n 0 (q := 15) dX8_primeImplicants_14 rfl rfl ?_
    refine g_aload_n 0 (q := 16) dX8_primeImplicants_15 rfl rfl ?_
    refine g_get (q := 19) fl_X8_16 dX8_primeImplicants_16 rfl rfl rfl ?_
    refine g_iload_n 1 (q := 20) dX8_primeImplicants_19 rfl rfl ?_
    obtain ⟨r4, e5, hf⟩ := Option.bind_eq_some_iff.mp hf
    refine g_laload (q := 21) dX8_primeImplicants_20 rfl rfl e5 ?_
    obtain ⟨r6, e7, hf⟩ := Option.bind_eq_some_iff.mp hf
    refine g_callV (a := 0) (k2 := 0) (n2 := 0) (q := 24) (as := [.long r4]) (st := []) (st1 := [.int r6]) tm_X8_primesOf ml_X8_153 ti_X8_primesOf rfl rfl dX8_primeImplicants_21 rfl (ev_X8_primesOf e7) rfl rfl (Nat.le_of_ble_eq_true rfl) (by decide) rfl rfl (Or.inl rfl) rfl ?_
    have hf := Option.some.inj hf
    subst hf
    exact g_ireturn dX8_primeImplicants_24 rfl ⟨rfl, rfl⟩
  · rw [if_neg c3] at hf
    refine g_iload_n 2 (q := 11) dX8_primeImplicants_10 rfl rfl ?_
    refine g_goto (t := 24) dX8_primeImplicants_11 (by decide) ?_
    have hf := Option.some.inj hf
    subst hf
    exact g_ireturn dX8_primeImplicants_24 rfl ⟨rfl, rfl⟩
def f_X8_primeOf_L6 (w1 : Int64) (w3 : Int32) (m_n : Int32) (m_pt : Int32) (K : Option (Int32)) : Nat → Int32 → Int32 → Option (Int32)
  | 0, _, _ => none
  | fu + 1, v4, v5 => (if m_pt ≤ v5 then K else (f_X8_isPrime w1 v5 m_n).bind fun r2 => (if r2 = 0 then f_X8_primeOf_L6 w1 w3 m_n m_pt K fu v4 (v5 + 1) else (if v4 = w3 then some v5 else f_X8_primeOf_L6 w1 w3 m_n m_pt K fu (v4 + 1) (v5 + 1))))
def f_X8_primeOf (a0 : Int64) (a1 : Int32) (m_n : Int32) (m_pt : Int32) : Option (Int32) := f_X8_primeOf_L6 a0 a1 m_n m_pt (some (-1)) tFU 0 0
set_option maxRecDepth 20000 in
set_option maxHeartbeats 4000000 in
theorem ev_X8_primeOf_L6 {l : Launch} {E : tEn}   {m_n : Int32} {m_pt : Int32} {m_rc : Int32} {m_sa : Int64} {m_sb : Int64} {m_sc : Int32} {m_is : Int32} {m_os : Int32} {m_vn : Int32} {m_vc : Int32} {m_va : Int64} {m_vb : Int64} {m_ve : Int32} {m_no : Int32} {m_pl : Int32} {m_fa : Int32} {m_oc : Int32} {m_fu : Int32} {m_ke : Int32} {m_t : List Int64} {m_f : List Int32} {m_rs : List Int32} {m_rt : List Int64} {m_rf : List Int32} {m_st : List Int32} {m_ib : List Int32} {m_ob : List Int32} {m_al : List Int32} {m_el : List Int32} {m_vt : List Int64} {m_vf : List Int32} {m_vs : List Int32} {m_nr : List Int32} {m_ty : List Int32} {m_pa : List Int32} {m_fn : List Int64} {m_md : List Int64} {m_ms : List Int32} {m_mr : List Int32} {w1 : Int64} {w3 : Int32} {K : Option (Int32)} (hK : ∀   (res : Int32), K  = some res → tG l E RX8 cX8_primeOf 6 (some .int) false 3 (fun r h' => r = some (.int res) ∧ h' = encM m_n m_pt m_rc m_sa m_sb m_sc m_is m_os m_vn m_vc m_va m_vb m_ve m_no m_pl m_fa m_oc m_fu m_ke m_t m_f m_rs m_rt m_rf m_st m_ib m_ob m_al m_el m_vt m_vf m_vs m_nr m_ty m_pa m_fn m_md m_ms m_mr) 0 0 46 [] [] (encM m_n m_pt m_rc m_sa m_sb m_sc m_is m_os m_vn m_vc m_va m_vb m_ve m_no m_pl m_fa m_oc m_fu m_ke m_t m_f m_rs m_rt m_rf m_st m_ib m_ob m_al m_el m_vt m_vf m_vs m_nr m_ty m_pa m_fn m_md m_ms m_mr)) :
    ∀ (fu : Nat) (v4 : Int32) (v5 : Int32) (res : Int32), f_X8_primeOf_L6 w1 w3 m_n m_pt K fu v4 v5 = some res → tG l E RX8 cX8_primeOf 6 (some .int) false 3 (fun r h' => r = some (.int res) ∧ h' = encM m_n m_pt m_rc m_sa m_sb m_sc m_is m_os m_vn m_vc m_va m_vb m_ve m_no m_pl m_fa m_oc m_fu m_ke m_t m_f m_rs m_rt m_rf m_st m_ib m_ob m_al m_el m_vt m_vf m_vs m_nr m_ty m_pa m_fn m_md m_ms m_mr) 0 0 6 [(0, .ref 0), (1, .long w1), (3, .int w3), (4, .int v4), (5, .int v5)] [] (encM m_n m_pt m_rc m_sa m_sb m_sc m_is m_os m_vn m_vc m_va m_vb m_ve m_no m_pl m_fa m_oc m_fu m_ke m_t m_f m_rs m_rt m_rf m_st m_ib m_ob m_al m_el m_vt m_vf m_vs m_nr m_ty m_pa m_fn m_md m_ms m_mr) := by
  intro fu
  induction fu with
  | zero => intro v4 v5 res hf; exact nomatch (show none = some res from hf)
  | succ fu ih =>
    intro v4 v5 res hf
    rw [f_X8_primeOf_L6] at hf
    refine g_iload 4 (q := 8) dX8_primeOf_6 rfl rfl ?_
    refine g_aload_n 0 (q := 9) dX8_primeOf_8 rfl rfl ?_
    refine g_get (q := 12) fl_X8_13 dX8_primeOf_9 rfl rfl rfl ?_
    refine g_icmp_ge (t := 46) (q := 15) dX8_primeOf_12 (by decide) rfl (fun c1 => ?_) (fun c1 => ?_)
    · rw [if_pos c1] at hf
      refine g_ls [] rfl ?_
      exact hK _ hf
    · rw [if_neg c1] at hf
      refine g_aload_n 0 (q := 16) dX8_primeOf_15 rfl rfl ?_
      refine g_lload_n 1 (q := 17) dX8_primeOf_16 rfl rfl ?_
      refine g_iload 4 (q := 19) dX8_primeOf_17 rfl rfl ?_
      obtain ⟨r2, e3, hf⟩ := Option.bind_eq_some_iff.mp hf
      refine g_callV (a := 0) (k2 := 0) (n2 := 0) (q := 22) (as := [.long w1, .int v5]) (st := []) (st1 := [.int r2]) tm_X8_isPrime ml_X8_147 ti_X8_isPrime rfl rfl dX8_primeOf_19 rfl (ev_X8_isPrime e3) rfl rfl (Nat.le_of_ble_eq_true rfl) (by decide) rfl rfl (Or.inl rfl) rfl ?_
      refine g_if_ne (t := 28) (q := 25) dX8_primeOf_22 (by decide) rfl (fun c4 => ?_) (fun c4 => ?_)
      · rw [if_neg c4] at hf
        refine g_iload 3 (q := 30) dX8_primeOf_28 rfl rfl ?_
        refine g_iload_n 2 (q := 31) dX8_primeOf_30 rfl rfl ?_
        refine g_icmp_ne (t := 37) (q := 34) dX8_primeOf_31 (by decide) rfl (fun c5 => ?_) (fun c5 => ?_)
        · rw [if_neg c5] at hf
          refine g_iinc 3 (q := 40) (v := (v4 + 1)) (L' := [(0, .ref 0), (1, .long w1), (3, .int w3), (4, .int (v4 + 1)), (5, .int v5)]) dX8_primeOf_37 rfl rfl rfl (by decide) rfl ?_
          refine g_iinc 4 (q := 43) (v := (v5 + 1)) (L' := [(0, .ref 0), (1, .long w1), (3, .int w3), (4, .int (v4 + 1)), (5, .int (v5 + 1))]) dX8_primeOf_40 rfl rfl rfl (by decide) rfl ?_
          refine g_goto (t := 6) dX8_primeOf_43 (by decide) ?_
          refine g_ls [0, 1, 2, 3, 4] rfl ?_
          exact ih _ _ _ hf
        · rw [if_pos c5] at hf
          refine g_iload 4 (q := 36) dX8_primeOf_34 rfl rfl ?_
          have hf := Option.some.inj hf
          subst hf
          exact g_ireturn dX8_primeOf_36 rfl ⟨rfl, rfl⟩
      · rw [if_pos c4] at hf
        refine g_goto (t := 40) dX8_primeOf_25 (by decide) ?_
        refine g_iinc 4 (q := 43) (v := (v5 + 1)) (L' := [(0, .ref 0), (1, .long w1), (3, .int w3), (4, .int v4), (5, .int (v5 + 1))]) dX8_primeOf_40 rfl rfl rfl (by decide) rfl ?_
        refine g_goto (t := 6) dX8_primeOf_43 (by decide) ?_
        refine g_ls [0, 1, 2, 3, 4] rfl ?_
        exact ih _ _ _ hf
set_option maxRecDepth 20000 in
set_option maxHeartbeats 4000000 in
theorem ev_X8_primeOf {l : Launch} {E : tEn}  {m_n : Int32} {m_pt : Int32} {m_rc : Int32} {m_sa : Int64} {m_sb : Int64} {m_sc : Int32} {m_is : Int32} {m_os : Int32} {m_vn : Int32} {m_vc : Int32} {m_va : Int64} {m_vb : Int64} {m_ve : Int32} {m_no : Int32} {m_pl : Int32} {m_fa : Int32} {m_oc : Int32} {m_fu : Int32} {m_ke : Int32} {m_t : List Int64} {m_f : List Int32} {m_rs : List Int32} {m_rt : List Int64} {m_rf : List Int32} {m_st : List Int32} {m_ib : List Int32} {m_ob : List Int32} {m_al : List Int32} {m_el : List Int32} {m_vt : List Int64} {m_vf : List Int32} {m_vs : List Int32} {m_nr : List Int32} {m_ty : List Int32} {m_pa : List Int32} {m_fn : List Int64} {m_md : List Int64} {m_ms : List Int32} {m_mr : List Int32} {a0 : Int64} {a1 : Int32} {res : Int32} (hf : f_X8_primeOf a0 a1 m_n m_pt = some res) : tEv l E yX8_primeOf cX8_primeOf 6 (some .int) 3 0 0 [.ref 0, .long a0, .int a1] (encM m_n m_pt m_rc m_sa m_sb m_sc m_is m_os m_vn m_vc m_va m_vb m_ve m_no m_pl m_fa m_oc m_fu m_ke m_t m_f m_rs m_rt m_rf m_st m_ib m_ob m_al m_el m_vt m_vf m_vs m_nr m_ty m_pa m_fn m_md m_ms m_mr) (fun r h' => r = some (.int res) ∧ h' = encM m_n m_pt m_rc m_sa m_sb m_sc m_is m_os m_vn m_vc m_va m_vb m_ve m_no m_pl m_fa m_oc m_fu m_ke m_t m_f m_rs m_rt m_rf m_st m_ib m_ob m_al m_el m_vt m_vf m_vs m_nr m_ty m_pa m_fn m_md m_ms m_mr) := by
  refine tEv.of (own := RX8) (ini := false) (L := [(0, .ref 0), (1, .long a0), (3, .int a1)]) (by decide +kernel) rfl (fun h9 => nomatch h9) rfl (Nat.le_of_ble_eq_true rfl) ?_
  rw [f_X8_primeOf] at hf
  refine g_iconst (q := 1) (v := 0) dX8_primeOf_0 rfl rfl ?_
  refine g_istore (q := 3) (L' := [(0, .ref 0), (1, .long a0), (3, .int a1), (4, .int 0)]) dX8_primeOf_1 rfl (by decide) rfl ?_
  refine g_iconst (q := 4) (v := 0) dX8_primeOf_3 rfl rfl ?_
  refine g_istore (q := 6) (L' := [(0, .ref 0), (1, .long a0), (3, .int a1), (4, .int 0), (5, .int 0)]) dX8_primeOf_4 rfl (by decide) rfl ?_
  refine g_ls [0, 1, 2, 3, 4] rfl ?_
  refine ev_X8_primeOf_L6 (fun  res hf => ?_) tFU _ _ res hf
  refine g_iconst (q := 47) (v := (-1)) dX8_primeOf_46 rfl rfl ?_
  have hf := Option.some.inj hf
  subst hf
  exact g_ireturn dX8_primeOf_47 rfl ⟨rfl, rfl⟩
def f_X8_primeImplicant (a0 : Int32) (a1 : Int32) (m_n : Int32) (m_pt : Int32) (m_t : List Int64) (m_f : List Int32) : Option (Int32) := (f_X8_wrongOrNot a0 m_n m_pt m_t m_f).bind fun r1 => (if r1 = 0 then (tld m_t a0).bind fun r4 => (f_X8_primeOf r4 a1 m_n m_pt).bind fun r6 => some r6 else some r1)
set_option maxRecDepth 20000 in
set_option maxHeartbeats 4000000 in
theorem ev_X8_primeImplicant {l : Launch} {E : tEn}  {m_n : Int32} {m_pt : Int32} {m_rc : Int32} {m_sa : Int64} {m_sb : Int64} {m_sc : Int32} {m_is : Int32} {m_os : Int32} {m_vn : Int32} {m_vc : Int32} {m_va : Int64} {m_vb : Int64} {m_ve : Int32} {m_no : Int32} {m_pl : Int32} {m_fa : Int32} {m_oc : Int32} {m_fu : Int32} {m_ke : Int32} {m_t : List Int64} {m_f : List Int32} {m_rs : List Int32} {m_rt : List Int64} {m_rf : List Int32} {m_st : List Int32} {m_ib : List Int32} {m_ob : List Int32} {m_al : List Int32} {m_el : List Int32} {m_vt : List Int64} {m_vf : List Int32} {m_vs : List Int32} {m_nr : List Int32} {m_ty : List Int32} {m_pa : List Int32} {m_fn : List Int64} {m_md : List Int64} {m_ms : List Int32} {m_mr : List Int32} {a0 : Int32} {a1 : Int32} {res : Int32} (hf : f_X8_primeImplicant a0 a1 m_n m_pt m_t m_f = some res) : tEv l E yX8_primeImplicant cX8_primeImplicant 4 (some .int) 5 0 0 [.ref 0, .int a0, .int a1] (encM m_n m_pt m_rc m_sa m_sb m_sc m_is m_os m_vn m_vc m_va m_vb m_ve m_no m_pl m_fa m_oc m_fu m_ke m_t m_f m_rs m_rt m_rf m_st m_ib m_ob m_al m_el m_vt m_vf m_vs m_nr m_ty m_pa m_fn m_md m_ms m_mr) (fun r h' => r = some (.int res) ∧ h' = encM m_n m_pt m_rc m_sa m_sb m_sc m_is m_os m_vn m_vc m_va m_vb m_ve m_no m_pl m_fa m_oc m_fu m_ke m_t m_f m_rs m_rt m_rf m_st m_ib m_ob m_al m_el m_vt m_vf m_vs m_nr m_ty m_pa m_fn m_md m_ms m_mr) := by
  refine tEv.of (own := RX8) (ini := false) (L := [(0, .ref 0), (1, .int a0), (2, .int a1)]) (by decide +kernel) rfl (fun h9 => nomatch h9) rfl (Nat.le_of_ble_eq_true rfl) ?_
  rw [f_X8_primeImplicant] at hf
  refine g_aload_n 0 (q := 1) dX8_primeImplicant_0 rfl rfl ?_
  refine g_iload_n 1 (q := 2) dX8_primeImplicant_1 rfl rfl ?_
  obtain ⟨r1, e2, hf⟩ := Option.bind_eq_some_iff.mp hf
  refine g_callV (a := 0) (k2 := 0) (n2 := 0) (q := 5) (as := [.int a0]) (st := []) (st1 := [.int r1]) tm_X8_wrongOrNot ml_X8_150 ti_X8_wrongOrNot rfl rfl dX8_primeImplicant_2 rfl (ev_X8_wrongOrNot e2) rfl rfl (Nat.le_of_ble_eq_true rfl) (by decide) rfl rfl (Or.inl rfl) rfl ?_
  refine g_istore_n (q := 6) (L' := [(0, .ref 0), (1, .int a0), (2, .int a1), (3, .int r1)]) dX8_primeImplicant_5 rfl (by decide) rfl ?_
  refine g_iload_n 3 (q := 7) dX8_primeImplicant_6 rfl rfl ?_
  refine g_if_eq (t := 14) (q := 10) dX8_primeImplicant_7 (by decide) rfl (fun c3 => ?_) (fun c3 => ?_)
  · rw [if_pos c3] at hf
    refine g_aload_n 0 (q := 15) dX8_primeImplicant_14 rfl rfl ?_
    refine g_aload_n 0 (q := 16) dX8_primeImplicant_15 rfl rfl ?_
    refine g_get (q := 19) fl_X8_16 dX8_primeImplicant_16 rfl rfl rfl ?_
    refine g_iload_n 1 (q := 20) dX8_primeImplicant_19 rfl rfl ?_
    obtain ⟨r4, e5, hf⟩ := Option.bind_eq_some_iff.mp hf
    refine g_laload (q := 21) dX8_primeImplicant_20 rfl rfl e5 ?_
    refine g_iload_n 2 (q := 22) dX8_primeImplicant_21 rfl rfl ?_
    obtain ⟨r6, e7, hf⟩ := Option.bind_eq_some_iff.mp hf
    refine g_callV (a := 0) (k2 := 0) (n2 := 0) (q := 25) (as := [.long r4, .int a1]) (st := []) (st1 := [.int r6]) tm_X8_primeOf ml_X8_156 ti_X8_primeOf rfl rfl dX8_primeImplicant_22 rfl (ev_X8_primeOf e7) rfl rfl (Nat.le_of_ble_eq_true rfl) (by decide) rfl rfl (Or.inl rfl) rfl ?_
    have hf := Option.some.inj hf
    subst hf
    exact g_ireturn dX8_primeImplicant_25 rfl ⟨rfl, rfl⟩
  · rw [if_neg c3] at hf
    refine g_iload_n 3 (q := 11) dX8_primeImplicant_10 rfl rfl ?_
    refine g_goto (t := 25) dX8_primeImplicant_11 (by decide) ?_
    have hf := Option.some.inj hf
    subst hf
    exact g_ireturn dX8_primeImplicant_25 rfl ⟨rfl, rfl⟩
def f_X8_isVariable (a0 : Int32) (m_n : Int32) : Int32 := (f_X8_isIn (Int32.toInt64 a0) 0 (Int32.toInt64 (m_n - 1)))
theorem bl_X8_isVariable (a0 : Int32) (m_n : Int32) : f_X8_isVariable a0 m_n = 0 ∨ f_X8_isVariable a0 m_n = 1 := by
  unfold f_X8_isVariable
  repeat' split
  all_goals first | exact Or.inl rfl | exact Or.inr rfl | exact bl_X8_isIn _ _ _
set_option maxRecDepth 20000 in
set_option maxHeartbeats 4000000 in
theorem ev_X8_isVariable {l : Launch} {E : tEn}  {m_n : Int32} {m_pt : Int32} {m_rc : Int32} {m_sa : Int64} {m_sb : Int64} {m_sc : Int32} {m_is : Int32} {m_os : Int32} {m_vn : Int32} {m_vc : Int32} {m_va : Int64} {m_vb : Int64} {m_ve : Int32} {m_no : Int32} {m_pl : Int32} {m_fa : Int32} {m_oc : Int32} {m_fu : Int32} {m_ke : Int32} {m_t : List Int64} {m_f : List Int32} {m_rs : List Int32} {m_rt : List Int64} {m_rf : List Int32} {m_st : List Int32} {m_ib : List Int32} {m_ob : List Int32} {m_al : List Int32} {m_el : List Int32} {m_vt : List Int64} {m_vf : List Int32} {m_vs : List Int32} {m_nr : List Int32} {m_ty : List Int32} {m_pa : List Int32} {m_fn : List Int64} {m_md : List Int64} {m_ms : List Int32} {m_mr : List Int32} {a0 : Int32} : tEv l E yX8_isVariable cX8_isVariable 2 (some .boolean) 2 0 0 [.ref 0, .int a0] (encM m_n m_pt m_rc m_sa m_sb m_sc m_is m_os m_vn m_vc m_va m_vb m_ve m_no m_pl m_fa m_oc m_fu m_ke m_t m_f m_rs m_rt m_rf m_st m_ib m_ob m_al m_el m_vt m_vf m_vs m_nr m_ty m_pa m_fn m_md m_ms m_mr) (fun r h' => r = some (.int (f_X8_isVariable a0 m_n)) ∧ h' = encM m_n m_pt m_rc m_sa m_sb m_sc m_is m_os m_vn m_vc m_va m_vb m_ve m_no m_pl m_fa m_oc m_fu m_ke m_t m_f m_rs m_rt m_rf m_st m_ib m_ob m_al m_el m_vt m_vf m_vs m_nr m_ty m_pa m_fn m_md m_ms m_mr) := by
  refine tEv.of (own := RX8) (ini := false) (L := [(0, .ref 0), (1, .int a0)]) (by decide +kernel) rfl (fun h9 => nomatch h9) rfl (Nat.le_of_ble_eq_true rfl) ?_
  obtain ⟨res, hf⟩ : ∃ z, f_X8_isVariable a0 m_n = z := ⟨_, rfl⟩
  rw [hf]
  rw [f_X8_isVariable] at hf
  refine g_iload_n 1 (q := 1) dX8_isVariable_0 rfl rfl ?_
  refine g_i2l (q := 2) dX8_isVariable_1 rfl ?_
  refine g_lconst (q := 3) (v := 0) dX8_isVariable_2 rfl rfl ?_
  refine g_aload_n 0 (q := 4) dX8_isVariable_3 rfl rfl ?_
  refine g_get (q := 7) fl_X8_7 dX8_isVariable_4 rfl rfl rfl ?_
  refine g_iconst (q := 8) (v := 1) dX8_isVariable_7 rfl rfl ?_
  refine g_isub (q := 9) dX8_isVariable_8 rfl ?_
  refine g_i2l (q := 10) dX8_isVariable_9 rfl ?_
  refine g_callS (k2 := 0) (n2 := 0) (q := 13) (as := [.long (Int32.toInt64 a0), .long 0, .long (Int32.toInt64 (m_n - 1))]) (st := []) (st1 := [.int (f_X8_isIn (Int32.toInt64 a0) 0 (Int32.toInt64 (m_n - 1)))]) tm_X8_isIn ml_X8_87 ts_X8_isIn dX8_isVariable_10 rfl ev_X8_isIn rfl rfl (Nat.le_of_ble_eq_true rfl) (by decide) rfl rfl (Or.inl rfl) rfl ?_
  subst hf
  exact g_zreturn (bl_X8_isIn (Int32.toInt64 a0) 0 (Int32.toInt64 (m_n - 1))) dX8_isVariable_13 rfl ⟨rfl, rfl⟩
def f_X8_graph_L11  (K : List Int32 → Option (Int32 × List Int32)) : Nat → Int32 → List Int32 → Option (Int32 × List Int32)
  | 0, _, _ => none
  | fu + 1, v3, m_nr => (if 5 ≤ v3 then K  m_nr else (tst m_nr v3 0).bind fun z4 => f_X8_graph_L11 K fu (v3 + 1) z4)
def f_X8_graph_L54 (w3 : Int32) (m_n : Int32) (K : List Int32 → Option (Int32 × List Int32)) : Nat → Int32 → List Int32 → Option (Int32 × List Int32)
  | 0, _, _ => none
  | fu + 1, v4, m_nr => (if m_n ≤ v4 then K  m_nr else (tld m_nr v4).bind fun r12 => (if ((w3 >>> (v4 &&& 31)) &&& 1) = 1 then (tst m_nr v4 (r12 ||| (w3 &&& (((1 : Int32) <<< (v4 &&& 31)) ^^^ (-1))))).bind fun z17 => f_X8_graph_L54 w3 m_n K fu (v4 + 1) z17 else (tst m_nr v4 (r12 ||| 0)).bind fun z15 => f_X8_graph_L54 w3 m_n K fu (v4 + 1) z15))
def f_X8_graph_L31 (w1 : Int64) (m_n : Int32) (m_pt : Int32) (K : List Int32 → Option (Int32 × List Int32)) : Nat → Int32 → List Int32 → Option (Int32 × List Int32)
  | 0, _, _ => none
  | fu + 1, v3, m_nr => (if m_pt ≤ v3 then K  m_nr else (f_X8_isPrime w1 v3 m_n).bind fun r8 => (if r8 = 0 then f_X8_graph_L31 w1 m_n m_pt K fu (v3 + 1) m_nr else f_X8_graph_L54 v3 m_n (fun k19 => f_X8_graph_L31 w1 m_n m_pt K fu (v3 + 1) k19) tFU 0 m_nr))
def f_X8_graph (a0 : Int64) (m_n : Int32) (m_pt : Int32) (m_ve : Int32) (m_nr : List Int32) : Option (Int32 × List Int32) := (f_X8_essentialOf a0 m_n m_pt).bind fun r1 => f_X8_graph_L11 (fun k6 => f_X8_graph_L31 a0 m_n m_pt (fun k20 => some (r1, k20)) tFU 0 k6) tFU 0 m_nr
set_option maxRecDepth 20000 in
set_option maxHeartbeats 4000000 in
theorem ev_X8_graph_L11 {l : Launch} {E : tEn}   {m_n : Int32} {m_pt : Int32} {m_rc : Int32} {m_sa : Int64} {m_sb : Int64} {m_sc : Int32} {m_is : Int32} {m_os : Int32} {m_vn : Int32} {m_vc : Int32} {m_va : Int64} {m_vb : Int64} {m_ve : Int32} {m_no : Int32} {m_pl : Int32} {m_fa : Int32} {m_oc : Int32} {m_fu : Int32} {m_ke : Int32} {m_t : List Int64} {m_f : List Int32} {m_rs : List Int32} {m_rt : List Int64} {m_rf : List Int32} {m_st : List Int32} {m_ib : List Int32} {m_ob : List Int32} {m_al : List Int32} {m_el : List Int32} {m_vt : List Int64} {m_vf : List Int32} {m_vs : List Int32} {m_ty : List Int32} {m_pa : List Int32} {m_fn : List Int64} {m_md : List Int64} {m_ms : List Int32} {m_mr : List Int32} {w1 : Int64} {K : List Int32 → Option (Int32 × List Int32)} (hK : ∀  (m_nr : List Int32) (res : Int32 × List Int32), K m_nr = some res → tG l E RX8 cX8_graph 5 none false 3 (fun r h' => r = none ∧ h' = encM m_n m_pt m_rc m_sa m_sb m_sc m_is m_os m_vn m_vc m_va m_vb (res.1) m_no m_pl m_fa m_oc m_fu m_ke m_t m_f m_rs m_rt m_rf m_st m_ib m_ob m_al m_el m_vt m_vf m_vs (res.2) m_ty m_pa m_fn m_md m_ms m_mr) 0 0 29 [(0, .ref 0), (1, .long w1)] [] (encM m_n m_pt m_rc m_sa m_sb m_sc m_is m_os m_vn m_vc m_va m_vb m_ve m_no m_pl m_fa m_oc m_fu m_ke m_t m_f m_rs m_rt m_rf m_st m_ib m_ob m_al m_el m_vt m_vf m_vs m_nr m_ty m_pa m_fn m_md m_ms m_mr)) :
    ∀ (fu : Nat) (v3 : Int32) (m_nr : List Int32) (res : Int32 × List Int32), f_X8_graph_L11  K fu v3 m_nr = some res → tG l E RX8 cX8_graph 5 none false 3 (fun r h' => r = none ∧ h' = encM m_n m_pt m_rc m_sa m_sb m_sc m_is m_os m_vn m_vc m_va m_vb (res.1) m_no m_pl m_fa m_oc m_fu m_ke m_t m_f m_rs m_rt m_rf m_st m_ib m_ob m_al m_el m_vt m_vf m_vs (res.2) m_ty m_pa m_fn m_md m_ms m_mr) 0 0 11 [(0, .ref 0), (1, .long w1), (3, .int v3)] [] (encM m_n m_pt m_rc m_sa m_sb m_sc m_is m_os m_vn m_vc m_va m_vb m_ve m_no m_pl m_fa m_oc m_fu m_ke m_t m_f m_rs m_rt m_rf m_st m_ib m_ob m_al m_el m_vt m_vf m_vs m_nr m_ty m_pa m_fn m_md m_ms m_mr) := by
  intro fu
  induction fu with
  | zero => intro v3 m_nr res hf; exact nomatch (show none = some res from hf)
  | succ fu ih =>
    intro v3 m_nr res hf
    rw [f_X8_graph_L11] at hf
    refine g_iload_n 2 (q := 12) dX8_graph_11 rfl rfl ?_
    refine g_iconst (q := 13) (v := 5) dX8_graph_12 rfl rfl ?_
    refine g_icmp_ge (t := 29) (q := 16) dX8_graph_13 (by decide) rfl (fun c3 => ?_) (fun c3 => ?_)
    · rw [if_pos c3] at hf
      refine g_ls [0, 1] rfl ?_
      exact hK _ _ hf
    · rw [if_neg c3] at hf
      refine g_aload_n 0 (q := 17) dX8_graph_16 rfl rfl ?_
      refine g_get (q := 20) fl_X8_61 dX8_graph_17 rfl rfl rfl ?_
      refine g_iload_n 2 (q := 21) dX8_graph_20 rfl rfl ?_
      refine g_iconst (q := 22) (v := 0) dX8_graph_21 rfl rfl ?_
      obtain ⟨z4, e5, hf⟩ := Option.bind_eq_some_iff.mp hf
      refine g_iastore (q := 23) (h' := encM m_n m_pt m_rc m_sa m_sb m_sc m_is m_os m_vn m_vc m_va m_vb m_ve m_no m_pl m_fa m_oc m_fu m_ke m_t m_f m_rs m_rt m_rf m_st m_ib m_ob m_al m_el m_vt m_vf m_vs z4 m_ty m_pa m_fn m_md m_ms m_mr) dX8_graph_22 rfl rfl e5 rfl ?_
      refine g_iinc 2 (q := 26) (v := (v3 + 1)) (L' := [(0, .ref 0), (1, .long w1), (3, .int (v3 + 1))]) dX8_graph_23 rfl rfl rfl (by decide) rfl ?_
      refine g_goto (t := 11) dX8_graph_26 (by decide) ?_
      refine g_ls [0, 1, 2] rfl ?_
      exact ih _ _ _ hf
set_option maxRecDepth 20000 in
set_option maxHeartbeats 4000000 in
theorem ev_X8_graph_L54 {l : Launch} {E : tEn}   {m_n : Int32} {m_pt : Int32} {m_rc : Int32} {m_sa : Int64} {m_sb : Int64} {m_sc : Int32} {m_is : Int32} {m_os : Int32} {m_vn : Int32} {m_vc : Int32} {m_va : Int64} {m_vb : Int64} {m_ve : Int32} {m_no : Int32} {m_pl : Int32} {m_fa : Int32} {m_oc : Int32} {m_fu : Int32} {m_ke : Int32} {m_t : List Int64} {m_f : List Int32} {m_rs : List Int32} {m_rt : List Int64} {m_rf : List Int32} {m_st : List Int32} {m_ib : List Int32} {m_ob : List Int32} {m_al : List Int32} {m_el : List Int32} {m_vt : List Int64} {m_vf : List Int32} {m_vs : List Int32} {m_ty : List Int32} {m_pa : List Int32} {m_fn : List Int64} {m_md : List Int64} {m_ms : List Int32} {m_mr : List Int32} {w1 : Int64} {w3 : Int32} {K : List Int32 → Option (Int32 × List Int32)} (hK : ∀  (m_nr : List Int32) (res : Int32 × List Int32), K m_nr = some res → tG l E RX8 cX8_graph 5 none false 3 (fun r h' => r = none ∧ h' = encM m_n m_pt m_rc m_sa m_sb m_sc m_is m_os m_vn m_vc m_va m_vb (res.1) m_no m_pl m_fa m_oc m_fu m_ke m_t m_f m_rs m_rt m_rf m_st m_ib m_ob m_al m_el m_vt m_vf m_vs (res.2) m_ty m_pa m_fn m_md m_ms m_mr) 0 0 101 [(0, .ref 0), (1, .long w1), (3, .int w3)] [] (encM m_n m_pt m_rc m_sa m_sb m_sc m_is m_os m_vn m_vc m_va m_vb m_ve m_no m_pl m_fa m_oc m_fu m_ke m_t m_f m_rs m_rt m_rf m_st m_ib m_ob m_al m_el m_vt m_vf m_vs m_nr m_ty m_pa m_fn m_md m_ms m_mr)) :
    ∀ (fu : Nat) (v4 : Int32) (m_nr : List Int32) (res : Int32 × List Int32), f_X8_graph_L54 w3 m_n K fu v4 m_nr = some res → tG l E RX8 cX8_graph 5 none false 3 (fun r h' => r = none ∧ h' = encM m_n m_pt m_rc m_sa m_sb m_sc m_is m_os m_vn m_vc m_va m_vb (res.1) m_no m_pl m_fa m_oc m_fu m_ke m_t m_f m_rs m_rt m_rf m_st m_ib m_ob m_al m_el m_vt m_vf m_vs (res.2) m_ty m_pa m_fn m_md m_ms m_mr) 0 0 54 [(0, .ref 0), (1, .long w1), (3, .int w3), (4, .int v4)] [] (encM m_n m_pt m_rc m_sa m_sb m_sc m_is m_os m_vn m_vc m_va m_vb m_ve m_no m_pl m_fa m_oc m_fu m_ke m_t m_f m_rs m_rt m_rf m_st m_ib m_ob m_al m_el m_vt m_vf m_vs m_nr m_ty m_pa m_fn m_md m_ms m_mr) := by
  intro fu
  induction fu with
  | zero => intro v4 m_nr res hf; exact nomatch (show none = some res from hf)
  | succ fu ih =>
    intro v4 m_nr res hf
    rw [f_X8_graph_L54] at hf
    refine g_iload 3 (q := 56) dX8_graph_54 rfl rfl ?_
    refine g_aload_n 0 (q := 57) dX8_graph_56 rfl rfl ?_
    refine g_get (q := 60) fl_X8_7 dX8_graph_57 rfl rfl rfl ?_
    refine g_icmp_ge (t := 101) (q := 63) dX8_graph_60 (by decide) rfl (fun c11 => ?_) (fun c11 => ?_)
    · rw [if_pos c11] at hf
      refine g_ls [0, 1, 2] rfl ?_
      exact hK _ _ hf
    · rw [if_neg c11] at hf
      refine g_aload_n 0 (q := 64) dX8_graph_63 rfl rfl ?_
      refine g_get (q := 67) fl_X8_61 dX8_graph_64 rfl rfl rfl ?_
      refine g_iload 3 (q := 69) dX8_graph_67 rfl rfl ?_
      refine g_dup2 (q := 70) dX8_graph_69 rfl rfl rfl ?_
      obtain ⟨r12, e13, hf⟩ := Option.bind_eq_some_iff.mp hf
      refine g_iaload (q := 71) dX8_graph_70 rfl rfl e13 ?_
      refine g_iload_n 2 (q := 72) dX8_graph_71 rfl rfl ?_
      refine g_iload 3 (q := 74) dX8_graph_72 rfl rfl ?_
      refine g_ishr (q := 75) dX8_graph_74 rfl ?_
      refine g_iconst (q := 76) (v := 1) dX8_graph_75 rfl rfl ?_
      refine g_iand (q := 77) dX8_graph_76 rfl ?_
      refine g_iconst (q := 78) (v := 1) dX8_graph_77 rfl rfl ?_
      refine g_icmp_ne (t := 92) (q := 81) dX8_graph_78 (by decide) rfl (fun c14 => ?_) (fun c14 => ?_)
      · rw [if_neg c14] at hf
        refine g_iconst (q := 93) (v := 0) dX8_graph_92 rfl rfl ?_
        refine g_ior (q := 94) dX8_graph_93 rfl ?_
        obtain ⟨z15, e16, hf⟩ := Option.bind_eq_some_iff.mp hf
        refine g_iastore (q := 95) (h' := encM m_n m_pt m_rc m_sa m_sb m_sc m_is m_os m_vn m_vc m_va m_vb m_ve m_no m_pl m_fa m_oc m_fu m_ke m_t m_f m_rs m_rt m_rf m_st m_ib m_ob m_al m_el m_vt m_vf m_vs z15 m_ty m_pa m_fn m_md m_ms m_mr) dX8_graph_94 rfl rfl e16 rfl ?_
        refine g_iinc 3 (q := 98) (v := (v4 + 1)) (L' := [(0, .ref 0), (1, .long w1), (3, .int w3), (4, .int (v4 + 1))]) dX8_graph_95 rfl rfl rfl (by decide) rfl ?_
        refine g_goto (t := 54) dX8_graph_98 (by decide) ?_
        refine g_ls [0, 1, 2, 3] rfl ?_
        exact ih _ _ _ hf
      · rw [if_pos c14] at hf
        refine g_iload_n 2 (q := 82) dX8_graph_81 rfl rfl ?_
        refine g_iconst (q := 83) (v := 1) dX8_graph_82 rfl rfl ?_
        refine g_iload 3 (q := 85) dX8_graph_83 rfl rfl ?_
        refine g_ishl (q := 86) dX8_graph_85 rfl ?_
        refine g_iconst (q := 87) (v := (-1)) dX8_graph_86 rfl rfl ?_
        refine g_ixor (q := 88) dX8_graph_87 rfl ?_
        refine g_iand (q := 89) dX8_graph_88 rfl ?_
        refine g_goto (t := 93) dX8_graph_89 (by decide) ?_
        refine g_ior (q := 94) dX8_graph_93 rfl ?_
        obtain ⟨z17, e18, hf⟩ := Option.bind_eq_some_iff.mp hf
        refine g_iastore (q := 95) (h' := encM m_n m_pt m_rc m_sa m_sb m_sc m_is m_os m_vn m_vc m_va m_vb m_ve m_no m_pl m_fa m_oc m_fu m_ke m_t m_f m_rs m_rt m_rf m_st m_ib m_ob m_al m_el m_vt m_vf m_vs z17 m_ty m_pa m_fn m_md m_ms m_mr) dX8_graph_94 rfl rfl e18 rfl ?_
        refine g_iinc 3 (q := 98) (v := (v4 + 1)) (L' := [(0, .ref 0), (1, .long w1), (3, .int w3), (4, .int (v4 + 1))]) dX8_graph_95 rfl rfl rfl (by decide) rfl ?_
        refine g_goto (t := 54) dX8_graph_98 (by decide) ?_
        refine g_ls [0, 1, 2, 3] rfl ?_
        exact ih _ _ _ hf
set_option maxRecDepth 20000 in
set_option maxHeartbeats 4000000 in
theorem ev_X8_graph_L31 {l : Launch} {E : tEn}   {m_n : Int32} {m_pt : Int32} {m_rc : Int32} {m_sa : Int64} {m_sb : Int64} {m_sc : Int32} {m_is : Int32} {m_os : Int32} {m_vn : Int32} {m_vc : Int32} {m_va : Int64} {m_vb : Int64} {m_ve : Int32} {m_no : Int32} {m_pl : Int32} {m_fa : Int32} {m_oc : Int32} {m_fu : Int32} {m_ke : Int32} {m_t : List Int64} {m_f : List Int32} {m_rs : List Int32} {m_rt : List Int64} {m_rf : List Int32} {m_st : List Int32} {m_ib : List Int32} {m_ob : List Int32} {m_al : List Int32} {m_el : List Int32} {m_vt : List Int64} {m_vf : List Int32} {m_vs : List Int32} {m_ty : List Int32} {m_pa : List Int32} {m_fn : List Int64} {m_md : List Int64} {m_ms : List Int32} {m_mr : List Int32} {w1 : Int64} {K : List Int32 → Option (Int32 × List Int32)} (hK : ∀  (m_nr : List Int32) (res : Int32 × List Int32), K m_nr = some res → tG l E RX8 cX8_graph 5 none false 3 (fun r h' => r = none ∧ h' = encM m_n m_pt m_rc m_sa m_sb m_sc m_is m_os m_vn m_vc m_va m_vb (res.1) m_no m_pl m_fa m_oc m_fu m_ke m_t m_f m_rs m_rt m_rf m_st m_ib m_ob m_al m_el m_vt m_vf m_vs (res.2) m_ty m_pa m_fn m_md m_ms m_mr) 0 0 107 [] [] (encM m_n m_pt m_rc m_sa m_sb m_sc m_is m_os m_vn m_vc m_va m_vb m_ve m_no m_pl m_fa m_oc m_fu m_ke m_t m_f m_rs m_rt m_rf m_st m_ib m_ob m_al m_el m_vt m_vf m_vs m_nr m_ty m_pa m_fn m_md m_ms m_mr)) :
    ∀ (fu : Nat) (v3 : Int32) (m_nr : List Int32) (res : Int32 × List Int32), f_X8_graph_L31 w1 m_n m_pt K fu v3 m_nr = some res → tG l E RX8 cX8_graph 5 none false 3 (fun r h' => r = none ∧ h' = encM m_n m_pt m_rc m_sa m_sb m_sc m_is m_os m_vn m_vc m_va m_vb (res.1) m_no m_pl m_fa m_oc m_fu m_ke m_t m_f m_rs m_rt m_rf m_st m_ib m_ob m_al m_el m_vt m_vf m_vs (res.2) m_ty m_pa m_fn m_md m_ms m_mr) 0 0 31 [(0, .ref 0), (1, .long w1), (3, .int v3)] [] (encM m_n m_pt m_rc m_sa m_sb m_sc m_is m_os m_vn m_vc m_va m_vb m_ve m_no m_pl m_fa m_oc m_fu m_ke m_t m_f m_rs m_rt m_rf m_st m_ib m_ob m_al m_el m_vt m_vf m_vs m_nr m_ty m_pa m_fn m_md m_ms m_mr) := by
  intro fu
  induction fu with
  | zero => intro v3 m_nr res hf; exact nomatch (show none = some res from hf)
  | succ fu ih =>
    intro v3 m_nr res hf
    rw [f_X8_graph_L31] at hf
    refine g_iload_n 2 (q := 32) dX8_graph_31 rfl rfl ?_
    refine g_aload_n 0 (q := 33) dX8_graph_32 rfl rfl ?_
    refine g_get (q := 36) fl_X8_13 dX8_graph_33 rfl rfl rfl ?_
    refine g_icmp_ge (t := 107) (q := 39) dX8_graph_36 (by decide) rfl (fun c7 => ?_) (fun c7 => ?_)
    · rw [if_pos c7] at hf
      refine g_ls [] rfl ?_
      exact hK _ _ hf
    · rw [if_neg c7] at hf
      refine g_aload_n 0 (q := 40) dX8_graph_39 rfl rfl ?_
      refine g_lload_n 1 (q := 41) dX8_graph_40 rfl rfl ?_
      refine g_iload_n 2 (q := 42) dX8_graph_41 rfl rfl ?_
      obtain ⟨r8, e9, hf⟩ := Option.bind_eq_some_iff.mp hf
      refine g_callV (a := 0) (k2 := 0) (n2 := 0) (q := 45) (as := [.long w1, .int v3]) (st := []) (st1 := [.int r8]) tm_X8_isPrime ml_X8_147 ti_X8_isPrime rfl rfl dX8_graph_42 rfl (ev_X8_isPrime e9) rfl rfl (Nat.le_of_ble_eq_true rfl) (by decide) rfl rfl (Or.inl rfl) rfl ?_
      refine g_if_ne (t := 51) (q := 48) dX8_graph_45 (by decide) rfl (fun c10 => ?_) (fun c10 => ?_)
      · rw [if_neg c10] at hf
        refine g_iconst (q := 52) (v := 0) dX8_graph_51 rfl rfl ?_
        refine g_istore (q := 54) (L' := [(0, .ref 0), (1, .long w1), (3, .int v3), (4, .int 0)]) dX8_graph_52 rfl (by decide) rfl ?_
        refine g_ls [0, 1, 2, 3] rfl ?_
        refine ev_X8_graph_L54 (fun k19 res hf => ?_) tFU _ _ res hf
        refine g_iinc 2 (q := 104) (v := (v3 + 1)) (L' := [(0, .ref 0), (1, .long w1), (3, .int (v3 + 1))]) dX8_graph_101 rfl rfl rfl (by decide) rfl ?_
        refine g_goto (t := 31) dX8_graph_104 (by decide) ?_
        refine g_ls [0, 1, 2] rfl ?_
        exact ih _ _ _ hf
      · rw [if_pos c10] at hf
        refine g_goto (t := 101) dX8_graph_48 (by decide) ?_
        refine g_iinc 2 (q := 104) (v := (v3 + 1)) (L' := [(0, .ref 0), (1, .long w1), (3, .int (v3 + 1))]) dX8_graph_101 rfl rfl rfl (by decide) rfl ?_
        refine g_goto (t := 31) dX8_graph_104 (by decide) ?_
        refine g_ls [0, 1, 2] rfl ?_
        exact ih _ _ _ hf
set_option maxRecDepth 20000 in
set_option maxHeartbeats 4000000 in
theorem ev_X8_graph {l : Launch} {E : tEn}  {m_n : Int32} {m_pt : Int32} {m_rc : Int32} {m_sa : Int64} {m_sb : Int64} {m_sc : Int32} {m_is : Int32} {m_os : Int32} {m_vn : Int32} {m_vc : Int32} {m_va : Int64} {m_vb : Int64} {m_ve : Int32} {m_no : Int32} {m_pl : Int32} {m_fa : Int32} {m_oc : Int32} {m_fu : Int32} {m_ke : Int32} {m_t : List Int64} {m_f : List Int32} {m_rs : List Int32} {m_rt : List Int64} {m_rf : List Int32} {m_st : List Int32} {m_ib : List Int32} {m_ob : List Int32} {m_al : List Int32} {m_el : List Int32} {m_vt : List Int64} {m_vf : List Int32} {m_vs : List Int32} {m_nr : List Int32} {m_ty : List Int32} {m_pa : List Int32} {m_fn : List Int64} {m_md : List Int64} {m_ms : List Int32} {m_mr : List Int32} {a0 : Int64} {res : Int32 × List Int32} (hf : f_X8_graph a0 m_n m_pt m_ve m_nr = some res) : tEv l E yX8_graph cX8_graph 5 none 3 0 0 [.ref 0, .long a0] (encM m_n m_pt m_rc m_sa m_sb m_sc m_is m_os m_vn m_vc m_va m_vb m_ve m_no m_pl m_fa m_oc m_fu m_ke m_t m_f m_rs m_rt m_rf m_st m_ib m_ob m_al m_el m_vt m_vf m_vs m_nr m_ty m_pa m_fn m_md m_ms m_mr) (fun r h' => r = none ∧ h' = encM m_n m_pt m_rc m_sa m_sb m_sc m_is m_os m_vn m_vc m_va m_vb (res.1) m_no m_pl m_fa m_oc m_fu m_ke m_t m_f m_rs m_rt m_rf m_st m_ib m_ob m_al m_el m_vt m_vf m_vs (res.2) m_ty m_pa m_fn m_md m_ms m_mr) := by
  refine tEv.of (own := RX8) (ini := false) (L := [(0, .ref 0), (1, .long a0)]) (by decide +kernel) rfl (fun h9 => nomatch h9) rfl (Nat.le_of_ble_eq_true rfl) ?_
  rw [f_X8_graph] at hf
  refine g_aload_n 0 (q := 1) dX8_graph_0 rfl rfl ?_
  refine g_aload_n 0 (q := 2) dX8_graph_1 rfl rfl ?_
  refine g_lload_n 1 (q := 3) dX8_graph_2 rfl rfl ?_
  obtain ⟨r1, e2, hf⟩ := Option.bind_eq_some_iff.mp hf
  refine g_callV (a := 0) (k2 := 0) (n2 := 0) (q := 6) (as := [.long a0]) (st := [.ref 0]) (st1 := [.int r1, .ref 0]) tm_X8_essentialOf ml_X8_141 ti_X8_essentialOf rfl rfl dX8_graph_3 rfl (ev_X8_essentialOf e2) rfl rfl (Nat.le_of_ble_eq_true rfl) (by decide) rfl rfl (Or.inl rfl) rfl ?_
  refine g_put (q := 9) (h' := encM m_n m_pt m_rc m_sa m_sb m_sc m_is m_os m_vn m_vc m_va m_vb r1 m_no m_pl m_fa m_oc m_fu m_ke m_t m_f m_rs m_rt m_rf m_st m_ib m_ob m_al m_el m_vt m_vf m_vs m_nr m_ty m_pa m_fn m_md m_ms m_mr) fp_X8_160 dX8_graph_6 rfl rfl (Nat.le_of_ble_eq_true rfl) (fun _ => ⟨rfl, rfl⟩) rfl ?_
  refine g_iconst (q := 10) (v := 0) dX8_graph_9 rfl rfl ?_
  refine g_istore_n (q := 11) (L' := [(0, .ref 0), (1, .long a0), (3, .int 0)]) dX8_graph_10 rfl (by decide) rfl ?_
  refine g_ls [0, 1, 2] rfl ?_
  refine ev_X8_graph_L11 (fun k6 res hf => ?_) tFU _ _ res hf
  refine g_iconst (q := 30) (v := 0) dX8_graph_29 rfl rfl ?_
  refine g_istore_n (q := 31) (L' := [(0, .ref 0), (1, .long a0), (3, .int 0)]) dX8_graph_30 rfl (by decide) rfl ?_
  refine g_ls [0, 1, 2] rfl ?_
  refine ev_X8_graph_L31 (fun k20 res hf => ?_) tFU _ _ res hf
  have hf := Option.some.inj hf
  subst hf
  exact g_return dX8_graph_107 rfl ⟨rfl, rfl⟩
def f_X8_neighbors (a0 : Int32) (a1 : Int32) (m_n : Int32) (m_pt : Int32) (m_ve : Int32) (m_t : List Int64) (m_f : List Int32) (m_nr : List Int32) : Option (Int32 × Int32 × List Int32) := (if (f_X8_isSlot a0) = 0 then some ((-2), m_ve, m_nr) else (if (f_X8_isVariable a1 m_n) = 0 then some ((-2), m_ve, m_nr) else (f_X8_wrongOrNot a0 m_n m_pt m_t m_f).bind fun r3 => (if r3 = 0 then (tld m_t a0).bind fun r6 => (f_X8_graph r6 m_n m_pt m_ve m_nr).bind fun r8 => (tld (r8.2) a1).bind fun r10 => some (r10, r8.1, r8.2) else some (r3, m_ve, m_nr))))
set_option maxRecDepth 20000 in
set_option maxHeartbeats 4000000 in
theorem ev_X8_neighbors {l : Launch} {E : tEn}  {m_n : Int32} {m_pt : Int32} {m_rc : Int32} {m_sa : Int64} {m_sb : Int64} {m_sc : Int32} {m_is : Int32} {m_os : Int32} {m_vn : Int32} {m_vc : Int32} {m_va : Int64} {m_vb : Int64} {m_ve : Int32} {m_no : Int32} {m_pl : Int32} {m_fa : Int32} {m_oc : Int32} {m_fu : Int32} {m_ke : Int32} {m_t : List Int64} {m_f : List Int32} {m_rs : List Int32} {m_rt : List Int64} {m_rf : List Int32} {m_st : List Int32} {m_ib : List Int32} {m_ob : List Int32} {m_al : List Int32} {m_el : List Int32} {m_vt : List Int64} {m_vf : List Int32} {m_vs : List Int32} {m_nr : List Int32} {m_ty : List Int32} {m_pa : List Int32} {m_fn : List Int64} {m_md : List Int64} {m_ms : List Int32} {m_mr : List Int32} {a0 : Int32} {a1 : Int32} {res : Int32 × Int32 × List Int32} (hf : f_X8_neighbors a0 a1 m_n m_pt m_ve m_t m_f m_nr = some res) : tEv l E yX8_neighbors cX8_neighbors 4 (some .int) 5 0 0 [.ref 0, .int a0, .int a1] (encM m_n m_pt m_rc m_sa m_sb m_sc m_is m_os m_vn m_vc m_va m_vb m_ve m_no m_pl m_fa m_oc m_fu m_ke m_t m_f m_rs m_rt m_rf m_st m_ib m_ob m_al m_el m_vt m_vf m_vs m_nr m_ty m_pa m_fn m_md m_ms m_mr) (fun r h' => r = some (.int res.1) ∧ h' = encM m_n m_pt m_rc m_sa m_sb m_sc m_is m_os m_vn m_vc m_va m_vb (res.2.1) m_no m_pl m_fa m_oc m_fu m_ke m_t m_f m_rs m_rt m_rf m_st m_ib m_ob m_al m_el m_vt m_vf m_vs (res.2.2) m_ty m_pa m_fn m_md m_ms m_mr) := by
  refine tEv.of (own := RX8) (ini := false) (L := [(0, .ref 0), (1, .int a0), (2, .int a1)]) (by decide +kernel) rfl (fun h9 => nomatch h9) rfl (Nat.le_of_ble_eq_true rfl) ?_
  rw [f_X8_neighbors] at hf
  refine g_iload_n 1 (q := 1) dX8_neighbors_0 rfl rfl ?_
  refine g_callS (k2 := 0) (n2 := 0) (q := 4) (as := [.int a0]) (st := []) (st1 := [.int (f_X8_isSlot a0)]) tm_X8_isSlot ml_X8_118 ts_X8_isSlot dX8_neighbors_1 rfl ev_X8_isSlot rfl rfl (Nat.le_of_ble_eq_true rfl) (by decide) rfl rfl (Or.inl rfl) rfl ?_
  refine g_if_eq (t := 15) (q := 7) dX8_neighbors_4 (by decide) rfl (fun c1 => ?_) (fun c1 => ?_)
  · rw [if_pos c1] at hf
    refine g_bipush (q := 17) (v := (-2)) dX8_neighbors_15 rfl rfl ?_
    have hf := Option.some.inj hf
    subst hf
    exact g_ireturn dX8_neighbors_17 rfl ⟨rfl, rfl⟩
  · rw [if_neg c1] at hf
    refine g_aload_n 0 (q := 8) dX8_neighbors_7 rfl rfl ?_
    refine g_iload_n 2 (q := 9) dX8_neighbors_8 rfl rfl ?_
    refine g_callV (a := 0) (k2 := 0) (n2 := 0) (q := 12) (as := [.int a1]) (st := []) (st1 := [.int (f_X8_isVariable a1 m_n)]) tm_X8_isVariable ml_X8_163 ti_X8_isVariable rfl rfl dX8_neighbors_9 rfl ev_X8_isVariable rfl rfl (Nat.le_of_ble_eq_true rfl) (by decide) rfl rfl (Or.inl rfl) rfl ?_
    refine g_if_ne (t := 18) (q := 15) dX8_neighbors_12 (by decide) rfl (fun c2 => ?_) (fun c2 => ?_)
    · rw [if_neg c2] at hf
      refine g_aload_n 0 (q := 19) dX8_neighbors_18 rfl rfl ?_
      refine g_iload_n 1 (q := 20) dX8_neighbors_19 rfl rfl ?_
      obtain ⟨r3, e4, hf⟩ := Option.bind_eq_some_iff.mp hf
      refine g_callV (a := 0) (k2 := 0) (n2 := 0) (q := 23) (as := [.int a0]) (st := []) (st1 := [.int r3]) tm_X8_wrongOrNot ml_X8_150 ti_X8_wrongOrNot rfl rfl dX8_neighbors_20 rfl (ev_X8_wrongOrNot e4) rfl rfl (Nat.le_of_ble_eq_true rfl) (by decide) rfl rfl (Or.inl rfl) rfl ?_
      refine g_istore_n (q := 24) (L' := [(0, .ref 0), (1, .int a0), (2, .int a1), (3, .int r3)]) dX8_neighbors_23 rfl (by decide) rfl ?_
      refine g_iload_n 3 (q := 25) dX8_neighbors_24 rfl rfl ?_
      refine g_if_eq (t := 30) (q := 28) dX8_neighbors_25 (by decide) rfl (fun c5 => ?_) (fun c5 => ?_)
      · rw [if_pos c5] at hf
        refine g_aload_n 0 (q := 31) dX8_neighbors_30 rfl rfl ?_
        refine g_aload_n 0 (q := 32) dX8_neighbors_31 rfl rfl ?_
        refine g_get (q := 35) fl_X8_16 dX8_neighbors_32 rfl rfl rfl ?_
        refine g_iload_n 1 (q := 36) dX8_neighbors_35 rfl rfl ?_
        obtain ⟨r6, e7, hf⟩ := Option.bind_eq_some_iff.mp hf
        refine g_laload (q := 37) dX8_neighbors_36 rfl rfl e7 ?_
        obtain ⟨r8, e9, hf⟩ := Option.bind_eq_some_iff.mp hf
        refine g_callV (a := 0) (k2 := 0) (n2 := 0) (q := 40) (as := [.long r6]) (st := []) (st1 := []) tm_X8_graph ml_X8_166 ti_X8_graph rfl rfl dX8_neighbors_37 rfl (ev_X8_graph e9) rfl rfl (Nat.le_of_ble_eq_true rfl) (by decide) rfl rfl (Or.inl (encM_len.trans encM_len.symm)) rfl ?_
        refine g_aload_n 0 (q := 41) dX8_neighbors_40 rfl rfl ?_
        refine g_get (q := 44) fl_X8_61 dX8_neighbors_41 rfl rfl rfl ?_
        refine g_iload_n 2 (q := 45) dX8_neighbors_44 rfl rfl ?_
        obtain ⟨r10, e11, hf⟩ := Option.bind_eq_some_iff.mp hf
        refine g_iaload (q := 46) dX8_neighbors_45 rfl rfl e11 ?_
        have hf := Option.some.inj hf
        subst hf
        exact g_ireturn dX8_neighbors_46 rfl ⟨rfl, rfl⟩
      · rw [if_neg c5] at hf
        refine g_iload_n 3 (q := 29) dX8_neighbors_28 rfl rfl ?_
        have hf := Option.some.inj hf
        subst hf
        exact g_ireturn dX8_neighbors_29 rfl ⟨rfl, rfl⟩
    · rw [if_pos c2] at hf
      refine g_bipush (q := 17) (v := (-2)) dX8_neighbors_15 rfl rfl ?_
      have hf := Option.some.inj hf
      subst hf
      exact g_ireturn dX8_neighbors_17 rfl ⟨rfl, rfl⟩
def f_X8_areNear (a0 : Int32) (a1 : Int32) (m_nr : List Int32) : Option (Int32) := (tld m_nr a0).bind fun r1 => (if ((r1 >>> (a1 &&& 31)) &&& 1) = 1 then some 1 else some 0)
set_option maxRecDepth 20000 in
set_option maxHeartbeats 4000000 in
theorem ev_X8_areNear {l : Launch} {E : tEn}  {m_n : Int32} {m_pt : Int32} {m_rc : Int32} {m_sa : Int64} {m_sb : Int64} {m_sc : Int32} {m_is : Int32} {m_os : Int32} {m_vn : Int32} {m_vc : Int32} {m_va : Int64} {m_vb : Int64} {m_ve : Int32} {m_no : Int32} {m_pl : Int32} {m_fa : Int32} {m_oc : Int32} {m_fu : Int32} {m_ke : Int32} {m_t : List Int64} {m_f : List Int32} {m_rs : List Int32} {m_rt : List Int64} {m_rf : List Int32} {m_st : List Int32} {m_ib : List Int32} {m_ob : List Int32} {m_al : List Int32} {m_el : List Int32} {m_vt : List Int64} {m_vf : List Int32} {m_vs : List Int32} {m_nr : List Int32} {m_ty : List Int32} {m_pa : List Int32} {m_fn : List Int64} {m_md : List Int64} {m_ms : List Int32} {m_mr : List Int32} {a0 : Int32} {a1 : Int32} {res : Int32} (hf : f_X8_areNear a0 a1 m_nr = some res) : tEv l E yX8_areNear cX8_areNear 3 (some .boolean) 1 0 0 [.ref 0, .int a0, .int a1] (encM m_n m_pt m_rc m_sa m_sb m_sc m_is m_os m_vn m_vc m_va m_vb m_ve m_no m_pl m_fa m_oc m_fu m_ke m_t m_f m_rs m_rt m_rf m_st m_ib m_ob m_al m_el m_vt m_vf m_vs m_nr m_ty m_pa m_fn m_md m_ms m_mr) (fun r h' => r = some (.int res) ∧ h' = encM m_n m_pt m_rc m_sa m_sb m_sc m_is m_os m_vn m_vc m_va m_vb m_ve m_no m_pl m_fa m_oc m_fu m_ke m_t m_f m_rs m_rt m_rf m_st m_ib m_ob m_al m_el m_vt m_vf m_vs m_nr m_ty m_pa m_fn m_md m_ms m_mr) := by
  refine tEv.of (own := RX8) (ini := false) (L := [(0, .ref 0), (1, .int a0), (2, .int a1)]) (by decide +kernel) rfl (fun h9 => nomatch h9) rfl (Nat.le_of_ble_eq_true rfl) ?_
  rw [f_X8_areNear] at hf
  refine g_aload_n 0 (q := 1) dX8_areNear_0 rfl rfl ?_
  refine g_get (q := 4) fl_X8_61 dX8_areNear_1 rfl rfl rfl ?_
  refine g_iload_n 1 (q := 5) dX8_areNear_4 rfl rfl ?_
  obtain ⟨r1, e2, hf⟩ := Option.bind_eq_some_iff.mp hf
  refine g_iaload (q := 6) dX8_areNear_5 rfl rfl e2 ?_
  refine g_iload_n 2 (q := 7) dX8_areNear_6 rfl rfl ?_
  refine g_ishr (q := 8) dX8_areNear_7 rfl ?_
  refine g_iconst (q := 9) (v := 1) dX8_areNear_8 rfl rfl ?_
  refine g_iand (q := 10) dX8_areNear_9 rfl ?_
  refine g_iconst (q := 11) (v := 1) dX8_areNear_10 rfl rfl ?_
  refine g_icmp_ne (t := 18) (q := 14) dX8_areNear_11 (by decide) rfl (fun c3 => ?_) (fun c3 => ?_)
  · rw [if_neg c3] at hf
    refine g_iconst (q := 19) (v := 0) dX8_areNear_18 rfl rfl ?_
    have hf := Option.some.inj hf
    subst hf
    exact g_zreturn (Or.inl rfl) dX8_areNear_19 rfl ⟨rfl, rfl⟩
  · rw [if_pos c3] at hf
    refine g_iconst (q := 15) (v := 1) dX8_areNear_14 rfl rfl ?_
    refine g_goto (t := 19) dX8_areNear_15 (by decide) ?_
    have hf := Option.some.inj hf
    subst hf
    exact g_zreturn (Or.inr rfl) dX8_areNear_19 rfl ⟨rfl, rfl⟩
def f_X8_path_L2 (m_nr : List Int32) (K : Option (Int32)) : Nat → Int32 → Option (Int32)
  | 0, _ => none
  | fu + 1, v1 => (if 625 ≤ v1 then K else (if (v1 / 125) = ((v1 / 25) - (v1 / 25) / 5 * 5) then f_X8_path_L2 m_nr K fu (v1 + 1) else (if (v1 / 125) = ((v1 / 5) - (v1 / 5) / 5 * 5) then f_X8_path_L2 m_nr K fu (v1 + 1) else (if (v1 / 125) = (v1 - v1 / 5 * 5) then f_X8_path_L2 m_nr K fu (v1 + 1) else (if ((v1 / 25) - (v1 / 25) / 5 * 5) = ((v1 / 5) - (v1 / 5) / 5 * 5) then f_X8_path_L2 m_nr K fu (v1 + 1) else (if ((v1 / 25) - (v1 / 25) / 5 * 5) = (v1 - v1 / 5 * 5) then f_X8_path_L2 m_nr K fu (v1 + 1) else (if ((v1 / 5) - (v1 / 5) / 5 * 5) = (v1 - v1 / 5 * 5) then f_X8_path_L2 m_nr K fu (v1 + 1) else (f_X8_areNear (v1 / 125) ((v1 / 25) - (v1 / 25) / 5 * 5) m_nr).bind fun r8 => (if r8 = 0 then f_X8_path_L2 m_nr K fu (v1 + 1) else (f_X8_areNear ((v1 / 25) - (v1 / 25) / 5 * 5) ((v1 / 5) - (v1 / 5) / 5 * 5) m_nr).bind fun r11 => (if r11 = 0 then f_X8_path_L2 m_nr K fu (v1 + 1) else (f_X8_areNear ((v1 / 5) - (v1 / 5) / 5 * 5) (v1 - v1 / 5 * 5) m_nr).bind fun r14 => (if r14 = 0 then f_X8_path_L2 m_nr K fu (v1 + 1) else (f_X8_areNear (v1 / 125) ((v1 / 5) - (v1 / 5) / 5 * 5) m_nr).bind fun r17 => (if r17 = 0 then (f_X8_areNear (v1 / 125) (v1 - v1 / 5 * 5) m_nr).bind fun r20 => (if r20 = 0 then (f_X8_areNear ((v1 / 25) - (v1 / 25) / 5 * 5) (v1 - v1 / 5 * 5) m_nr).bind fun r23 => (if r23 = 0 then some v1 else f_X8_path_L2 m_nr K fu (v1 + 1)) else f_X8_path_L2 m_nr K fu (v1 + 1)) else f_X8_path_L2 m_nr K fu (v1 + 1))))))))))))
def f_X8_path  (m_nr : List Int32) : Option (Int32) := f_X8_path_L2 m_nr (some (-1)) tFU 0
set_option maxRecDepth 20000 in
set_option maxHeartbeats 4000000 in
theorem ev_X8_path_L2 {l : Launch} {E : tEn}   {m_n : Int32} {m_pt : Int32} {m_rc : Int32} {m_sa : Int64} {m_sb : Int64} {m_sc : Int32} {m_is : Int32} {m_os : Int32} {m_vn : Int32} {m_vc : Int32} {m_va : Int64} {m_vb : Int64} {m_ve : Int32} {m_no : Int32} {m_pl : Int32} {m_fa : Int32} {m_oc : Int32} {m_fu : Int32} {m_ke : Int32} {m_t : List Int64} {m_f : List Int32} {m_rs : List Int32} {m_rt : List Int64} {m_rf : List Int32} {m_st : List Int32} {m_ib : List Int32} {m_ob : List Int32} {m_al : List Int32} {m_el : List Int32} {m_vt : List Int64} {m_vf : List Int32} {m_vs : List Int32} {m_nr : List Int32} {m_ty : List Int32} {m_pa : List Int32} {m_fn : List Int64} {m_md : List Int64} {m_ms : List Int32} {m_mr : List Int32}  {K : Option (Int32)} (hK : ∀   (res : Int32), K  = some res → tG l E RX8 cX8_path 7 (some .int) false 2 (fun r h' => r = some (.int res) ∧ h' = encM m_n m_pt m_rc m_sa m_sb m_sc m_is m_os m_vn m_vc m_va m_vb m_ve m_no m_pl m_fa m_oc m_fu m_ke m_t m_f m_rs m_rt m_rf m_st m_ib m_ob m_al m_el m_vt m_vf m_vs m_nr m_ty m_pa m_fn m_md m_ms m_mr) 0 0 149 [] [] (encM m_n m_pt m_rc m_sa m_sb m_sc m_is m_os m_vn m_vc m_va m_vb m_ve m_no m_pl m_fa m_oc m_fu m_ke m_t m_f m_rs m_rt m_rf m_st m_ib m_ob m_al m_el m_vt m_vf m_vs m_nr m_ty m_pa m_fn m_md m_ms m_mr)) :
    ∀ (fu : Nat) (v1 : Int32) (res : Int32), f_X8_path_L2 m_nr K fu v1 = some res → tG l E RX8 cX8_path 7 (some .int) false 2 (fun r h' => r = some (.int res) ∧ h' = encM m_n m_pt m_rc m_sa m_sb m_sc m_is m_os m_vn m_vc m_va m_vb m_ve m_no m_pl m_fa m_oc m_fu m_ke m_t m_f m_rs m_rt m_rf m_st m_ib m_ob m_al m_el m_vt m_vf m_vs m_nr m_ty m_pa m_fn m_md m_ms m_mr) 0 0 2 [(0, .ref 0), (1, .int v1)] [] (encM m_n m_pt m_rc m_sa m_sb m_sc m_is m_os m_vn m_vc m_va m_vb m_ve m_no m_pl m_fa m_oc m_fu m_ke m_t m_f m_rs m_rt m_rf m_st m_ib m_ob m_al m_el m_vt m_vf m_vs m_nr m_ty m_pa m_fn m_md m_ms m_mr) := by
  intro fu
  induction fu with
  | zero => intro v1 res hf; exact nomatch (show none = some res from hf)
  | succ fu ih =>
    intro v1 res hf
    rw [f_X8_path_L2] at hf
    refine g_iload_n 1 (q := 3) dX8_path_2 rfl rfl ?_
    refine g_sipush (q := 6) (v := 625) dX8_path_3 rfl rfl ?_
    refine g_icmp_ge (t := 149) (q := 9) dX8_path_6 (by decide) rfl (fun c1 => ?_) (fun c1 => ?_)
    · rw [if_pos c1] at hf
      refine g_ls [] rfl ?_
      exact hK _ hf
    · rw [if_neg c1] at hf
      refine g_iload_n 1 (q := 10) dX8_path_9 rfl rfl ?_
      refine g_bipush (q := 12) (v := 125) dX8_path_10 rfl rfl ?_
      refine g_idiv (q := 13) dX8_path_12 rfl (by decide) ?_
      refine g_istore_n (q := 14) (L' := [(0, .ref 0), (1, .int v1), (2, .int (v1 / 125))]) dX8_path_13 rfl (by decide) rfl ?_
      refine g_iload_n 1 (q := 15) dX8_path_14 rfl rfl ?_
      refine g_bipush (q := 17) (v := 25) dX8_path_15 rfl rfl ?_
      refine g_idiv (q := 18) dX8_path_17 rfl (by decide) ?_
      refine g_iconst (q := 19) (v := 5) dX8_path_18 rfl rfl ?_
      refine g_irem (q := 20) dX8_path_19 rfl (by decide) ?_
      refine g_istore_n (q := 21) (L' := [(0, .ref 0), (1, .int v1), (2, .int (v1 / 125)), (3, .int ((v1 / 25) - (v1 / 25) / 5 * 5))]) dX8_path_20 rfl (by decide) rfl ?_
      refine g_iload_n 1 (q := 22) dX8_path_21 rfl rfl ?_
      refine g_iconst (q := 23) (v := 5) dX8_path_22 rfl rfl ?_
      refine g_idiv (q := 24) dX8_path_23 rfl (by decide) ?_
      refine g_iconst (q := 25) (v := 5) dX8_path_24 rfl rfl ?_
      refine g_irem (q := 26) dX8_path_25 rfl (by decide) ?_
      refine g_istore (q := 28) (L' := [(0, .ref 0), (1, .int v1), (2, .int (v1 / 125)), (3, .int ((v1 / 25) - (v1 / 25) / 5 * 5)), (4, .int ((v1 / 5) - (v1 / 5) / 5 * 5))]) dX8_path_26 rfl (by decide) rfl ?_
      refine g_iload_n 1 (q := 29) dX8_path_28 rfl rfl ?_
      refine g_iconst (q := 30) (v := 5) dX8_path_29 rfl rfl ?_
      refine g_irem (q := 31) dX8_path_30 rfl (by decide) ?_
      refine g_istore (q := 33) (L' := [(0, .ref 0), (1, .int v1), (2, .int (v1 / 125)), (3, .int ((v1 / 25) - (v1 / 25) / 5 * 5)), (4, .int ((v1 / 5) - (v1 / 5) / 5 * 5)), (5, .int (v1 - v1 / 5 * 5))]) dX8_path_31 rfl (by decide) rfl ?_
      refine g_iload_n 2 (q := 34) dX8_path_33 rfl rfl ?_
      refine g_iload_n 3 (q := 35) dX8_path_34 rfl rfl ?_
      refine g_icmp_eq (t := 73) (q := 38) dX8_path_35 (by decide) rfl (fun c2 => ?_) (fun c2 => ?_)
      · rw [if_pos c2] at hf
        refine g_iconst (q := 74) (v := 0) dX8_path_73 rfl rfl ?_
        refine g_istore (q := 76) (L' := [(0, .ref 0), (1, .int v1), (2, .int (v1 / 125)), (3, .int ((v1 / 25) - (v1 / 25) / 5 * 5)), (4, .int ((v1 / 5) - (v1 / 5) / 5 * 5)), (5, .int (v1 - v1 / 5 * 5)), (6, .int 0)]) dX8_path_74 rfl (by decide) rfl ?_
        refine g_iload 6 (q := 78) dX8_path_76 rfl rfl ?_
        refine g_if_eq (t := 143) (q := 81) dX8_path_78 (by decide) rfl (fun _ => ?_) (fun c => absurd c (by decide))
        refine g_iinc 1 (q := 146) (v := (v1 + 1)) (L' := [(0, .ref 0), (1, .int (v1 + 1)), (2, .int (v1 / 125)), (3, .int ((v1 / 25) - (v1 / 25) / 5 * 5)), (4, .int ((v1 / 5) - (v1 / 5) / 5 * 5)), (5, .int (v1 - v1 / 5 * 5)), (6, .int 0)]) dX8_path_143 rfl rfl rfl (by decide) rfl ?_
        refine g_goto (t := 2) dX8_path_146 (by decide) ?_
        refine g_ls [0, 1] rfl ?_
        exact ih _ _ hf
      · rw [if_neg c2] at hf
        refine g_iload_n 2 (q := 39) dX8_path_38 rfl rfl ?_
        refine g_iload 4 (q := 41) dX8_path_39 rfl rfl ?_
        refine g_icmp_eq (t := 73) (q := 44) dX8_path_41 (by decide) rfl (fun c3 => ?_) (fun c3 => ?_)
        · rw [if_pos c3] at hf
          refine g_iconst (q := 74) (v := 0) dX8_path_73 rfl rfl ?_
          refine g_istore (q := 76) (L' := [(0, .ref 0), (1, .int v1), (2, .int (v1 / 125)), (3, .int ((v1 / 25) - (v1 / 25) / 5 * 5)), (4, .int ((v1 / 5) - (v1 / 5) / 5 * 5)), (5, .int (v1 - v1 / 5 * 5)), (6, .int 0)]) dX8_path_74 rfl (by decide) rfl ?_
          refine g_iload 6 (q := 78) dX8_path_76 rfl rfl ?_
          refine g_if_eq (t := 143) (q := 81) dX8_path_78 (by decide) rfl (fun _ => ?_) (fun c => absurd c (by decide))
          refine g_iinc 1 (q := 146) (v := (v1 + 1)) (L' := [(0, .ref 0), (1, .int (v1 + 1)), (2, .int (v1 / 125)), (3, .int ((v1 / 25) - (v1 / 25) / 5 * 5)), (4, .int ((v1 / 5) - (v1 / 5) / 5 * 5)), (5, .int (v1 - v1 / 5 * 5)), (6, .int 0)]) dX8_path_143 rfl rfl rfl (by decide) rfl ?_
          refine g_goto (t := 2) dX8_path_146 (by decide) ?_
          refine g_ls [0, 1] rfl ?_
          exact ih _ _ hf
        · rw [if_neg c3] at hf
          refine g_iload_n 2 (q := 45) dX8_path_44 rfl rfl ?_
          refine g_iload 5 (q := 47) dX8_path_45 rfl rfl ?_
          refine g_icmp_eq (t := 73) (q := 50) dX8_path_47 (by decide) rfl (fun c4 => ?_) (fun c4 => ?_)
          · rw [if_pos c4] at hf
            refine g_iconst (q := 74) (v := 0) dX8_path_73 rfl rfl ?_
            refine g_istore (q := 76) (L' := [(0, .ref 0), (1, .int v1), (2, .int (v1 / 125)), (3, .int ((v1 / 25) - (v1 / 25) / 5 * 5)), (4, .int ((v1 / 5) - (v1 / 5) / 5 * 5)), (5, .int (v1 - v1 / 5 * 5)), (6, .int 0)]) dX8_path_74 rfl (by decide) rfl ?_
            refine g_iload 6 (q := 78) dX8_path_76 rfl rfl ?_
            refine g_if_eq (t := 143) (q := 81) dX8_path_78 (by decide) rfl (fun _ => ?_) (fun c => absurd c (by decide))
            refine g_iinc 1 (q := 146) (v := (v1 + 1)) (L' := [(0, .ref 0), (1, .int (v1 + 1)), (2, .int (v1 / 125)), (3, .int ((v1 / 25) - (v1 / 25) / 5 * 5)), (4, .int ((v1 / 5) - (v1 / 5) / 5 * 5)), (5, .int (v1 - v1 / 5 * 5)), (6, .int 0)]) dX8_path_143 rfl rfl rfl (by decide) rfl ?_
            refine g_goto (t := 2) dX8_path_146 (by decide) ?_
            refine g_ls [0, 1] rfl ?_
            exact ih _ _ hf
          · rw [if_neg c4] at hf
            refine g_iload_n 3 (q := 51) dX8_path_50 rfl rfl ?_
            refine g_iload 4 (q := 53) dX8_path_51 rfl rfl ?_
            refine g_icmp_eq (t := 73) (q := 56) dX8_path_53 (by decide) rfl (fun c5 => ?_) (fun c5 => ?_)
            · rw [if_pos c5] at hf
              refine g_iconst (q := 74) (v := 0) dX8_path_73 rfl rfl ?_
              refine g_istore (q := 76) (L' := [(0, .ref 0), (1, .int v1), (2, .int (v1 / 125)), (3, .int ((v1 / 25) - (v1 / 25) / 5 * 5)), (4, .int ((v1 / 5) - (v1 / 5) / 5 * 5)), (5, .int (v1 - v1 / 5 * 5)), (6, .int 0)]) dX8_path_74 rfl (by decide) rfl ?_
              refine g_iload 6 (q := 78) dX8_path_76 rfl rfl ?_
              refine g_if_eq (t := 143) (q := 81) dX8_path_78 (by decide) rfl (fun _ => ?_) (fun c => absurd c (by decide))
              refine g_iinc 1 (q := 146) (v := (v1 + 1)) (L' := [(0, .ref 0), (1, .int (v1 + 1)), (2, .int (v1 / 125)), (3, .int ((v1 / 25) - (v1 / 25) / 5 * 5)), (4, .int ((v1 / 5) - (v1 / 5) / 5 * 5)), (5, .int (v1 - v1 / 5 * 5)), (6, .int 0)]) dX8_path_143 rfl rfl rfl (by decide) rfl ?_
              refine g_goto (t := 2) dX8_path_146 (by decide) ?_
              refine g_ls [0, 1] rfl ?_
              exact ih _ _ hf
            · rw [if_neg c5] at hf
              refine g_iload_n 3 (q := 57) dX8_path_56 rfl rfl ?_
              refine g_iload 5 (q := 59) dX8_path_57 rfl rfl ?_
              refine g_icmp_eq (t := 73) (q := 62) dX8_path_59 (by decide) rfl (fun c6 => ?_) (fun c6 => ?_)
              · rw [if_pos c6] at hf
                refine g_iconst (q := 74) (v := 0) dX8_path_73 rfl rfl ?_
                refine g_istore (q := 76) (L' := [(0, .ref 0), (1, .int v1), (2, .int (v1 / 125)), (3, .int ((v1 / 25) - (v1 / 25) / 5 * 5)), (4, .int ((v1 / 5) - (v1 / 5) / 5 * 5)), (5, .int (v1 - v1 / 5 * 5)), (6, .int 0)]) dX8_path_74 rfl (by decide) rfl ?_
                refine g_iload 6 (q := 78) dX8_path_76 rfl rfl ?_
                refine g_if_eq (t := 143) (q := 81) dX8_path_78 (by decide) rfl (fun _ => ?_) (fun c => absurd c (by decide))
                refine g_iinc 1 (q := 146) (v := (v1 + 1)) (L' := [(0, .ref 0), (1, .int (v1 + 1)), (2, .int (v1 / 125)), (3, .int ((v1 / 25) - (v1 / 25) / 5 * 5)), (4, .int ((v1 / 5) - (v1 / 5) / 5 * 5)), (5, .int (v1 - v1 / 5 * 5)), (6, .int 0)]) dX8_path_143 rfl rfl rfl (by decide) rfl ?_
                refine g_goto (t := 2) dX8_path_146 (by decide) ?_
                refine g_ls [0, 1] rfl ?_
                exact ih _ _ hf
              · rw [if_neg c6] at hf
                refine g_iload 4 (q := 64) dX8_path_62 rfl rfl ?_
                refine g_iload 5 (q := 66) dX8_path_64 rfl rfl ?_
                refine g_icmp_eq (t := 73) (q := 69) dX8_path_66 (by decide) rfl (fun c7 => ?_) (fun c7 => ?_)
                · rw [if_pos c7] at hf
                  refine g_iconst (q := 74) (v := 0) dX8_path_73 rfl rfl ?_
                  refine g_istore (q := 76) (L' := [(0, .ref 0), (1, .int v1), (2, .int (v1 / 125)), (3, .int ((v1 / 25) - (v1 / 25) / 5 * 5)), (4, .int ((v1 / 5) - (v1 / 5) / 5 * 5)), (5, .int (v1 - v1 / 5 * 5)), (6, .int 0)]) dX8_path_74 rfl (by decide) rfl ?_
                  refine g_iload 6 (q := 78) dX8_path_76 rfl rfl ?_
                  refine g_if_eq (t := 143) (q := 81) dX8_path_78 (by decide) rfl (fun _ => ?_) (fun c => absurd c (by decide))
                  refine g_iinc 1 (q := 146) (v := (v1 + 1)) (L' := [(0, .ref 0), (1, .int (v1 + 1)), (2, .int (v1 / 125)), (3, .int ((v1 / 25) - (v1 / 25) / 5 * 5)), (4, .int ((v1 / 5) - (v1 / 5) / 5 * 5)), (5, .int (v1 - v1 / 5 * 5)), (6, .int 0)]) dX8_path_143 rfl rfl rfl (by decide) rfl ?_
                  refine g_goto (t := 2) dX8_path_146 (by decide) ?_
                  refine g_ls [0, 1] rfl ?_
                  exact ih _ _ hf
                · rw [if_neg c7] at hf
                  refine g_iconst (q := 70) (v := 1) dX8_path_69 rfl rfl ?_
                  refine g_goto (t := 74) dX8_path_70 (by decide) ?_
                  refine g_istore (q := 76) (L' := [(0, .ref 0), (1, .int v1), (2, .int (v1 / 125)), (3, .int ((v1 / 25) - (v1 / 25) / 5 * 5)), (4, .int ((v1 / 5) - (v1 / 5) / 5 * 5)), (5, .int (v1 - v1 / 5 * 5)), (6, .int 1)]) dX8_path_74 rfl (by decide) rfl ?_
                  refine g_iload 6 (q := 78) dX8_path_76 rfl rfl ?_
                  refine g_if_eq (t := 143) (q := 81) dX8_path_78 (by decide) rfl (fun c => absurd c (by decide)) (fun _ => ?_)
                  refine g_aload_n 0 (q := 82) dX8_path_81 rfl rfl ?_
                  refine g_iload_n 2 (q := 83) dX8_path_82 rfl rfl ?_
                  refine g_iload_n 3 (q := 84) dX8_path_83 rfl rfl ?_
                  obtain ⟨r8, e9, hf⟩ := Option.bind_eq_some_iff.mp hf
                  refine g_callV (a := 0) (k2 := 0) (n2 := 0) (q := 87) (as := [.int (v1 / 125), .int ((v1 / 25) - (v1 / 25) / 5 * 5)]) (st := []) (st1 := [.int r8]) tm_X8_areNear ml_X8_170 ti_X8_areNear rfl rfl dX8_path_84 rfl (ev_X8_areNear e9) rfl rfl (Nat.le_of_ble_eq_true rfl) (by decide) rfl rfl (Or.inl rfl) rfl ?_
                  refine g_if_eq (t := 143) (q := 90) dX8_path_87 (by decide) rfl (fun c10 => ?_) (fun c10 => ?_)
                  · rw [if_pos c10] at hf
                    refine g_iinc 1 (q := 146) (v := (v1 + 1)) (L' := [(0, .ref 0), (1, .int (v1 + 1)), (2, .int (v1 / 125)), (3, .int ((v1 / 25) - (v1 / 25) / 5 * 5)), (4, .int ((v1 / 5) - (v1 / 5) / 5 * 5)), (5, .int (v1 - v1 / 5 * 5)), (6, .int 1)]) dX8_path_143 rfl rfl rfl (by decide) rfl ?_
                    refine g_goto (t := 2) dX8_path_146 (by decide) ?_
                    refine g_ls [0, 1] rfl ?_
                    exact ih _ _ hf
                  · rw [if_neg c10] at hf
                    refine g_aload_n 0 (q := 91) dX8_path_90 rfl rfl ?_
                    refine g_iload_n 3 (q := 92) dX8_path_91 rfl rfl ?_
                    refine g_iload 4 (q := 94) dX8_path_92 rfl rfl ?_
                    obtain ⟨r11, e12, hf⟩ := Option.bind_eq_some_iff.mp hf
                    refine g_callV (a := 0) (k2 := 0) (n2 := 0) (q := 97) (as := [.int ((v1 / 25) - (v1 / 25) / 5 * 5), .int ((v1 / 5) - (v1 / 5) / 5 * 5)]) (st := []) (st1 := [.int r11]) tm_X8_areNear ml_X8_170 ti_X8_areNear rfl rfl dX8_path_94 rfl (ev_X8_areNear e12) rfl rfl (Nat.le_of_ble_eq_true rfl) (by decide) rfl rfl (Or.inl rfl) rfl ?_
                    refine g_if_eq (t := 143) (q := 100) dX8_path_97 (by decide) rfl (fun c13 => ?_) (fun c13 => ?_)
                    · rw [if_pos c13] at hf
                      refine g_iinc 1 (q := 146) (v := (v1 + 1)) (L' := [(0, .ref 0), (1, .int (v1 + 1)), (2, .int (v1 / 125)), (3, .int ((v1 / 25) - (v1 / 25) / 5 * 5)), (4, .int ((v1 / 5) - (v1 / 5) / 5 * 5)), (5, .int (v1 - v1 / 5 * 5)), (6, .int 1)]) dX8_path_143 rfl rfl rfl (by decide) rfl ?_
                      refine g_goto (t := 2) dX8_path_146 (by decide) ?_
                      refine g_ls [0, 1] rfl ?_
                      exact ih _ _ hf
                    · rw [if_neg c13] at hf
                      refine g_aload_n 0 (q := 101) dX8_path_100 rfl rfl ?_
                      refine g_iload 4 (q := 103) dX8_path_101 rfl rfl ?_
                      refine g_iload 5 (q := 105) dX8_path_103 rfl rfl ?_
                      obtain ⟨r14, e15, hf⟩ := Option.bind_eq_some_iff.mp hf
                      refine g_callV (a := 0) (k2 := 0) (n2 := 0) (q := 108) (as := [.int ((v1 / 5) - (v1 / 5) / 5 * 5), .int (v1 - v1 / 5 * 5)]) (st := []) (st1 := [.int r14]) tm_X8_areNear ml_X8_170 ti_X8_areNear rfl rfl dX8_path_105 rfl (ev_X8_areNear e15) rfl rfl (Nat.le_of_ble_eq_true rfl) (by decide) rfl rfl (Or.inl rfl) rfl ?_
                      refine g_if_eq (t := 143) (q := 111) dX8_path_108 (by decide) rfl (fun c16 => ?_) (fun c16 => ?_)
                      · rw [if_pos c16] at hf
                        refine g_iinc 1 (q := 146) (v := (v1 + 1)) (L' := [(0, .ref 0), (1, .int (v1 + 1)), (2, .int (v1 / 125)), (3, .int ((v1 / 25) - (v1 / 25) / 5 * 5)), (4, .int ((v1 / 5) - (v1 / 5) / 5 * 5)), (5, .int (v1 - v1 / 5 * 5)), (6, .int 1)]) dX8_path_143 rfl rfl rfl (by decide) rfl ?_
                        refine g_goto (t := 2) dX8_path_146 (by decide) ?_
                        refine g_ls [0, 1] rfl ?_
                        exact ih _ _ hf
                      · rw [if_neg c16] at hf
                        refine g_aload_n 0 (q := 112) dX8_path_111 rfl rfl ?_
                        refine g_iload_n 2 (q := 113) dX8_path_112 rfl rfl ?_
                        refine g_iload 4 (q := 115) dX8_path_113 rfl rfl ?_
                        obtain ⟨r17, e18, hf⟩ := Option.bind_eq_some_iff.mp hf
                        refine g_callV (a := 0) (k2 := 0) (n2 := 0) (q := 118) (as := [.int (v1 / 125), .int ((v1 / 5) - (v1 / 5) / 5 * 5)]) (st := []) (st1 := [.int r17]) tm_X8_areNear ml_X8_170 ti_X8_areNear rfl rfl dX8_path_115 rfl (ev_X8_areNear e18) rfl rfl (Nat.le_of_ble_eq_true rfl) (by decide) rfl rfl (Or.inl rfl) rfl ?_
                        refine g_if_ne (t := 143) (q := 121) dX8_path_118 (by decide) rfl (fun c19 => ?_) (fun c19 => ?_)
                        · rw [if_neg c19] at hf
                          refine g_iinc 1 (q := 146) (v := (v1 + 1)) (L' := [(0, .ref 0), (1, .int (v1 + 1)), (2, .int (v1 / 125)), (3, .int ((v1 / 25) - (v1 / 25) / 5 * 5)), (4, .int ((v1 / 5) - (v1 / 5) / 5 * 5)), (5, .int (v1 - v1 / 5 * 5)), (6, .int 1)]) dX8_path_143 rfl rfl rfl (by decide) rfl ?_
                          refine g_goto (t := 2) dX8_path_146 (by decide) ?_
                          refine g_ls [0, 1] rfl ?_
                          exact ih _ _ hf
                        · rw [if_pos c19] at hf
                          refine g_aload_n 0 (q := 122) dX8_path_121 rfl rfl ?_
                          refine g_iload_n 2 (q := 123) dX8_path_122 rfl rfl ?_
                          refine g_iload 5 (q := 125) dX8_path_123 rfl rfl ?_
                          obtain ⟨r20, e21, hf⟩ := Option.bind_eq_some_iff.mp hf
                          refine g_callV (a := 0) (k2 := 0) (n2 := 0) (q := 128) (as := [.int (v1 / 125), .int (v1 - v1 / 5 * 5)]) (st := []) (st1 := [.int r20]) tm_X8_areNear ml_X8_170 ti_X8_areNear rfl rfl dX8_path_125 rfl (ev_X8_areNear e21) rfl rfl (Nat.le_of_ble_eq_true rfl) (by decide) rfl rfl (Or.inl rfl) rfl ?_
                          refine g_if_ne (t := 143) (q := 131) dX8_path_128 (by decide) rfl (fun c22 => ?_) (fun c22 => ?_)
                          · rw [if_neg c22] at hf
                            refine g_iinc 1 (q := 146) (v := (v1 + 1)) (L' := [(0, .ref 0), (1, .int (v1 + 1)), (2, .int (v1 / 125)), (3, .int ((v1 / 25) - (v1 / 25) / 5 * 5)), (4, .int ((v1 / 5) - (v1 / 5) / 5 * 5)), (5, .int (v1 - v1 / 5 * 5)), (6, .int 1)]) dX8_path_143 rfl rfl rfl (by decide) rfl ?_
                            refine g_goto (t := 2) dX8_path_146 (by decide) ?_
                            refine g_ls [0, 1] rfl ?_
                            exact ih _ _ hf
                          · rw [if_pos c22] at hf
                            refine g_aload_n 0 (q := 132) dX8_path_131 rfl rfl ?_
                            refine g_iload_n 3 (q := 133) dX8_path_132 rfl rfl ?_
                            refine g_iload 5 (q := 135) dX8_path_133 rfl rfl ?_
                            obtain ⟨r23, e24, hf⟩ := Option.bind_eq_some_iff.mp hf
                            refine g_callV (a := 0) (k2 := 0) (n2 := 0) (q := 138) (as := [.int ((v1 / 25) - (v1 / 25) / 5 * 5), .int (v1 - v1 / 5 * 5)]) (st := []) (st1 := [.int r23]) tm_X8_areNear ml_X8_170 ti_X8_areNear rfl rfl dX8_path_135 rfl (ev_X8_areNear e24) rfl rfl (Nat.le_of_ble_eq_true rfl) (by decide) rfl rfl (Or.inl rfl) rfl ?_
                            refine g_if_ne (t := 143) (q := 141) dX8_path_138 (by decide) rfl (fun c25 => ?_) (fun c25 => ?_)
                            · rw [if_neg c25] at hf
                              refine g_iinc 1 (q := 146) (v := (v1 + 1)) (L' := [(0, .ref 0), (1, .int (v1 + 1)), (2, .int (v1 / 125)), (3, .int ((v1 / 25) - (v1 / 25) / 5 * 5)), (4, .int ((v1 / 5) - (v1 / 5) / 5 * 5)), (5, .int (v1 - v1 / 5 * 5)), (6, .int 1)]) dX8_path_143 rfl rfl rfl (by decide) rfl ?_
                              refine g_goto (t := 2) dX8_path_146 (by decide) ?_
                              refine g_ls [0, 1] rfl ?_
                              exact ih _ _ hf
                            · rw [if_pos c25] at hf
                              refine g_iload_n 1 (q := 142) dX8_path_141 rfl rfl ?_
                              have hf := Option.some.inj hf
                              subst hf
                              exact g_ireturn dX8_path_142 rfl ⟨rfl, rfl⟩
set_option maxRecDepth 20000 in
set_option maxHeartbeats 4000000 in
theorem ev_X8_path {l : Launch} {E : tEn}  {m_n : Int32} {m_pt : Int32} {m_rc : Int32} {m_sa : Int64} {m_sb : Int64} {m_sc : Int32} {m_is : Int32} {m_os : Int32} {m_vn : Int32} {m_vc : Int32} {m_va : Int64} {m_vb : Int64} {m_ve : Int32} {m_no : Int32} {m_pl : Int32} {m_fa : Int32} {m_oc : Int32} {m_fu : Int32} {m_ke : Int32} {m_t : List Int64} {m_f : List Int32} {m_rs : List Int32} {m_rt : List Int64} {m_rf : List Int32} {m_st : List Int32} {m_ib : List Int32} {m_ob : List Int32} {m_al : List Int32} {m_el : List Int32} {m_vt : List Int64} {m_vf : List Int32} {m_vs : List Int32} {m_nr : List Int32} {m_ty : List Int32} {m_pa : List Int32} {m_fn : List Int64} {m_md : List Int64} {m_ms : List Int32} {m_mr : List Int32}  {res : Int32} (hf : f_X8_path m_nr = some res) : tEv l E yX8_path cX8_path 7 (some .int) 2 0 0 [.ref 0] (encM m_n m_pt m_rc m_sa m_sb m_sc m_is m_os m_vn m_vc m_va m_vb m_ve m_no m_pl m_fa m_oc m_fu m_ke m_t m_f m_rs m_rt m_rf m_st m_ib m_ob m_al m_el m_vt m_vf m_vs m_nr m_ty m_pa m_fn m_md m_ms m_mr) (fun r h' => r = some (.int res) ∧ h' = encM m_n m_pt m_rc m_sa m_sb m_sc m_is m_os m_vn m_vc m_va m_vb m_ve m_no m_pl m_fa m_oc m_fu m_ke m_t m_f m_rs m_rt m_rf m_st m_ib m_ob m_al m_el m_vt m_vf m_vs m_nr m_ty m_pa m_fn m_md m_ms m_mr) := by
  refine tEv.of (own := RX8) (ini := false) (L := [(0, .ref 0)]) (by decide +kernel) rfl (fun h9 => nomatch h9) rfl (Nat.le_of_ble_eq_true rfl) ?_
  rw [f_X8_path] at hf
  refine g_iconst (q := 1) (v := 0) dX8_path_0 rfl rfl ?_
  refine g_istore_n (q := 2) (L' := [(0, .ref 0), (1, .int 0)]) dX8_path_1 rfl (by decide) rfl ?_
  refine g_ls [0, 1] rfl ?_
  refine ev_X8_path_L2 (fun  res hf => ?_) tFU _ res hf
  refine g_iconst (q := 150) (v := (-1)) dX8_path_149 rfl rfl ?_
  have hf := Option.some.inj hf
  subst hf
  exact g_ireturn dX8_path_150 rfl ⟨rfl, rfl⟩
def f_X8_inducedPath (a0 : Int32) (a1 : Int32) (m_n : Int32) (m_pt : Int32) (m_ve : Int32) (m_t : List Int64) (m_f : List Int32) (m_nr : List Int32) : Option (Int32 × Int32 × List Int32) := (if (f_X8_isSlot a0) = 0 then some ((-2), m_ve, m_nr) else (if (f_X8_isIn (Int32.toInt64 a1) 0 3) = 0 then some ((-2), m_ve, m_nr) else (f_X8_wrongOrNot a0 m_n m_pt m_t m_f).bind fun r3 => (if r3 = 0 then (tld m_t a0).bind fun r6 => (f_X8_graph r6 m_n m_pt m_ve m_nr).bind fun r8 => (f_X8_path (r8.2)).bind fun r10 => (if r10 = (-1) then some ((-1), r8.1, r8.2) else (if a1 = 0 then some ((r10 / 125), r8.1, r8.2) else (if a1 = 1 then some (((r10 / 25) - (r10 / 25) / 5 * 5), r8.1, r8.2) else (if a1 = 2 then some (((r10 / 5) - (r10 / 5) / 5 * 5), r8.1, r8.2) else some ((r10 - r10 / 5 * 5), r8.1, r8.2))))) else some (r3, m_ve, m_nr))))
set_option maxRecDepth 20000 in
set_option maxHeartbeats 4000000 in
theorem ev_X8_inducedPath {l : Launch} {E : tEn}  {m_n : Int32} {m_pt : Int32} {m_rc : Int32} {m_sa : Int64} {m_sb : Int64} {m_sc : Int32} {m_is : Int32} {m_os : Int32} {m_vn : Int32} {m_vc : Int32} {m_va : Int64} {m_vb : Int64} {m_ve : Int32} {m_no : Int32} {m_pl : Int32} {m_fa : Int32} {m_oc : Int32} {m_fu : Int32} {m_ke : Int32} {m_t : List Int64} {m_f : List Int32} {m_rs : List Int32} {m_rt : List Int64} {m_rf : List Int32} {m_st : List Int32} {m_ib : List Int32} {m_ob : List Int32} {m_al : List Int32} {m_el : List Int32} {m_vt : List Int64} {m_vf : List Int32} {m_vs : List Int32} {m_nr : List Int32} {m_ty : List Int32} {m_pa : List Int32} {m_fn : List Int64} {m_md : List Int64} {m_ms : List Int32} {m_mr : List Int32} {a0 : Int32} {a1 : Int32} {res : Int32 × Int32 × List Int32} (hf : f_X8_inducedPath a0 a1 m_n m_pt m_ve m_t m_f m_nr = some res) : tEv l E yX8_inducedPath cX8_inducedPath 5 (some .int) 5 0 0 [.ref 0, .int a0, .int a1] (encM m_n m_pt m_rc m_sa m_sb m_sc m_is m_os m_vn m_vc m_va m_vb m_ve m_no m_pl m_fa m_oc m_fu m_ke m_t m_f m_rs m_rt m_rf m_st m_ib m_ob m_al m_el m_vt m_vf m_vs m_nr m_ty m_pa m_fn m_md m_ms m_mr) (fun r h' => r = some (.int res.1) ∧ h' = encM m_n m_pt m_rc m_sa m_sb m_sc m_is m_os m_vn m_vc m_va m_vb (res.2.1) m_no m_pl m_fa m_oc m_fu m_ke m_t m_f m_rs m_rt m_rf m_st m_ib m_ob m_al m_el m_vt m_vf m_vs (res.2.2) m_ty m_pa m_fn m_md m_ms m_mr) := by
  refine tEv.of (own := RX8) (ini := false) (L := [(0, .ref 0), (1, .int a0), (2, .int a1)]) (by decide +kernel) rfl (fun h9 => nomatch h9) rfl (Nat.le_of_ble_eq_true rfl) ?_
  rw [f_X8_inducedPath] at hf
  refine g_iload_n 1 (q := 1) dX8_inducedPath_0 rfl rfl ?_
  refine g_callS (k2 := 0) (n2 := 0) (q := 4) (as := [.int a0]) (st := []) (st1 := [.int (f_X8_isSlot a0)]) tm_X8_isSlot ml_X8_118 ts_X8_isSlot dX8_inducedPath_1 rfl ev_X8_isSlot rfl rfl (Nat.le_of_ble_eq_true rfl) (by decide) rfl rfl (Or.inl rfl) rfl ?_
  refine g_if_eq (t := 19) (q := 7) dX8_inducedPath_4 (by decide) rfl (fun c1 => ?_) (fun c1 => ?_)
  · rw [if_pos c1] at hf
    refine g_bipush (q := 21) (v := (-2)) dX8_inducedPath_19 rfl rfl ?_
    have hf := Option.some.inj hf
    subst hf
    exact g_ireturn dX8_inducedPath_21 rfl ⟨rfl, rfl⟩
  · rw [if_neg c1] at hf
    refine g_iload_n 2 (q := 8) dX8_inducedPath_7 rfl rfl ?_
    refine g_i2l (q := 9) dX8_inducedPath_8 rfl ?_
    refine g_lconst (q := 10) (v := 0) dX8_inducedPath_9 rfl rfl ?_
    refine g_ldc2_w (q := 13) kc_X8_174 dX8_inducedPath_10 rfl ?_
    refine g_callS (k2 := 0) (n2 := 0) (q := 16) (as := [.long (Int32.toInt64 a1), .long 0, .long 3]) (st := []) (st1 := [.int (f_X8_isIn (Int32.toInt64 a1) 0 3)]) tm_X8_isIn ml_X8_87 ts_X8_isIn dX8_inducedPath_13 rfl ev_X8_isIn rfl rfl (Nat.le_of_ble_eq_true rfl) (by decide) rfl rfl (Or.inl rfl) rfl ?_
    refine g_if_ne (t := 22) (q := 19) dX8_inducedPath_16 (by decide) rfl (fun c2 => ?_) (fun c2 => ?_)
    · rw [if_neg c2] at hf
      refine g_aload_n 0 (q := 23) dX8_inducedPath_22 rfl rfl ?_
      refine g_iload_n 1 (q := 24) dX8_inducedPath_23 rfl rfl ?_
      obtain ⟨r3, e4, hf⟩ := Option.bind_eq_some_iff.mp hf
      refine g_callV (a := 0) (k2 := 0) (n2 := 0) (q := 27) (as := [.int a0]) (st := []) (st1 := [.int r3]) tm_X8_wrongOrNot ml_X8_150 ti_X8_wrongOrNot rfl rfl dX8_inducedPath_24 rfl (ev_X8_wrongOrNot e4) rfl rfl (Nat.le_of_ble_eq_true rfl) (by decide) rfl rfl (Or.inl rfl) rfl ?_
      refine g_istore_n (q := 28) (L' := [(0, .ref 0), (1, .int a0), (2, .int a1), (3, .int r3)]) dX8_inducedPath_27 rfl (by decide) rfl ?_
      refine g_iload_n 3 (q := 29) dX8_inducedPath_28 rfl rfl ?_
      refine g_if_eq (t := 34) (q := 32) dX8_inducedPath_29 (by decide) rfl (fun c5 => ?_) (fun c5 => ?_)
      · rw [if_pos c5] at hf
        refine g_aload_n 0 (q := 35) dX8_inducedPath_34 rfl rfl ?_
        refine g_aload_n 0 (q := 36) dX8_inducedPath_35 rfl rfl ?_
        refine g_get (q := 39) fl_X8_16 dX8_inducedPath_36 rfl rfl rfl ?_
        refine g_iload_n 1 (q := 40) dX8_inducedPath_39 rfl rfl ?_
        obtain ⟨r6, e7, hf⟩ := Option.bind_eq_some_iff.mp hf
        refine g_laload (q := 41) dX8_inducedPath_40 rfl rfl e7 ?_
        obtain ⟨r8, e9, hf⟩ := Option.bind_eq_some_iff.mp hf
        refine g_callV (a := 0) (k2 := 0) (n2 := 0) (q := 44) (as := [.long r6]) (st := []) (st1 := []) tm_X8_graph ml_X8_166 ti_X8_graph rfl rfl dX8_inducedPath_41 rfl (ev_X8_graph e9) rfl rfl (Nat.le_of_ble_eq_true rfl) (by decide) rfl rfl (Or.inl (encM_len.trans encM_len.symm)) rfl ?_
        refine g_aload_n 0 (q := 45) dX8_inducedPath_44 rfl rfl ?_
        obtain ⟨r10, e11, hf⟩ := Option.bind_eq_some_iff.mp hf
        refine g_callV (a := 0) (k2 := 0) (n2 := 0) (q := 48) (as := []) (st := []) (st1 := [.int r10]) tm_X8_path ml_X8_176 ti_X8_path rfl rfl dX8_inducedPath_45 rfl (ev_X8_path e11) rfl rfl (Nat.le_of_ble_eq_true rfl) (by decide) rfl rfl (Or.inl rfl) rfl ?_
        refine g_istore (q := 50) (L' := [(0, .ref 0), (1, .int a0), (2, .int a1), (3, .int r3), (4, .int r10)]) dX8_inducedPath_48 rfl (by decide) rfl ?_
        refine g_iload 4 (q := 52) dX8_inducedPath_50 rfl rfl ?_
        refine g_iconst (q := 53) (v := (-1)) dX8_inducedPath_52 rfl rfl ?_
        refine g_icmp_ne (t := 60) (q := 56) dX8_inducedPath_53 (by decide) rfl (fun c12 => ?_) (fun c12 => ?_)
        · rw [if_neg c12] at hf
          refine g_iload_n 2 (q := 61) dX8_inducedPath_60 rfl rfl ?_
          refine g_if_ne (t := 72) (q := 64) dX8_inducedPath_61 (by decide) rfl (fun c13 => ?_) (fun c13 => ?_)
          · rw [if_neg c13] at hf
            refine g_iload_n 2 (q := 73) dX8_inducedPath_72 rfl rfl ?_
            refine g_iconst (q := 74) (v := 1) dX8_inducedPath_73 rfl rfl ?_
            refine g_icmp_ne (t := 87) (q := 77) dX8_inducedPath_74 (by decide) rfl (fun c14 => ?_) (fun c14 => ?_)
            · rw [if_neg c14] at hf
              refine g_iload_n 2 (q := 88) dX8_inducedPath_87 rfl rfl ?_
              refine g_iconst (q := 89) (v := 2) dX8_inducedPath_88 rfl rfl ?_
              refine g_icmp_ne (t := 101) (q := 92) dX8_inducedPath_89 (by decide) rfl (fun c15 => ?_) (fun c15 => ?_)
              · rw [if_neg c15] at hf
                refine g_iload 4 (q := 103) dX8_inducedPath_101 rfl rfl ?_
                refine g_iconst (q := 104) (v := 5) dX8_inducedPath_103 rfl rfl ?_
                refine g_irem (q := 105) dX8_inducedPath_104 rfl (by decide) ?_
                have hf := Option.some.inj hf
                subst hf
                exact g_ireturn dX8_inducedPath_105 rfl ⟨rfl, rfl⟩
              · rw [if_pos c15] at hf
                refine g_iload 4 (q := 94) dX8_inducedPath_92 rfl rfl ?_
                refine g_iconst (q := 95) (v := 5) dX8_inducedPath_94 rfl rfl ?_
                refine g_idiv (q := 96) dX8_inducedPath_95 rfl (by decide) ?_
                refine g_iconst (q := 97) (v := 5) dX8_inducedPath_96 rfl rfl ?_
                refine g_irem (q := 98) dX8_inducedPath_97 rfl (by decide) ?_
                refine g_goto (t := 105) dX8_inducedPath_98 (by decide) ?_
                have hf := Option.some.inj hf
                subst hf
                exact g_ireturn dX8_inducedPath_105 rfl ⟨rfl, rfl⟩
            · rw [if_pos c14] at hf
              refine g_iload 4 (q := 79) dX8_inducedPath_77 rfl rfl ?_
              refine g_bipush (q := 81) (v := 25) dX8_inducedPath_79 rfl rfl ?_
              refine g_idiv (q := 82) dX8_inducedPath_81 rfl (by decide) ?_
              refine g_iconst (q := 83) (v := 5) dX8_inducedPath_82 rfl rfl ?_
              refine g_irem (q := 84) dX8_inducedPath_83 rfl (by decide) ?_
              refine g_goto (t := 105) dX8_inducedPath_84 (by decide) ?_
              have hf := Option.some.inj hf
              subst hf
              exact g_ireturn dX8_inducedPath_105 rfl ⟨rfl, rfl⟩
          · rw [if_pos c13] at hf
            refine g_iload 4 (q := 66) dX8_inducedPath_64 rfl rfl ?_
            refine g_bipush (q := 68) (v := 125) dX8_inducedPath_66 rfl rfl ?_
            refine g_idiv (q := 69) dX8_inducedPath_68 rfl (by decide) ?_
            refine g_goto (t := 105) dX8_inducedPath_69 (by decide) ?_
            have hf := Option.some.inj hf
            subst hf
            exact g_ireturn dX8_inducedPath_105 rfl ⟨rfl, rfl⟩
        · rw [if_pos c12] at hf
          refine g_iconst (q := 57) (v := (-1)) dX8_inducedPath_56 rfl rfl ?_
          refine g_goto (t := 105) dX8_inducedPath_57 (by decide) ?_
          have hf := Option.some.inj hf
          subst hf
          exact g_ireturn dX8_inducedPath_105 rfl ⟨rfl, rfl⟩
      · rw [if_neg c5] at hf
        refine g_iload_n 3 (q := 33) dX8_inducedPath_32 rfl rfl ?_
        have hf := Option.some.inj hf
        subst hf
        exact g_ireturn dX8_inducedPath_33 rfl ⟨rfl, rfl⟩
    · rw [if_pos c2] at hf
      refine g_bipush (q := 21) (v := (-2)) dX8_inducedPath_19 rfl rfl ?_
      have hf := Option.some.inj hf
      subst hf
      exact g_ireturn dX8_inducedPath_21 rfl ⟨rfl, rfl⟩
def f_X8_isClique_L2 (w1 : Int32) (m_n : Int32) (m_nr : List Int32) (K : Option (Int32)) : Nat → Int32 → Option (Int32)
  | 0, _ => none
  | fu + 1, v2 => (if m_n ≤ v2 then K else (if ((w1 >>> (v2 &&& 31)) &&& 1) = 1 then (tld m_nr v2).bind fun r3 => (if ((w1 &&& (((1 : Int32) <<< (v2 &&& 31)) ^^^ (-1))) &&& (r3 ^^^ (-1))) = 0 then f_X8_isClique_L2 w1 m_n m_nr K fu (v2 + 1) else some 0) else f_X8_isClique_L2 w1 m_n m_nr K fu (v2 + 1)))
def f_X8_isClique (a0 : Int32) (m_n : Int32) (m_nr : List Int32) : Option (Int32) := f_X8_isClique_L2 a0 m_n m_nr (some 1) tFU 0
set_option maxRecDepth 20000 in
set_option maxHeartbeats 4000000 in
theorem ev_X8_isClique_L2 {l : Launch} {E : tEn}   {m_n : Int32} {m_pt : Int32} {m_rc : Int32} {m_sa : Int64} {m_sb : Int64} {m_sc : Int32} {m_is : Int32} {m_os : Int32} {m_vn : Int32} {m_vc : Int32} {m_va : Int64} {m_vb : Int64} {m_ve : Int32} {m_no : Int32} {m_pl : Int32} {m_fa : Int32} {m_oc : Int32} {m_fu : Int32} {m_ke : Int32} {m_t : List Int64} {m_f : List Int32} {m_rs : List Int32} {m_rt : List Int64} {m_rf : List Int32} {m_st : List Int32} {m_ib : List Int32} {m_ob : List Int32} {m_al : List Int32} {m_el : List Int32} {m_vt : List Int64} {m_vf : List Int32} {m_vs : List Int32} {m_nr : List Int32} {m_ty : List Int32} {m_pa : List Int32} {m_fn : List Int64} {m_md : List Int64} {m_ms : List Int32} {m_mr : List Int32} {w1 : Int32} {K : Option (Int32)} (hK : ∀   (res : Int32), K  = some res → tG l E RX8 cX8_isClique 3 (some .boolean) false 1 (fun r h' => r = some (.int res) ∧ h' = encM m_n m_pt m_rc m_sa m_sb m_sc m_is m_os m_vn m_vc m_va m_vb m_ve m_no m_pl m_fa m_oc m_fu m_ke m_t m_f m_rs m_rt m_rf m_st m_ib m_ob m_al m_el m_vt m_vf m_vs m_nr m_ty m_pa m_fn m_md m_ms m_mr) 0 0 46 [] [] (encM m_n m_pt m_rc m_sa m_sb m_sc m_is m_os m_vn m_vc m_va m_vb m_ve m_no m_pl m_fa m_oc m_fu m_ke m_t m_f m_rs m_rt m_rf m_st m_ib m_ob m_al m_el m_vt m_vf m_vs m_nr m_ty m_pa m_fn m_md m_ms m_mr)) :
    ∀ (fu : Nat) (v2 : Int32) (res : Int32), f_X8_isClique_L2 w1 m_n m_nr K fu v2 = some res → tG l E RX8 cX8_isClique 3 (some .boolean) false 1 (fun r h' => r = some (.int res) ∧ h' = encM m_n m_pt m_rc m_sa m_sb m_sc m_is m_os m_vn m_vc m_va m_vb m_ve m_no m_pl m_fa m_oc m_fu m_ke m_t m_f m_rs m_rt m_rf m_st m_ib m_ob m_al m_el m_vt m_vf m_vs m_nr m_ty m_pa m_fn m_md m_ms m_mr) 0 0 2 [(0, .ref 0), (1, .int w1), (2, .int v2)] [] (encM m_n m_pt m_rc m_sa m_sb m_sc m_is m_os m_vn m_vc m_va m_vb m_ve m_no m_pl m_fa m_oc m_fu m_ke m_t m_f m_rs m_rt m_rf m_st m_ib m_ob m_al m_el m_vt m_vf m_vs m_nr m_ty m_pa m_fn m_md m_ms m_mr) := by
  intro fu
  induction fu with
  | zero => intro v2 res hf; exact nomatch (show none = some res from hf)
  | succ fu ih =>
    intro v2 res hf
    rw [f_X8_isClique_L2] at hf
    refine g_iload_n 2 (q := 3) dX8_isClique_2 rfl rfl ?_
    refine g_aload_n 0 (q := 4) dX8_isClique_3 rfl rfl ?_
    refine g_get (q := 7) fl_X8_7 dX8_isClique_4 rfl rfl rfl ?_
    refine g_icmp_ge (t := 46) (q := 10) dX8_isClique_7 (by decide) rfl (fun c1 => ?_) (fun c1 => ?_)
    · rw [if_pos c1] at hf
      refine g_ls [] rfl ?_
      exact hK _ hf
    · rw [if_neg c1] at hf
      refine g_iload_n 1 (q := 11) dX8_isClique_10 rfl rfl ?_
      refine g_iload_n 2 (q := 12) dX8_isClique_11 rfl rfl ?_
      refine g_ishr (q := 13) dX8_isClique_12 rfl ?_
      refine g_iconst (q := 14) (v := 1) dX8_isClique_13 rfl rfl ?_
      refine g_iand (q := 15) dX8_isClique_14 rfl ?_
      refine g_iconst (q := 16) (v := 1) dX8_isClique_15 rfl rfl ?_
      refine g_icmp_ne (t := 40) (q := 19) dX8_isClique_16 (by decide) rfl (fun c2 => ?_) (fun c2 => ?_)
      · rw [if_neg c2] at hf
        refine g_iinc 2 (q := 43) (v := (v2 + 1)) (L' := [(0, .ref 0), (1, .int w1), (2, .int (v2 + 1))]) dX8_isClique_40 rfl rfl rfl (by decide) rfl ?_
        refine g_goto (t := 2) dX8_isClique_43 (by decide) ?_
        refine g_ls [0, 1, 2] rfl ?_
        exact ih _ _ hf
      · rw [if_pos c2] at hf
        refine g_iload_n 1 (q := 20) dX8_isClique_19 rfl rfl ?_
        refine g_iconst (q := 21) (v := 1) dX8_isClique_20 rfl rfl ?_
        refine g_iload_n 2 (q := 22) dX8_isClique_21 rfl rfl ?_
        refine g_ishl (q := 23) dX8_isClique_22 rfl ?_
        refine g_iconst (q := 24) (v := (-1)) dX8_isClique_23 rfl rfl ?_
        refine g_ixor (q := 25) dX8_isClique_24 rfl ?_
        refine g_iand (q := 26) dX8_isClique_25 rfl ?_
        refine g_aload_n 0 (q := 27) dX8_isClique_26 rfl rfl ?_
        refine g_get (q := 30) fl_X8_61 dX8_isClique_27 rfl rfl rfl ?_
        refine g_iload_n 2 (q := 31) dX8_isClique_30 rfl rfl ?_
        obtain ⟨r3, e4, hf⟩ := Option.bind_eq_some_iff.mp hf
        refine g_iaload (q := 32) dX8_isClique_31 rfl rfl e4 ?_
        refine g_iconst (q := 33) (v := (-1)) dX8_isClique_32 rfl rfl ?_
        refine g_ixor (q := 34) dX8_isClique_33 rfl ?_
        refine g_iand (q := 35) dX8_isClique_34 rfl ?_
        refine g_if_eq (t := 40) (q := 38) dX8_isClique_35 (by decide) rfl (fun c5 => ?_) (fun c5 => ?_)
        · rw [if_pos c5] at hf
          refine g_iinc 2 (q := 43) (v := (v2 + 1)) (L' := [(0, .ref 0), (1, .int w1), (2, .int (v2 + 1))]) dX8_isClique_40 rfl rfl rfl (by decide) rfl ?_
          refine g_goto (t := 2) dX8_isClique_43 (by decide) ?_
          refine g_ls [0, 1, 2] rfl ?_
          exact ih _ _ hf
        · rw [if_neg c5] at hf
          refine g_iconst (q := 39) (v := 0) dX8_isClique_38 rfl rfl ?_
          have hf := Option.some.inj hf
          subst hf
          exact g_zreturn (Or.inl rfl) dX8_isClique_39 rfl ⟨rfl, rfl⟩
set_option maxRecDepth 20000 in
set_option maxHeartbeats 4000000 in
theorem ev_X8_isClique {l : Launch} {E : tEn}  {m_n : Int32} {m_pt : Int32} {m_rc : Int32} {m_sa : Int64} {m_sb : Int64} {m_sc : Int32} {m_is : Int32} {m_os : Int32} {m_vn : Int32} {m_vc : Int32} {m_va : Int64} {m_vb : Int64} {m_ve : Int32} {m_no : Int32} {m_pl : Int32} {m_fa : Int32} {m_oc : Int32} {m_fu : Int32} {m_ke : Int32} {m_t : List Int64} {m_f : List Int32} {m_rs : List Int32} {m_rt : List Int64} {m_rf : List Int32} {m_st : List Int32} {m_ib : List Int32} {m_ob : List Int32} {m_al : List Int32} {m_el : List Int32} {m_vt : List Int64} {m_vf : List Int32} {m_vs : List Int32} {m_nr : List Int32} {m_ty : List Int32} {m_pa : List Int32} {m_fn : List Int64} {m_md : List Int64} {m_ms : List Int32} {m_mr : List Int32} {a0 : Int32} {res : Int32} (hf : f_X8_isClique a0 m_n m_nr = some res) : tEv l E yX8_isClique cX8_isClique 3 (some .boolean) 1 0 0 [.ref 0, .int a0] (encM m_n m_pt m_rc m_sa m_sb m_sc m_is m_os m_vn m_vc m_va m_vb m_ve m_no m_pl m_fa m_oc m_fu m_ke m_t m_f m_rs m_rt m_rf m_st m_ib m_ob m_al m_el m_vt m_vf m_vs m_nr m_ty m_pa m_fn m_md m_ms m_mr) (fun r h' => r = some (.int res) ∧ h' = encM m_n m_pt m_rc m_sa m_sb m_sc m_is m_os m_vn m_vc m_va m_vb m_ve m_no m_pl m_fa m_oc m_fu m_ke m_t m_f m_rs m_rt m_rf m_st m_ib m_ob m_al m_el m_vt m_vf m_vs m_nr m_ty m_pa m_fn m_md m_ms m_mr) := by
  refine tEv.of (own := RX8) (ini := false) (L := [(0, .ref 0), (1, .int a0)]) (by decide +kernel) rfl (fun h9 => nomatch h9) rfl (Nat.le_of_ble_eq_true rfl) ?_
  rw [f_X8_isClique] at hf
  refine g_iconst (q := 1) (v := 0) dX8_isClique_0 rfl rfl ?_
  refine g_istore_n (q := 2) (L' := [(0, .ref 0), (1, .int a0), (2, .int 0)]) dX8_isClique_1 rfl (by decide) rfl ?_
  refine g_ls [0, 1, 2] rfl ?_
  refine ev_X8_isClique_L2 (fun  res hf => ?_) tFU _ res hf
  refine g_iconst (q := 47) (v := 1) dX8_isClique_46 rfl rfl ?_
  have hf := Option.some.inj hf
  subst hf
  exact g_zreturn (Or.inr rfl) dX8_isClique_47 rfl ⟨rfl, rfl⟩
def f_X8_isMaximal_L2 (w1 : Int32) (m_n : Int32) (m_ve : Int32) (m_nr : List Int32) (K : Option (Int32)) : Nat → Int32 → Option (Int32)
  | 0, _ => none
  | fu + 1, v2 => (if m_n ≤ v2 then K else (if ((m_ve >>> (v2 &&& 31)) &&& 1) = 1 then (if ((w1 >>> (v2 &&& 31)) &&& 1) = 0 then (f_X8_isClique (w1 ||| ((1 : Int32) <<< (v2 &&& 31))) m_n m_nr).bind fun r4 => (if r4 = 0 then f_X8_isMaximal_L2 w1 m_n m_ve m_nr K fu (v2 + 1) else some 0) else f_X8_isMaximal_L2 w1 m_n m_ve m_nr K fu (v2 + 1)) else f_X8_isMaximal_L2 w1 m_n m_ve m_nr K fu (v2 + 1)))
def f_X8_isMaximal (a0 : Int32) (m_n : Int32) (m_ve : Int32) (m_nr : List Int32) : Option (Int32) := f_X8_isMaximal_L2 a0 m_n m_ve m_nr (some 1) tFU 0
set_option maxRecDepth 20000 in
set_option maxHeartbeats 4000000 in
theorem ev_X8_isMaximal_L2 {l : Launch} {E : tEn}   {m_n : Int32} {m_pt : Int32} {m_rc : Int32} {m_sa : Int64} {m_sb : Int64} {m_sc : Int32} {m_is : Int32} {m_os : Int32} {m_vn : Int32} {m_vc : Int32} {m_va : Int64} {m_vb : Int64} {m_ve : Int32} {m_no : Int32} {m_pl : Int32} {m_fa : Int32} {m_oc : Int32} {m_fu : Int32} {m_ke : Int32} {m_t : List Int64} {m_f : List Int32} {m_rs : List Int32} {m_rt : List Int64} {m_rf : List Int32} {m_st : List Int32} {m_ib : List Int32} {m_ob : List Int32} {m_al : List Int32} {m_el : List Int32} {m_vt : List Int64} {m_vf : List Int32} {m_vs : List Int32} {m_nr : List Int32} {m_ty : List Int32} {m_pa : List Int32} {m_fn : List Int64} {m_md : List Int64} {m_ms : List Int32} {m_mr : List Int32} {w1 : Int32} {K : Option (Int32)} (hK : ∀   (res : Int32), K  = some res → tG l E RX8 cX8_isMaximal 3 (some .boolean) false 2 (fun r h' => r = some (.int res) ∧ h' = encM m_n m_pt m_rc m_sa m_sb m_sc m_is m_os m_vn m_vc m_va m_vb m_ve m_no m_pl m_fa m_oc m_fu m_ke m_t m_f m_rs m_rt m_rf m_st m_ib m_ob m_al m_el m_vt m_vf m_vs m_nr m_ty m_pa m_fn m_md m_ms m_mr) 0 0 50 [] [] (encM m_n m_pt m_rc m_sa m_sb m_sc m_is m_os m_vn m_vc m_va m_vb m_ve m_no m_pl m_fa m_oc m_fu m_ke m_t m_f m_rs m_rt m_rf m_st m_ib m_ob m_al m_el m_vt m_vf m_vs m_nr m_ty m_pa m_fn m_md m_ms m_mr)) :
    ∀ (fu : Nat) (v2 : Int32) (res : Int32), f_X8_isMaximal_L2 w1 m_n m_ve m_nr K fu v2 = some res → tG l E RX8 cX8_isMaximal 3 (some .boolean) false 2 (fun r h' => r = some (.int res) ∧ h' = encM m_n m_pt m_rc m_sa m_sb m_sc m_is m_os m_vn m_vc m_va m_vb m_ve m_no m_pl m_fa m_oc m_fu m_ke m_t m_f m_rs m_rt m_rf m_st m_ib m_ob m_al m_el m_vt m_vf m_vs m_nr m_ty m_pa m_fn m_md m_ms m_mr) 0 0 2 [(0, .ref 0), (1, .int w1), (2, .int v2)] [] (encM m_n m_pt m_rc m_sa m_sb m_sc m_is m_os m_vn m_vc m_va m_vb m_ve m_no m_pl m_fa m_oc m_fu m_ke m_t m_f m_rs m_rt m_rf m_st m_ib m_ob m_al m_el m_vt m_vf m_vs m_nr m_ty m_pa m_fn m_md m_ms m_mr) := by
  intro fu
  induction fu with
  | zero => intro v2 res hf; exact nomatch (show none = some res from hf)
  | succ fu ih =>
    intro v2 res hf
    rw [f_X8_isMaximal_L2] at hf
    refine g_iload_n 2 (q := 3) dX8_isMaximal_2 rfl rfl ?_
    refine g_aload_n 0 (q := 4) dX8_isMaximal_3 rfl rfl ?_
    refine g_get (q := 7) fl_X8_7 dX8_isMaximal_4 rfl rfl rfl ?_
    refine g_icmp_ge (t := 50) (q := 10) dX8_isMaximal_7 (by decide) rfl (fun c1 => ?_) (fun c1 => ?_)
    · rw [if_pos c1] at hf
      refine g_ls [] rfl ?_
      exact hK _ hf
    · rw [if_neg c1] at hf
      refine g_aload_n 0 (q := 11) dX8_isMaximal_10 rfl rfl ?_
      refine g_get (q := 14) fl_X8_160 dX8_isMaximal_11 rfl rfl rfl ?_
      refine g_iload_n 2 (q := 15) dX8_isMaximal_14 rfl rfl ?_
      refine g_ishr (q := 16) dX8_isMaximal_15 rfl ?_
      refine g_iconst (q := 17) (v := 1) dX8_isMaximal_16 rfl rfl ?_
      refine g_iand (q := 18) dX8_isMaximal_17 rfl ?_
      refine g_iconst (q := 19) (v := 1) dX8_isMaximal_18 rfl rfl ?_
      refine g_icmp_ne (t := 44) (q := 22) dX8_isMaximal_19 (by decide) rfl (fun c2 => ?_) (fun c2 => ?_)
      · rw [if_neg c2] at hf
        refine g_iinc 2 (q := 47) (v := (v2 + 1)) (L' := [(0, .ref 0), (1, .int w1), (2, .int (v2 + 1))]) dX8_isMaximal_44 rfl rfl rfl (by decide) rfl ?_
        refine g_goto (t := 2) dX8_isMaximal_47 (by decide) ?_
        refine g_ls [0, 1, 2] rfl ?_
        exact ih _ _ hf
      · rw [if_pos c2] at hf
        refine g_iload_n 1 (q := 23) dX8_isMaximal_22 rfl rfl ?_
        refine g_iload_n 2 (q := 24) dX8_isMaximal_23 rfl rfl ?_
        refine g_ishr (q := 25) dX8_isMaximal_24 rfl ?_
        refine g_iconst (q := 26) (v := 1) dX8_isMaximal_25 rfl rfl ?_
        refine g_iand (q := 27) dX8_isMaximal_26 rfl ?_
        refine g_if_ne (t := 44) (q := 30) dX8_isMaximal_27 (by decide) rfl (fun c3 => ?_) (fun c3 => ?_)
        · rw [if_neg c3] at hf
          refine g_iinc 2 (q := 47) (v := (v2 + 1)) (L' := [(0, .ref 0), (1, .int w1), (2, .int (v2 + 1))]) dX8_isMaximal_44 rfl rfl rfl (by decide) rfl ?_
          refine g_goto (t := 2) dX8_isMaximal_47 (by decide) ?_
          refine g_ls [0, 1, 2] rfl ?_
          exact ih _ _ hf
        · rw [if_pos c3] at hf
          refine g_aload_n 0 (q := 31) dX8_isMaximal_30 rfl rfl ?_
          refine g_iload_n 1 (q := 32) dX8_isMaximal_31 rfl rfl ?_
          refine g_iconst (q := 33) (v := 1) dX8_isMaximal_32 rfl rfl ?_
          refine g_iload_n 2 (q := 34) dX8_isMaximal_33 rfl rfl ?_
          refine g_ishl (q := 35) dX8_isMaximal_34 rfl ?_
          refine g_ior (q := 36) dX8_isMaximal_35 rfl ?_
          obtain ⟨r4, e5, hf⟩ := Option.bind_eq_some_iff.mp hf
          refine g_callV (a := 0) (k2 := 0) (n2 := 0) (q := 39) (as := [.int (w1 ||| ((1 : Int32) <<< (v2 &&& 31)))]) (st := []) (st1 := [.int r4]) tm_X8_isClique ml_X8_179 ti_X8_isClique rfl rfl dX8_isMaximal_36 rfl (ev_X8_isClique e5) rfl rfl (Nat.le_of_ble_eq_true rfl) (by decide) rfl rfl (Or.inl rfl) rfl ?_
          refine g_if_eq (t := 44) (q := 42) dX8_isMaximal_39 (by decide) rfl (fun c6 => ?_) (fun c6 => ?_)
          · rw [if_pos c6] at hf
            refine g_iinc 2 (q := 47) (v := (v2 + 1)) (L' := [(0, .ref 0), (1, .int w1), (2, .int (v2 + 1))]) dX8_isMaximal_44 rfl rfl rfl (by decide) rfl ?_
            refine g_goto (t := 2) dX8_isMaximal_47 (by decide) ?_
            refine g_ls [0, 1, 2] rfl ?_
            exact ih _ _ hf
          · rw [if_neg c6] at hf
            refine g_iconst (q := 43) (v := 0) dX8_isMaximal_42 rfl rfl ?_
            have hf := Option.some.inj hf
            subst hf
            exact g_zreturn (Or.inl rfl) dX8_isMaximal_43 rfl ⟨rfl, rfl⟩
set_option maxRecDepth 20000 in
set_option maxHeartbeats 4000000 in
theorem ev_X8_isMaximal {l : Launch} {E : tEn}  {m_n : Int32} {m_pt : Int32} {m_rc : Int32} {m_sa : Int64} {m_sb : Int64} {m_sc : Int32} {m_is : Int32} {m_os : Int32} {m_vn : Int32} {m_vc : Int32} {m_va : Int64} {m_vb : Int64} {m_ve : Int32} {m_no : Int32} {m_pl : Int32} {m_fa : Int32} {m_oc : Int32} {m_fu : Int32} {m_ke : Int32} {m_t : List Int64} {m_f : List Int32} {m_rs : List Int32} {m_rt : List Int64} {m_rf : List Int32} {m_st : List Int32} {m_ib : List Int32} {m_ob : List Int32} {m_al : List Int32} {m_el : List Int32} {m_vt : List Int64} {m_vf : List Int32} {m_vs : List Int32} {m_nr : List Int32} {m_ty : List Int32} {m_pa : List Int32} {m_fn : List Int64} {m_md : List Int64} {m_ms : List Int32} {m_mr : List Int32} {a0 : Int32} {res : Int32} (hf : f_X8_isMaximal a0 m_n m_ve m_nr = some res) : tEv l E yX8_isMaximal cX8_isMaximal 3 (some .boolean) 2 0 0 [.ref 0, .int a0] (encM m_n m_pt m_rc m_sa m_sb m_sc m_is m_os m_vn m_vc m_va m_vb m_ve m_no m_pl m_fa m_oc m_fu m_ke m_t m_f m_rs m_rt m_rf m_st m_ib m_ob m_al m_el m_vt m_vf m_vs m_nr m_ty m_pa m_fn m_md m_ms m_mr) (fun r h' => r = some (.int res) ∧ h' = encM m_n m_pt m_rc m_sa m_sb m_sc m_is m_os m_vn m_vc m_va m_vb m_ve m_no m_pl m_fa m_oc m_fu m_ke m_t m_f m_rs m_rt m_rf m_st m_ib m_ob m_al m_el m_vt m_vf m_vs m_nr m_ty m_pa m_fn m_md m_ms m_mr) := by
  refine tEv.of (own := RX8) (ini := false) (L := [(0, .ref 0), (1, .int a0)]) (by decide +kernel) rfl (fun h9 => nomatch h9) rfl (Nat.le_of_ble_eq_true rfl) ?_
  rw [f_X8_isMaximal] at hf
  refine g_iconst (q := 1) (v := 0) dX8_isMaximal_0 rfl rfl ?_
  refine g_istore_n (q := 2) (L' := [(0, .ref 0), (1, .int a0), (2, .int 0)]) dX8_isMaximal_1 rfl (by decide) rfl ?_
  refine g_ls [0, 1, 2] rfl ?_
  refine ev_X8_isMaximal_L2 (fun  res hf => ?_) tFU _ res hf
  refine g_iconst (q := 51) (v := 1) dX8_isMaximal_50 rfl rfl ?_
  have hf := Option.some.inj hf
  subst hf
  exact g_zreturn (Or.inr rfl) dX8_isMaximal_51 rfl ⟨rfl, rfl⟩
def f_X8_badCliqueOf_L2 (w1 : Int64) (m_n : Int32) (m_pt : Int32) (m_ve : Int32) (m_nr : List Int32) (K : Option (Int32)) : Nat → Int32 → Option (Int32)
  | 0, _ => none
  | fu + 1, v3 => (if m_pt ≤ v3 then K else (if (v3 &&& (m_ve ^^^ (-1))) = 0 then (f_X8_isClique v3 m_n m_nr).bind fun r3 => (if r3 = 0 then f_X8_badCliqueOf_L2 w1 m_n m_pt m_ve m_nr K fu (v3 + 1) else (f_X8_isMaximal v3 m_n m_ve m_nr).bind fun r6 => (if r6 = 0 then f_X8_badCliqueOf_L2 w1 m_n m_pt m_ve m_nr K fu (v3 + 1) else (f_X8_isPrime w1 v3 m_n).bind fun r9 => (if r9 = 0 then some v3 else f_X8_badCliqueOf_L2 w1 m_n m_pt m_ve m_nr K fu (v3 + 1)))) else f_X8_badCliqueOf_L2 w1 m_n m_pt m_ve m_nr K fu (v3 + 1)))
def f_X8_badCliqueOf (a0 : Int64) (m_n : Int32) (m_pt : Int32) (m_ve : Int32) (m_nr : List Int32) : Option (Int32) := f_X8_badCliqueOf_L2 a0 m_n m_pt m_ve m_nr (some (-1)) tFU 1
set_option maxRecDepth 20000 in
set_option maxHeartbeats 4000000 in
theorem ev_X8_badCliqueOf_L2 {l : Launch} {E : tEn}   {m_n : Int32} {m_pt : Int32} {m_rc : Int32} {m_sa : Int64} {m_sb : Int64} {m_sc : Int32} {m_is : Int32} {m_os : Int32} {m_vn : Int32} {m_vc : Int32} {m_va : Int64} {m_vb : Int64} {m_ve : Int32} {m_no : Int32} {m_pl : Int32} {m_fa : Int32} {m_oc : Int32} {m_fu : Int32} {m_ke : Int32} {m_t : List Int64} {m_f : List Int32} {m_rs : List Int32} {m_rt : List Int64} {m_rf : List Int32} {m_st : List Int32} {m_ib : List Int32} {m_ob : List Int32} {m_al : List Int32} {m_el : List Int32} {m_vt : List Int64} {m_vf : List Int32} {m_vs : List Int32} {m_nr : List Int32} {m_ty : List Int32} {m_pa : List Int32} {m_fn : List Int64} {m_md : List Int64} {m_ms : List Int32} {m_mr : List Int32} {w1 : Int64} {K : Option (Int32)} (hK : ∀   (res : Int32), K  = some res → tG l E RX8 cX8_badCliqueOf 4 (some .int) false 3 (fun r h' => r = some (.int res) ∧ h' = encM m_n m_pt m_rc m_sa m_sb m_sc m_is m_os m_vn m_vc m_va m_vb m_ve m_no m_pl m_fa m_oc m_fu m_ke m_t m_f m_rs m_rt m_rf m_st m_ib m_ob m_al m_el m_vt m_vf m_vs m_nr m_ty m_pa m_fn m_md m_ms m_mr) 0 0 54 [] [] (encM m_n m_pt m_rc m_sa m_sb m_sc m_is m_os m_vn m_vc m_va m_vb m_ve m_no m_pl m_fa m_oc m_fu m_ke m_t m_f m_rs m_rt m_rf m_st m_ib m_ob m_al m_el m_vt m_vf m_vs m_nr m_ty m_pa m_fn m_md m_ms m_mr)) :
    ∀ (fu : Nat) (v3 : Int32) (res : Int32), f_X8_badCliqueOf_L2 w1 m_n m_pt m_ve m_nr K fu v3 = some res → tG l E RX8 cX8_badCliqueOf 4 (some .int) false 3 (fun r h' => r = some (.int res) ∧ h' = encM m_n m_pt m_rc m_sa m_sb m_sc m_is m_os m_vn m_vc m_va m_vb m_ve m_no m_pl m_fa m_oc m_fu m_ke m_t m_f m_rs m_rt m_rf m_st m_ib m_ob m_al m_el m_vt m_vf m_vs m_nr m_ty m_pa m_fn m_md m_ms m_mr) 0 0 2 [(0, .ref 0), (1, .long w1), (3, .int v3)] [] (encM m_n m_pt m_rc m_sa m_sb m_sc m_is m_os m_vn m_vc m_va m_vb m_ve m_no m_pl m_fa m_oc m_fu m_ke m_t m_f m_rs m_rt m_rf m_st m_ib m_ob m_al m_el m_vt m_vf m_vs m_nr m_ty m_pa m_fn m_md m_ms m_mr) := by
  intro fu
  induction fu with
  | zero => intro v3 res hf; exact nomatch (show none = some res from hf)
  | succ fu ih =>
    intro v3 res hf
    rw [f_X8_badCliqueOf_L2] at hf
    refine g_iload_n 2 (q := 3) dX8_badCliqueOf_2 rfl rfl ?_
    refine g_aload_n 0 (q := 4) dX8_badCliqueOf_3 rfl rfl ?_
    refine g_get (q := 7) fl_X8_13 dX8_badCliqueOf_4 rfl rfl rfl ?_
    refine g_icmp_ge (t := 54) (q := 10) dX8_badCliqueOf_7 (by decide) rfl (fun c1 => ?_) (fun c1 => ?_)
    · rw [if_pos c1] at hf
      refine g_ls [] rfl ?_
      exact hK _ hf
    · rw [if_neg c1] at hf
      refine g_iload_n 2 (q := 11) dX8_badCliqueOf_10 rfl rfl ?_
      refine g_aload_n 0 (q := 12) dX8_badCliqueOf_11 rfl rfl ?_
      refine g_get (q := 15) fl_X8_160 dX8_badCliqueOf_12 rfl rfl rfl ?_
      refine g_iconst (q := 16) (v := (-1)) dX8_badCliqueOf_15 rfl rfl ?_
      refine g_ixor (q := 17) dX8_badCliqueOf_16 rfl ?_
      refine g_iand (q := 18) dX8_badCliqueOf_17 rfl ?_
      refine g_if_ne (t := 48) (q := 21) dX8_badCliqueOf_18 (by decide) rfl (fun c2 => ?_) (fun c2 => ?_)
      · rw [if_neg c2] at hf
        refine g_iinc 2 (q := 51) (v := (v3 + 1)) (L' := [(0, .ref 0), (1, .long w1), (3, .int (v3 + 1))]) dX8_badCliqueOf_48 rfl rfl rfl (by decide) rfl ?_
        refine g_goto (t := 2) dX8_badCliqueOf_51 (by decide) ?_
        refine g_ls [0, 1, 2] rfl ?_
        exact ih _ _ hf
      · rw [if_pos c2] at hf
        refine g_aload_n 0 (q := 22) dX8_badCliqueOf_21 rfl rfl ?_
        refine g_iload_n 2 (q := 23) dX8_badCliqueOf_22 rfl rfl ?_
        obtain ⟨r3, e4, hf⟩ := Option.bind_eq_some_iff.mp hf
        refine g_callV (a := 0) (k2 := 0) (n2 := 0) (q := 26) (as := [.int v3]) (st := []) (st1 := [.int r3]) tm_X8_isClique ml_X8_179 ti_X8_isClique rfl rfl dX8_badCliqueOf_23 rfl (ev_X8_isClique e4) rfl rfl (Nat.le_of_ble_eq_true rfl) (by decide) rfl rfl (Or.inl rfl) rfl ?_
        refine g_if_eq (t := 48) (q := 29) dX8_badCliqueOf_26 (by decide) rfl (fun c5 => ?_) (fun c5 => ?_)
        · rw [if_pos c5] at hf
          refine g_iinc 2 (q := 51) (v := (v3 + 1)) (L' := [(0, .ref 0), (1, .long w1), (3, .int (v3 + 1))]) dX8_badCliqueOf_48 rfl rfl rfl (by decide) rfl ?_
          refine g_goto (t := 2) dX8_badCliqueOf_51 (by decide) ?_
          refine g_ls [0, 1, 2] rfl ?_
          exact ih _ _ hf
        · rw [if_neg c5] at hf
          refine g_aload_n 0 (q := 30) dX8_badCliqueOf_29 rfl rfl ?_
          refine g_iload_n 2 (q := 31) dX8_badCliqueOf_30 rfl rfl ?_
          obtain ⟨r6, e7, hf⟩ := Option.bind_eq_some_iff.mp hf
          refine g_callV (a := 0) (k2 := 0) (n2 := 0) (q := 34) (as := [.int v3]) (st := []) (st1 := [.int r6]) tm_X8_isMaximal ml_X8_182 ti_X8_isMaximal rfl rfl dX8_badCliqueOf_31 rfl (ev_X8_isMaximal e7) rfl rfl (Nat.le_of_ble_eq_true rfl) (by decide) rfl rfl (Or.inl rfl) rfl ?_
          refine g_if_eq (t := 48) (q := 37) dX8_badCliqueOf_34 (by decide) rfl (fun c8 => ?_) (fun c8 => ?_)
          · rw [if_pos c8] at hf
            refine g_iinc 2 (q := 51) (v := (v3 + 1)) (L' := [(0, .ref 0), (1, .long w1), (3, .int (v3 + 1))]) dX8_badCliqueOf_48 rfl rfl rfl (by decide) rfl ?_
            refine g_goto (t := 2) dX8_badCliqueOf_51 (by decide) ?_
            refine g_ls [0, 1, 2] rfl ?_
            exact ih _ _ hf
          · rw [if_neg c8] at hf
            refine g_aload_n 0 (q := 38) dX8_badCliqueOf_37 rfl rfl ?_
            refine g_lload_n 1 (q := 39) dX8_badCliqueOf_38 rfl rfl ?_
            refine g_iload_n 2 (q := 40) dX8_badCliqueOf_39 rfl rfl ?_
            obtain ⟨r9, e10, hf⟩ := Option.bind_eq_some_iff.mp hf
            refine g_callV (a := 0) (k2 := 0) (n2 := 0) (q := 43) (as := [.long w1, .int v3]) (st := []) (st1 := [.int r9]) tm_X8_isPrime ml_X8_147 ti_X8_isPrime rfl rfl dX8_badCliqueOf_40 rfl (ev_X8_isPrime e10) rfl rfl (Nat.le_of_ble_eq_true rfl) (by decide) rfl rfl (Or.inl rfl) rfl ?_
            refine g_if_ne (t := 48) (q := 46) dX8_badCliqueOf_43 (by decide) rfl (fun c11 => ?_) (fun c11 => ?_)
            · rw [if_neg c11] at hf
              refine g_iinc 2 (q := 51) (v := (v3 + 1)) (L' := [(0, .ref 0), (1, .long w1), (3, .int (v3 + 1))]) dX8_badCliqueOf_48 rfl rfl rfl (by decide) rfl ?_
              refine g_goto (t := 2) dX8_badCliqueOf_51 (by decide) ?_
              refine g_ls [0, 1, 2] rfl ?_
              exact ih _ _ hf
            · rw [if_pos c11] at hf
              refine g_iload_n 2 (q := 47) dX8_badCliqueOf_46 rfl rfl ?_
              have hf := Option.some.inj hf
              subst hf
              exact g_ireturn dX8_badCliqueOf_47 rfl ⟨rfl, rfl⟩
set_option maxRecDepth 20000 in
set_option maxHeartbeats 4000000 in
theorem ev_X8_badCliqueOf {l : Launch} {E : tEn}  {m_n : Int32} {m_pt : Int32} {m_rc : Int32} {m_sa : Int64} {m_sb : Int64} {m_sc : Int32} {m_is : Int32} {m_os : Int32} {m_vn : Int32} {m_vc : Int32} {m_va : Int64} {m_vb : Int64} {m_ve : Int32} {m_no : Int32} {m_pl : Int32} {m_fa : Int32} {m_oc : Int32} {m_fu : Int32} {m_ke : Int32} {m_t : List Int64} {m_f : List Int32} {m_rs : List Int32} {m_rt : List Int64} {m_rf : List Int32} {m_st : List Int32} {m_ib : List Int32} {m_ob : List Int32} {m_al : List Int32} {m_el : List Int32} {m_vt : List Int64} {m_vf : List Int32} {m_vs : List Int32} {m_nr : List Int32} {m_ty : List Int32} {m_pa : List Int32} {m_fn : List Int64} {m_md : List Int64} {m_ms : List Int32} {m_mr : List Int32} {a0 : Int64} {res : Int32} (hf : f_X8_badCliqueOf a0 m_n m_pt m_ve m_nr = some res) : tEv l E yX8_badCliqueOf cX8_badCliqueOf 4 (some .int) 3 0 0 [.ref 0, .long a0] (encM m_n m_pt m_rc m_sa m_sb m_sc m_is m_os m_vn m_vc m_va m_vb m_ve m_no m_pl m_fa m_oc m_fu m_ke m_t m_f m_rs m_rt m_rf m_st m_ib m_ob m_al m_el m_vt m_vf m_vs m_nr m_ty m_pa m_fn m_md m_ms m_mr) (fun r h' => r = some (.int res) ∧ h' = encM m_n m_pt m_rc m_sa m_sb m_sc m_is m_os m_vn m_vc m_va m_vb m_ve m_no m_pl m_fa m_oc m_fu m_ke m_t m_f m_rs m_rt m_rf m_st m_ib m_ob m_al m_el m_vt m_vf m_vs m_nr m_ty m_pa m_fn m_md m_ms m_mr) := by
  refine tEv.of (own := RX8) (ini := false) (L := [(0, .ref 0), (1, .long a0)]) (by decide +kernel) rfl (fun h9 => nomatch h9) rfl (Nat.le_of_ble_eq_true rfl) ?_
  rw [f_X8_badCliqueOf] at hf
  refine g_iconst (q := 1) (v := 1) dX8_badCliqueOf_0 rfl rfl ?_
  refine g_istore_n (q := 2) (L' := [(0, .ref 0), (1, .long a0), (3, .int 1)]) dX8_badCliqueOf_1 rfl (by decide) rfl ?_
  refine g_ls [0, 1, 2] rfl ?_
  refine ev_X8_badCliqueOf_L2 (fun  res hf => ?_) tFU _ res hf
  refine g_iconst (q := 55) (v := (-1)) dX8_badCliqueOf_54 rfl rfl ?_
  have hf := Option.some.inj hf
  subst hf
  exact g_ireturn dX8_badCliqueOf_55 rfl ⟨rfl, rfl⟩
def f_X8_badClique (a0 : Int32) (m_n : Int32) (m_pt : Int32) (m_ve : Int32) (m_t : List Int64) (m_f : List Int32) (m_nr : List Int32) : Option (Int32 × Int32 × List Int32) := (f_X8_wrongOrNot a0 m_n m_pt m_t m_f).bind fun r1 => (if r1 = 0 then (tld m_t a0).bind fun r4 => (f_X8_graph r4 m_n m_pt m_ve m_nr).bind fun r6 => (tld m_t a0).bind fun r8 => (f_X8_badCliqueOf r8 m_n m_pt (r6.1) (r6.2)).bind fun r10 => some (r10, r6.1, r6.2) else some (r1, m_ve, m_nr))
set_option maxRecDepth 20000 in
set_option maxHeartbeats 4000000 in
theorem ev_X8_badClique {l : Launch} {E : tEn}  {m_n : Int32} {m_pt : Int32} {m_rc : Int32} {m_sa : Int64} {m_sb : Int64} {m_sc : Int32} {m_is : Int32} {m_os : Int32} {m_vn : Int32} {m_vc : Int32} {m_va : Int64} {m_vb : Int64} {m_ve : Int32} {m_no : Int32} {m_pl : Int32} {m_fa : Int32} {m_oc : Int32} {m_fu : Int32} {m_ke : Int32} {m_t : List Int64} {m_f : List Int32} {m_rs : List Int32} {m_rt : List Int64} {m_rf : List Int32} {m_st : List Int32} {m_ib : List Int32} {m_ob : List Int32} {m_al : List Int32} {m_el : List Int32} {m_vt : List Int64} {m_vf : List Int32} {m_vs : List Int32} {m_nr : List Int32} {m_ty : List Int32} {m_pa : List Int32} {m_fn : List Int64} {m_md : List Int64} {m_ms : List Int32} {m_mr : List Int32} {a0 : Int32} {res : Int32 × Int32 × List Int32} (hf : f_X8_badClique a0 m_n m_pt m_ve m_t m_f m_nr = some res) : tEv l E yX8_badClique cX8_badClique 3 (some .int) 5 0 0 [.ref 0, .int a0] (encM m_n m_pt m_rc m_sa m_sb m_sc m_is m_os m_vn m_vc m_va m_vb m_ve m_no m_pl m_fa m_oc m_fu m_ke m_t m_f m_rs m_rt m_rf m_st m_ib m_ob m_al m_el m_vt m_vf m_vs m_nr m_ty m_pa m_fn m_md m_ms m_mr) (fun r h' => r = some (.int res.1) ∧ h' = encM m_n m_pt m_rc m_sa m_sb m_sc m_is m_os m_vn m_vc m_va m_vb (res.2.1) m_no m_pl m_fa m_oc m_fu m_ke m_t m_f m_rs m_rt m_rf m_st m_ib m_ob m_al m_el m_vt m_vf m_vs (res.2.2) m_ty m_pa m_fn m_md m_ms m_mr) := by
  refine tEv.of (own := RX8) (ini := false) (L := [(0, .ref 0), (1, .int a0)]) (by decide +kernel) rfl (fun h9 => nomatch h9) rfl (Nat.le_of_ble_eq_true rfl) ?_
  rw [f_X8_badClique] at hf
  refine g_aload_n 0 (q := 1) dX8_badClique_0 rfl rfl ?_
  refine g_iload_n 1 (q := 2) dX8_badClique_1 rfl rfl ?_
  obtain ⟨r1, e2, hf⟩ := Option.bind_eq_some_iff.mp hf
  refine g_callV (a := 0) (k2 := 0) (n2 := 0) (q := 5) (as := [.int a0]) (st := []) (st1 := [.int r1]) tm_X8_wrongOrNot ml_X8_150 ti_X8_wrongOrNot rfl rfl dX8_badClique_2 rfl (ev_X8_wrongOrNot e2) rfl rfl (Nat.le_of_ble_eq_true rfl) (by decide) rfl rfl (Or.inl rfl) rfl ?_
  refine g_istore_n (q := 6) (L' := [(0, .ref 0), (1, .int a0), (2, .int r1)]) dX8_badClique_5 rfl (by decide) rfl ?_
  refine g_iload_n 2 (q := 7) dX8_badClique_6 rfl rfl ?_
  refine g_if_eq (t := 12) (q := 10) dX8_badClique_7 (by decide) rfl (fun c3 => ?_) (fun c3 => ?_)
  · rw [if_pos c3] at hf
    refine g_aload_n 0 (q := 13) dX8_badClique_12 rfl rfl ?_
    refine g_aload_n 0 (q := 14) dX8_badClique_13 rfl rfl ?_
    refine g_get (q := 17) fl_X8_16 dX8_badClique_14 rfl rfl rfl ?_
    refine g_iload_n 1 (q := 18) dX8_badClique_17 rfl rfl ?_
    obtain ⟨r4, e5, hf⟩ := Option.bind_eq_some_iff.mp hf
    refine g_laload (q := 19) dX8_badClique_18 rfl rfl e5 ?_
    obtain ⟨r6, e7, hf⟩ := Option.bind_eq_some_iff.mp hf
    refine g_callV (a := 0) (k2 := 0) (n2 := 0) (q := 22) (as := [.long r4]) (st := []) (st1 := []) tm_X8_graph ml_X8_166 ti_X8_graph rfl rfl dX8_badClique_19 rfl (ev_X8_graph e7) rfl rfl (Nat.le_of_ble_eq_true rfl) (by decide) rfl rfl (Or.inl (encM_len.trans encM_len.symm)) rfl ?_
    refine g_aload_n 0 (q := 23) dX8_badClique_22 rfl rfl ?_
    refine g_aload_n 0 (q := 24) dX8_badClique_23 rfl rfl ?_
    refine g_get (q := 27) fl_X8_16 dX8_badClique_24 rfl rfl rfl ?_
    refine g_iload_n 1 (q := 28) dX8_badClique_27 rfl rfl ?_
    obtain ⟨r8, e9, hf⟩ := Option.bind_eq_some_iff.mp hf
    refine g_laload (q := 29) dX8_badClique_28 rfl rfl e9 ?_
    obtain ⟨r10, e11, hf⟩ := Option.bind_eq_some_iff.mp hf
    refine g_callV (a := 0) (k2 := 0) (n2 := 0) (q := 32) (as := [.long r8]) (st := []) (st1 := [.int r10]) tm_X8_badCliqueOf ml_X8_185 ti_X8_badCliqueOf rfl rfl dX8_badClique_29 rfl (ev_X8_badCliqueOf e11) rfl rfl (Nat.le_of_ble_eq_true rfl) (by decide) rfl rfl (Or.inl rfl) rfl ?_
    have hf := Option.some.inj hf
    subst hf
    exact g_ireturn dX8_badClique_32 rfl ⟨rfl, rfl⟩
  · rw [if_neg c3] at hf
    refine g_iload_n 2 (q := 11) dX8_badClique_10 rfl rfl ?_
    have hf := Option.some.inj hf
    subst hf
    exact g_ireturn dX8_badClique_11 rfl ⟨rfl, rfl⟩
