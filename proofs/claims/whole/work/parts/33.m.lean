/-! written by wip/whole/main.py out of the bytecode: a pure function for each method, and its contract -/
def f_X8_parse (a0 : Int32) (m_n : Int32) (m_pt : Int32) (m_rc : Int32) (m_is : Int32) (m_pl : Int32) (m_fa : Int32) (m_oc : Int32) (m_t : List Int64) (m_f : List Int32) (m_rs : List Int32) (m_rt : List Int64) (m_rf : List Int32) (m_ib : List Int32) : Option (Int32 × Int32 × Int32 × Int32 × Int32 × Int32 × List Int64 × List Int32 × List Int32 × List Int64 × List Int32) := (if (f_X8_isSlot a0) = 0 then some ((-2), m_rc, m_is, m_pl, m_fa, m_oc, m_t, m_f, m_rs, m_rt, m_rf) else (f_X8_formula (f_X8_factor tDP) 0 m_n m_pt m_is 0 (-1) 0 m_ib).bind fun r2 => (if m_is ≤ (r2.2.1) then (if (r2.2.2.1) = (-1) then (f_X8_store a0 r2.1 m_pt m_rc m_t m_f m_rs m_rt m_rf).bind fun r6 => some ((r2.2.2.2), r6.2.1, 0, r2.2.1, r2.2.2.1, r2.2.2.2, r6.2.2.1, r6.2.2.2.1, r6.2.2.2.2.1, r6.2.2.2.2.2.1, r6.2.2.2.2.2.2) else some (((-100) - (r2.2.2.1)), m_rc, 0, r2.2.1, r2.2.2.1, r2.2.2.2, m_t, m_f, m_rs, m_rt, m_rf)) else (if (f_X8_fail (r2.2.1) (r2.2.2.1)) = (-1) then (f_X8_store a0 r2.1 m_pt m_rc m_t m_f m_rs m_rt m_rf).bind fun r9 => some ((r2.2.2.2), r9.2.1, 0, r2.2.1, (f_X8_fail (r2.2.1) (r2.2.2.1)), r2.2.2.2, r9.2.2.1, r9.2.2.2.1, r9.2.2.2.2.1, r9.2.2.2.2.2.1, r9.2.2.2.2.2.2) else some (((-100) - (f_X8_fail (r2.2.1) (r2.2.2.1))), m_rc, 0, r2.2.1, (f_X8_fail (r2.2.1) (r2.2.2.1)), r2.2.2.2, m_t, m_f, m_rs, m_rt, m_rf))))
set_option maxRecDepth 20000 in
set_option maxHeartbeats 4000000 in
theorem ev_X8_parse {l : Launch} {E : tEn}  {m_n : Int32} {m_pt : Int32} {m_rc : Int32} {m_sa : Int64} {m_sb : Int64} {m_sc : Int32} {m_is : Int32} {m_os : Int32} {m_vn : Int32} {m_vc : Int32} {m_va : Int64} {m_vb : Int64} {m_ve : Int32} {m_no : Int32} {m_pl : Int32} {m_fa : Int32} {m_oc : Int32} {m_fu : Int32} {m_ke : Int32} {m_t : List Int64} {m_f : List Int32} {m_rs : List Int32} {m_rt : List Int64} {m_rf : List Int32} {m_st : List Int32} {m_ib : List Int32} {m_ob : List Int32} {m_al : List Int32} {m_el : List Int32} {m_vt : List Int64} {m_vf : List Int32} {m_vs : List Int32} {m_nr : List Int32} {m_ty : List Int32} {m_pa : List Int32} {m_fn : List Int64} {m_md : List Int64} {m_ms : List Int32} {m_mr : List Int32} {a0 : Int32} {res : Int32 × Int32 × Int32 × Int32 × Int32 × Int32 × List Int64 × List Int32 × List Int32 × List Int64 × List Int32} (hf : f_X8_parse a0 m_n m_pt m_rc m_is m_pl m_fa m_oc m_t m_f m_rs m_rt m_rf m_ib = some res) : tEv l E yX8_parse cX8_parse 4 (some .int) 35 0 0 [.ref 0, .int a0] (encM m_n m_pt m_rc m_sa m_sb m_sc m_is m_os m_vn m_vc m_va m_vb m_ve m_no m_pl m_fa m_oc m_fu m_ke m_t m_f m_rs m_rt m_rf m_st m_ib m_ob m_al m_el m_vt m_vf m_vs m_nr m_ty m_pa m_fn m_md m_ms m_mr) (fun r h' => r = some (.int res.1) ∧ h' = encM m_n m_pt (res.2.1) m_sa m_sb m_sc (res.2.2.1) m_os m_vn m_vc m_va m_vb m_ve m_no (res.2.2.2.1) (res.2.2.2.2.1) (res.2.2.2.2.2.1) m_fu m_ke (res.2.2.2.2.2.2.1) (res.2.2.2.2.2.2.2.1) (res.2.2.2.2.2.2.2.2.1) (res.2.2.2.2.2.2.2.2.2.1) (res.2.2.2.2.2.2.2.2.2.2) m_st m_ib m_ob m_al m_el m_vt m_vf m_vs m_nr m_ty m_pa m_fn m_md m_ms m_mr) := by
  refine tEv.of (own := RX8) (ini := false) (L := [(0, .ref 0), (1, .int a0)]) (by decide +kernel) rfl (fun h9 => nomatch h9) rfl (Nat.le_of_ble_eq_true rfl) ?_
  rw [f_X8_parse] at hf
  refine g_iload_n 1 (q := 1) dX8_parse_0 rfl rfl ?_
  refine g_callS (k2 := 0) (n2 := 0) (q := 4) (as := [.int a0]) (st := []) (st1 := [.int (f_X8_isSlot a0)]) tm_X8_isSlot ml_X8_118 ts_X8_isSlot dX8_parse_1 rfl ev_X8_isSlot rfl rfl (Nat.le_of_ble_eq_true rfl) (by decide) rfl rfl (Or.inl rfl) rfl ?_
  refine g_if_ne (t := 10) (q := 7) dX8_parse_4 (by decide) rfl (fun c1 => ?_) (fun c1 => ?_)
  · rw [if_neg c1] at hf
    refine g_aload_n 0 (q := 11) dX8_parse_10 rfl rfl ?_
    refine g_iconst (q := 12) (v := 0) dX8_parse_11 rfl rfl ?_
    refine g_put (q := 15) (h' := encM m_n m_pt m_rc m_sa m_sb m_sc m_is m_os m_vn m_vc m_va m_vb m_ve m_no 0 m_fa m_oc m_fu m_ke m_t m_f m_rs m_rt m_rf m_st m_ib m_ob m_al m_el m_vt m_vf m_vs m_nr m_ty m_pa m_fn m_md m_ms m_mr) fp_X8_228 dX8_parse_12 rfl rfl (Nat.le_of_ble_eq_true rfl) (fun _ => ⟨rfl, rfl⟩) rfl ?_
    refine g_aload_n 0 (q := 16) dX8_parse_15 rfl rfl ?_
    refine g_iconst (q := 17) (v := (-1)) dX8_parse_16 rfl rfl ?_
    refine g_put (q := 20) (h' := encM m_n m_pt m_rc m_sa m_sb m_sc m_is m_os m_vn m_vc m_va m_vb m_ve m_no 0 (-1) m_oc m_fu m_ke m_t m_f m_rs m_rt m_rf m_st m_ib m_ob m_al m_el m_vt m_vf m_vs m_nr m_ty m_pa m_fn m_md m_ms m_mr) fp_X8_231 dX8_parse_17 rfl rfl (Nat.le_of_ble_eq_true rfl) (fun _ => ⟨rfl, rfl⟩) rfl ?_
    refine g_aload_n 0 (q := 21) dX8_parse_20 rfl rfl ?_
    refine g_iconst (q := 22) (v := 0) dX8_parse_21 rfl rfl ?_
    refine g_put (q := 25) (h' := encM m_n m_pt m_rc m_sa m_sb m_sc m_is m_os m_vn m_vc m_va m_vb m_ve m_no 0 (-1) 0 m_fu m_ke m_t m_f m_rs m_rt m_rf m_st m_ib m_ob m_al m_el m_vt m_vf m_vs m_nr m_ty m_pa m_fn m_md m_ms m_mr) fp_X8_239 dX8_parse_22 rfl rfl (Nat.le_of_ble_eq_true rfl) (fun _ => ⟨rfl, rfl⟩) rfl ?_
    refine g_aload_n 0 (q := 26) dX8_parse_25 rfl rfl ?_
    refine g_iconst (q := 27) (v := 0) dX8_parse_26 rfl rfl ?_
    obtain ⟨r2, e3, hf⟩ := Option.bind_eq_some_iff.mp hf
    refine g_callV (a := 0) (k2 := 0) (n2 := 0) (q := 30) (as := [.int 0]) (st := []) (st1 := [.long r2.1]) tm_X8_formula ml_X8_258 ti_X8_formula rfl rfl dX8_parse_27 rfl (ev_X8_formula (dd := 3 * tDP + 2) (by decide) (Nat.le_refl _) (ev_X8_factor tDP) e3) rfl rfl (Nat.le_of_ble_eq_true rfl) (by decide) rfl rfl (Or.inl (encM_len.trans encM_len.symm)) rfl ?_
    refine g_lstore_n (q := 31) (L' := [(0, .ref 0), (1, .int a0), (2, .long r2.1)]) dX8_parse_30 rfl (by decide) rfl ?_
    refine g_aload_n 0 (q := 32) dX8_parse_31 rfl rfl ?_
    refine g_get (q := 35) fl_X8_228 dX8_parse_32 rfl rfl rfl ?_
    refine g_aload_n 0 (q := 36) dX8_parse_35 rfl rfl ?_
    refine g_get (q := 39) fl_X8_225 dX8_parse_36 rfl rfl rfl ?_
    refine g_icmp_ge (t := 46) (q := 42) dX8_parse_39 (by decide) rfl (fun c4 => ?_) (fun c4 => ?_)
    · rw [if_pos c4] at hf
      refine g_aload_n 0 (q := 47) dX8_parse_46 rfl rfl ?_
      refine g_iconst (q := 48) (v := 0) dX8_parse_47 rfl rfl ?_
      refine g_put (q := 51) (h' := encM m_n m_pt m_rc m_sa m_sb m_sc 0 m_os m_vn m_vc m_va m_vb m_ve m_no (r2.2.1) (r2.2.2.1) (r2.2.2.2) m_fu m_ke m_t m_f m_rs m_rt m_rf m_st m_ib m_ob m_al m_el m_vt m_vf m_vs m_nr m_ty m_pa m_fn m_md m_ms m_mr) fp_X8_225 dX8_parse_48 rfl rfl (Nat.le_of_ble_eq_true rfl) (fun _ => ⟨rfl, rfl⟩) rfl ?_
      refine g_aload_n 0 (q := 52) dX8_parse_51 rfl rfl ?_
      refine g_get (q := 55) fl_X8_231 dX8_parse_52 rfl rfl rfl ?_
      refine g_iconst (q := 56) (v := (-1)) dX8_parse_55 rfl rfl ?_
      refine g_icmp_eq (t := 67) (q := 59) dX8_parse_56 (by decide) rfl (fun c5 => ?_) (fun c5 => ?_)
      · rw [if_pos c5] at hf
        refine g_aload_n 0 (q := 68) dX8_parse_67 rfl rfl ?_
        refine g_iload_n 1 (q := 69) dX8_parse_68 rfl rfl ?_
        refine g_lload_n 2 (q := 70) dX8_parse_69 rfl rfl ?_
        obtain ⟨r6, e7, hf⟩ := Option.bind_eq_some_iff.mp hf
        refine g_callV (a := 0) (k2 := 0) (n2 := 0) (q := 73) (as := [.int a0, .long r2.1]) (st := []) (st1 := [.int r6.1]) tm_X8_store ml_X8_122 ti_X8_store rfl rfl dX8_parse_70 rfl (ev_X8_store e7) rfl rfl (Nat.le_of_ble_eq_true rfl) (by decide) rfl rfl (Or.inl (encM_len.trans encM_len.symm)) rfl ?_
        refine g_pop (q := 74) dX8_parse_73 rfl rfl ?_
        refine g_aload_n 0 (q := 75) dX8_parse_74 rfl rfl ?_
        refine g_get (q := 78) fl_X8_239 dX8_parse_75 rfl rfl rfl ?_
        have hf := Option.some.inj hf
        subst hf
        exact g_ireturn dX8_parse_78 rfl ⟨rfl, rfl⟩
      · rw [if_neg c5] at hf
        refine g_bipush (q := 61) (v := (-100)) dX8_parse_59 rfl rfl ?_
        refine g_aload_n 0 (q := 62) dX8_parse_61 rfl rfl ?_
        refine g_get (q := 65) fl_X8_231 dX8_parse_62 rfl rfl rfl ?_
        refine g_isub (q := 66) dX8_parse_65 rfl ?_
        have hf := Option.some.inj hf
        subst hf
        exact g_ireturn dX8_parse_66 rfl ⟨rfl, rfl⟩
    · rw [if_neg c4] at hf
      refine g_aload_n 0 (q := 43) dX8_parse_42 rfl rfl ?_
      refine g_callV (a := 0) (k2 := 0) (n2 := 0) (q := 46) (as := []) (st := []) (st1 := []) tm_X8_fail ml_X8_250 ti_X8_fail rfl rfl dX8_parse_43 rfl ev_X8_fail rfl rfl (Nat.le_of_ble_eq_true rfl) (by decide) rfl rfl (Or.inl (encM_len.trans encM_len.symm)) rfl ?_
      refine g_aload_n 0 (q := 47) dX8_parse_46 rfl rfl ?_
      refine g_iconst (q := 48) (v := 0) dX8_parse_47 rfl rfl ?_
      refine g_put (q := 51) (h' := encM m_n m_pt m_rc m_sa m_sb m_sc 0 m_os m_vn m_vc m_va m_vb m_ve m_no (r2.2.1) (f_X8_fail (r2.2.1) (r2.2.2.1)) (r2.2.2.2) m_fu m_ke m_t m_f m_rs m_rt m_rf m_st m_ib m_ob m_al m_el m_vt m_vf m_vs m_nr m_ty m_pa m_fn m_md m_ms m_mr) fp_X8_225 dX8_parse_48 rfl rfl (Nat.le_of_ble_eq_true rfl) (fun _ => ⟨rfl, rfl⟩) rfl ?_
      refine g_aload_n 0 (q := 52) dX8_parse_51 rfl rfl ?_
      refine g_get (q := 55) fl_X8_231 dX8_parse_52 rfl rfl rfl ?_
      refine g_iconst (q := 56) (v := (-1)) dX8_parse_55 rfl rfl ?_
      refine g_icmp_eq (t := 67) (q := 59) dX8_parse_56 (by decide) rfl (fun c8 => ?_) (fun c8 => ?_)
      · rw [if_pos c8] at hf
        refine g_aload_n 0 (q := 68) dX8_parse_67 rfl rfl ?_
        refine g_iload_n 1 (q := 69) dX8_parse_68 rfl rfl ?_
        refine g_lload_n 2 (q := 70) dX8_parse_69 rfl rfl ?_
        obtain ⟨r9, e10, hf⟩ := Option.bind_eq_some_iff.mp hf
        refine g_callV (a := 0) (k2 := 0) (n2 := 0) (q := 73) (as := [.int a0, .long r2.1]) (st := []) (st1 := [.int r9.1]) tm_X8_store ml_X8_122 ti_X8_store rfl rfl dX8_parse_70 rfl (ev_X8_store e10) rfl rfl (Nat.le_of_ble_eq_true rfl) (by decide) rfl rfl (Or.inl (encM_len.trans encM_len.symm)) rfl ?_
        refine g_pop (q := 74) dX8_parse_73 rfl rfl ?_
        refine g_aload_n 0 (q := 75) dX8_parse_74 rfl rfl ?_
        refine g_get (q := 78) fl_X8_239 dX8_parse_75 rfl rfl rfl ?_
        have hf := Option.some.inj hf
        subst hf
        exact g_ireturn dX8_parse_78 rfl ⟨rfl, rfl⟩
      · rw [if_neg c8] at hf
        refine g_bipush (q := 61) (v := (-100)) dX8_parse_59 rfl rfl ?_
        refine g_aload_n 0 (q := 62) dX8_parse_61 rfl rfl ?_
        refine g_get (q := 65) fl_X8_231 dX8_parse_62 rfl rfl rfl ?_
        refine g_isub (q := 66) dX8_parse_65 rfl ?_
        have hf := Option.some.inj hf
        subst hf
        exact g_ireturn dX8_parse_66 rfl ⟨rfl, rfl⟩
  · rw [if_pos c1] at hf
    refine g_bipush (q := 9) (v := (-2)) dX8_parse_7 rfl rfl ?_
    have hf := Option.some.inj hf
    subst hf
    exact g_ireturn dX8_parse_9 rfl ⟨rfl, rfl⟩
def f_X8_combine (a0 : Int32) (a1 : Int32) (a2 : Int32) (a3 : Int32) (m_pt : Int32) (m_rc : Int32) (m_t : List Int64) (m_f : List Int32) (m_rs : List Int32) (m_rt : List Int64) (m_rf : List Int32) : Option (Int32 × Int32 × List Int64 × List Int32 × List Int32 × List Int64 × List Int32) := (if (f_X8_isIn (Int32.toInt64 a0) 0 2) = 0 then some ((-2), m_rc, m_t, m_f, m_rs, m_rt, m_rf) else (if (f_X8_isSlot a1) = 0 then some ((-2), m_rc, m_t, m_f, m_rs, m_rt, m_rf) else (if (f_X8_isSlot a2) = 0 then some ((-2), m_rc, m_t, m_f, m_rs, m_rt, m_rf) else (if (f_X8_isSlot a3) = 0 then some ((-2), m_rc, m_t, m_f, m_rs, m_rt, m_rf) else (tld m_f a1).bind fun r5 => (if r5 = 0 then some ((-3), m_rc, m_t, m_f, m_rs, m_rt, m_rf) else (tld m_f a2).bind fun r8 => (if r8 = 0 then some ((-3), m_rc, m_t, m_f, m_rs, m_rt, m_rf) else (tld m_t a1).bind fun r11 => (tld m_t a2).bind fun r13 => (if a0 = 0 then (f_X8_store a3 (r11 &&& r13) m_pt m_rc m_t m_f m_rs m_rt m_rf).bind fun r21 => some (r21.1, r21.2.1, r21.2.2.1, r21.2.2.2.1, r21.2.2.2.2.1, r21.2.2.2.2.2.1, r21.2.2.2.2.2.2) else (if a0 = 1 then (f_X8_store a3 (r11 ||| r13) m_pt m_rc m_t m_f m_rs m_rt m_rf).bind fun r19 => some (r19.1, r19.2.1, r19.2.2.1, r19.2.2.2.1, r19.2.2.2.2.1, r19.2.2.2.2.2.1, r19.2.2.2.2.2.2) else (f_X8_store a3 (r11 ^^^ r13) m_pt m_rc m_t m_f m_rs m_rt m_rf).bind fun r17 => some (r17.1, r17.2.1, r17.2.2.1, r17.2.2.2.1, r17.2.2.2.2.1, r17.2.2.2.2.2.1, r17.2.2.2.2.2.2)))))))))
set_option maxRecDepth 20000 in
set_option maxHeartbeats 4000000 in
theorem ev_X8_combine {l : Launch} {E : tEn}  {m_n : Int32} {m_pt : Int32} {m_rc : Int32} {m_sa : Int64} {m_sb : Int64} {m_sc : Int32} {m_is : Int32} {m_os : Int32} {m_vn : Int32} {m_vc : Int32} {m_va : Int64} {m_vb : Int64} {m_ve : Int32} {m_no : Int32} {m_pl : Int32} {m_fa : Int32} {m_oc : Int32} {m_fu : Int32} {m_ke : Int32} {m_t : List Int64} {m_f : List Int32} {m_rs : List Int32} {m_rt : List Int64} {m_rf : List Int32} {m_st : List Int32} {m_ib : List Int32} {m_ob : List Int32} {m_al : List Int32} {m_el : List Int32} {m_vt : List Int64} {m_vf : List Int32} {m_vs : List Int32} {m_nr : List Int32} {m_ty : List Int32} {m_pa : List Int32} {m_fn : List Int64} {m_md : List Int64} {m_ms : List Int32} {m_mr : List Int32} {a0 : Int32} {a1 : Int32} {a2 : Int32} {a3 : Int32} {res : Int32 × Int32 × List Int64 × List Int32 × List Int32 × List Int64 × List Int32} (hf : f_X8_combine a0 a1 a2 a3 m_pt m_rc m_t m_f m_rs m_rt m_rf = some res) : tEv l E yX8_combine cX8_combine 9 (some .int) 4 0 0 [.ref 0, .int a0, .int a1, .int a2, .int a3] (encM m_n m_pt m_rc m_sa m_sb m_sc m_is m_os m_vn m_vc m_va m_vb m_ve m_no m_pl m_fa m_oc m_fu m_ke m_t m_f m_rs m_rt m_rf m_st m_ib m_ob m_al m_el m_vt m_vf m_vs m_nr m_ty m_pa m_fn m_md m_ms m_mr) (fun r h' => r = some (.int res.1) ∧ h' = encM m_n m_pt (res.2.1) m_sa m_sb m_sc m_is m_os m_vn m_vc m_va m_vb m_ve m_no m_pl m_fa m_oc m_fu m_ke (res.2.2.1) (res.2.2.2.1) (res.2.2.2.2.1) (res.2.2.2.2.2.1) (res.2.2.2.2.2.2) m_st m_ib m_ob m_al m_el m_vt m_vf m_vs m_nr m_ty m_pa m_fn m_md m_ms m_mr) := by
  refine tEv.of (own := RX8) (ini := false) (L := [(0, .ref 0), (1, .int a0), (2, .int a1), (3, .int a2), (4, .int a3)]) (by decide +kernel) rfl (fun h9 => nomatch h9) rfl (Nat.le_of_ble_eq_true rfl) ?_
  rw [f_X8_combine] at hf
  refine g_iload_n 1 (q := 1) dX8_combine_0 rfl rfl ?_
  refine g_i2l (q := 2) dX8_combine_1 rfl ?_
  refine g_lconst (q := 3) (v := 0) dX8_combine_2 rfl rfl ?_
  refine g_ldc2_w (q := 6) kc_X8_264 dX8_combine_3 rfl ?_
  refine g_callS (k2 := 0) (n2 := 0) (q := 9) (as := [.long (Int32.toInt64 a0), .long 0, .long 2]) (st := []) (st1 := [.int (f_X8_isIn (Int32.toInt64 a0) 0 2)]) tm_X8_isIn ml_X8_87 ts_X8_isIn dX8_combine_6 rfl ev_X8_isIn rfl rfl (Nat.le_of_ble_eq_true rfl) (by decide) rfl rfl (Or.inl rfl) rfl ?_
  refine g_if_eq (t := 34) (q := 12) dX8_combine_9 (by decide) rfl (fun c1 => ?_) (fun c1 => ?_)
  · rw [if_pos c1] at hf
    refine g_bipush (q := 36) (v := (-2)) dX8_combine_34 rfl rfl ?_
    have hf := Option.some.inj hf
    subst hf
    exact g_ireturn dX8_combine_36 rfl ⟨rfl, rfl⟩
  · rw [if_neg c1] at hf
    refine g_iload_n 2 (q := 13) dX8_combine_12 rfl rfl ?_
    refine g_callS (k2 := 0) (n2 := 0) (q := 16) (as := [.int a1]) (st := []) (st1 := [.int (f_X8_isSlot a1)]) tm_X8_isSlot ml_X8_118 ts_X8_isSlot dX8_combine_13 rfl ev_X8_isSlot rfl rfl (Nat.le_of_ble_eq_true rfl) (by decide) rfl rfl (Or.inl rfl) rfl ?_
    refine g_if_eq (t := 34) (q := 19) dX8_combine_16 (by decide) rfl (fun c2 => ?_) (fun c2 => ?_)
    · rw [if_pos c2] at hf
      refine g_bipush (q := 36) (v := (-2)) dX8_combine_34 rfl rfl ?_
      have hf := Option.some.inj hf
      subst hf
      exact g_ireturn dX8_combine_36 rfl ⟨rfl, rfl⟩
    · rw [if_neg c2] at hf
      refine g_iload_n 3 (q := 20) dX8_combine_19 rfl rfl ?_
      refine g_callS (k2 := 0) (n2 := 0) (q := 23) (as := [.int a2]) (st := []) (st1 := [.int (f_X8_isSlot a2)]) tm_X8_isSlot ml_X8_118 ts_X8_isSlot dX8_combine_20 rfl ev_X8_isSlot rfl rfl (Nat.le_of_ble_eq_true rfl) (by decide) rfl rfl (Or.inl rfl) rfl ?_
      refine g_if_eq (t := 34) (q := 26) dX8_combine_23 (by decide) rfl (fun c3 => ?_) (fun c3 => ?_)
      · rw [if_pos c3] at hf
        refine g_bipush (q := 36) (v := (-2)) dX8_combine_34 rfl rfl ?_
        have hf := Option.some.inj hf
        subst hf
        exact g_ireturn dX8_combine_36 rfl ⟨rfl, rfl⟩
      · rw [if_neg c3] at hf
        refine g_iload 4 (q := 28) dX8_combine_26 rfl rfl ?_
        refine g_callS (k2 := 0) (n2 := 0) (q := 31) (as := [.int a3]) (st := []) (st1 := [.int (f_X8_isSlot a3)]) tm_X8_isSlot ml_X8_118 ts_X8_isSlot dX8_combine_28 rfl ev_X8_isSlot rfl rfl (Nat.le_of_ble_eq_true rfl) (by decide) rfl rfl (Or.inl rfl) rfl ?_
        refine g_if_ne (t := 37) (q := 34) dX8_combine_31 (by decide) rfl (fun c4 => ?_) (fun c4 => ?_)
        · rw [if_neg c4] at hf
          refine g_aload_n 0 (q := 38) dX8_combine_37 rfl rfl ?_
          refine g_get (q := 41) fl_X8_20 dX8_combine_38 rfl rfl rfl ?_
          refine g_iload_n 2 (q := 42) dX8_combine_41 rfl rfl ?_
          obtain ⟨r5, e6, hf⟩ := Option.bind_eq_some_iff.mp hf
          refine g_baload (q := 43) dX8_combine_42 rfl rfl e6 ?_
          refine g_if_eq (t := 55) (q := 46) dX8_combine_43 (by decide) rfl (fun c7 => ?_) (fun c7 => ?_)
          · rw [if_pos c7] at hf
            refine g_bipush (q := 57) (v := (-3)) dX8_combine_55 rfl rfl ?_
            have hf := Option.some.inj hf
            subst hf
            exact g_ireturn dX8_combine_57 rfl ⟨rfl, rfl⟩
          · rw [if_neg c7] at hf
            refine g_aload_n 0 (q := 47) dX8_combine_46 rfl rfl ?_
            refine g_get (q := 50) fl_X8_20 dX8_combine_47 rfl rfl rfl ?_
            refine g_iload_n 3 (q := 51) dX8_combine_50 rfl rfl ?_
            obtain ⟨r8, e9, hf⟩ := Option.bind_eq_some_iff.mp hf
            refine g_baload (q := 52) dX8_combine_51 rfl rfl e9 ?_
            refine g_if_ne (t := 58) (q := 55) dX8_combine_52 (by decide) rfl (fun c10 => ?_) (fun c10 => ?_)
            · rw [if_neg c10] at hf
              refine g_aload_n 0 (q := 59) dX8_combine_58 rfl rfl ?_
              refine g_get (q := 62) fl_X8_16 dX8_combine_59 rfl rfl rfl ?_
              refine g_iload_n 2 (q := 63) dX8_combine_62 rfl rfl ?_
              obtain ⟨r11, e12, hf⟩ := Option.bind_eq_some_iff.mp hf
              refine g_laload (q := 64) dX8_combine_63 rfl rfl e12 ?_
              refine g_lstore (q := 66) (L' := [(0, .ref 0), (1, .int a0), (2, .int a1), (3, .int a2), (4, .int a3), (5, .long r11)]) dX8_combine_64 rfl (by decide) rfl ?_
              refine g_aload_n 0 (q := 67) dX8_combine_66 rfl rfl ?_
              refine g_get (q := 70) fl_X8_16 dX8_combine_67 rfl rfl rfl ?_
              refine g_iload_n 3 (q := 71) dX8_combine_70 rfl rfl ?_
              obtain ⟨r13, e14, hf⟩ := Option.bind_eq_some_iff.mp hf
              refine g_laload (q := 72) dX8_combine_71 rfl rfl e14 ?_
              refine g_lstore (q := 74) (L' := [(0, .ref 0), (1, .int a0), (2, .int a1), (3, .int a2), (4, .int a3), (5, .long r11), (7, .long r13)]) dX8_combine_72 rfl (by decide) rfl ?_
              refine g_aload_n 0 (q := 75) dX8_combine_74 rfl rfl ?_
              refine g_iload 4 (q := 77) dX8_combine_75 rfl rfl ?_
              refine g_iload_n 1 (q := 78) dX8_combine_77 rfl rfl ?_
              refine g_if_ne (t := 89) (q := 81) dX8_combine_78 (by decide) rfl (fun c15 => ?_) (fun c15 => ?_)
              · rw [if_neg c15] at hf
                refine g_iload_n 1 (q := 90) dX8_combine_89 rfl rfl ?_
                refine g_iconst (q := 91) (v := 1) dX8_combine_90 rfl rfl ?_
                refine g_icmp_ne (t := 102) (q := 94) dX8_combine_91 (by decide) rfl (fun c16 => ?_) (fun c16 => ?_)
                · rw [if_neg c16] at hf
                  refine g_lload 5 (q := 104) dX8_combine_102 rfl rfl ?_
                  refine g_lload 6 (q := 106) dX8_combine_104 rfl rfl ?_
                  refine g_lxor (q := 107) dX8_combine_106 rfl ?_
                  obtain ⟨r17, e18, hf⟩ := Option.bind_eq_some_iff.mp hf
                  refine g_callV (a := 0) (k2 := 0) (n2 := 0) (q := 110) (as := [.int a3, .long (r11 ^^^ r13)]) (st := []) (st1 := [.int r17.1]) tm_X8_store ml_X8_122 ti_X8_store rfl rfl dX8_combine_107 rfl (ev_X8_store e18) rfl rfl (Nat.le_of_ble_eq_true rfl) (by decide) rfl rfl (Or.inl (encM_len.trans encM_len.symm)) rfl ?_
                  have hf := Option.some.inj hf
                  subst hf
                  exact g_ireturn dX8_combine_110 rfl ⟨rfl, rfl⟩
                · rw [if_pos c16] at hf
                  refine g_lload 5 (q := 96) dX8_combine_94 rfl rfl ?_
                  refine g_lload 6 (q := 98) dX8_combine_96 rfl rfl ?_
                  refine g_lor (q := 99) dX8_combine_98 rfl ?_
                  refine g_goto (t := 107) dX8_combine_99 (by decide) ?_
                  obtain ⟨r19, e20, hf⟩ := Option.bind_eq_some_iff.mp hf
                  refine g_callV (a := 0) (k2 := 0) (n2 := 0) (q := 110) (as := [.int a3, .long (r11 ||| r13)]) (st := []) (st1 := [.int r19.1]) tm_X8_store ml_X8_122 ti_X8_store rfl rfl dX8_combine_107 rfl (ev_X8_store e20) rfl rfl (Nat.le_of_ble_eq_true rfl) (by decide) rfl rfl (Or.inl (encM_len.trans encM_len.symm)) rfl ?_
                  have hf := Option.some.inj hf
                  subst hf
                  exact g_ireturn dX8_combine_110 rfl ⟨rfl, rfl⟩
              · rw [if_pos c15] at hf
                refine g_lload 5 (q := 83) dX8_combine_81 rfl rfl ?_
                refine g_lload 6 (q := 85) dX8_combine_83 rfl rfl ?_
                refine g_land (q := 86) dX8_combine_85 rfl ?_
                refine g_goto (t := 107) dX8_combine_86 (by decide) ?_
                obtain ⟨r21, e22, hf⟩ := Option.bind_eq_some_iff.mp hf
                refine g_callV (a := 0) (k2 := 0) (n2 := 0) (q := 110) (as := [.int a3, .long (r11 &&& r13)]) (st := []) (st1 := [.int r21.1]) tm_X8_store ml_X8_122 ti_X8_store rfl rfl dX8_combine_107 rfl (ev_X8_store e22) rfl rfl (Nat.le_of_ble_eq_true rfl) (by decide) rfl rfl (Or.inl (encM_len.trans encM_len.symm)) rfl ?_
                have hf := Option.some.inj hf
                subst hf
                exact g_ireturn dX8_combine_110 rfl ⟨rfl, rfl⟩
            · rw [if_pos c10] at hf
              refine g_bipush (q := 57) (v := (-3)) dX8_combine_55 rfl rfl ?_
              have hf := Option.some.inj hf
              subst hf
              exact g_ireturn dX8_combine_57 rfl ⟨rfl, rfl⟩
        · rw [if_pos c4] at hf
          refine g_bipush (q := 36) (v := (-2)) dX8_combine_34 rfl rfl ?_
          have hf := Option.some.inj hf
          subst hf
          exact g_ireturn dX8_combine_36 rfl ⟨rfl, rfl⟩
def f_X8_dual_L34 (w1 : Int32) (m_pt : Int32) (m_t : List Int64) (K : Int64 → Option (Int32 × Int32 × List Int64 × List Int32 × List Int32 × List Int64 × List Int32)) : Nat → Int64 → Int32 → Option (Int32 × Int32 × List Int64 × List Int32 × List Int32 × List Int64 × List Int32)
  | 0, _, _ => none
  | fu + 1, v3, v5 => (if m_pt ≤ v5 then K v3 else (tld m_t w1).bind fun r7 => (if (f_X8_at r7 ((m_pt - 1) - v5)) = 0 then f_X8_dual_L34 w1 m_pt m_t K fu (v3 ||| (tlshl 1 v5)) (v5 + 1) else f_X8_dual_L34 w1 m_pt m_t K fu (v3 ||| 0) (v5 + 1)))
def f_X8_dual (a0 : Int32) (a1 : Int32) (m_pt : Int32) (m_rc : Int32) (m_t : List Int64) (m_f : List Int32) (m_rs : List Int32) (m_rt : List Int64) (m_rf : List Int32) : Option (Int32 × Int32 × List Int64 × List Int32 × List Int32 × List Int64 × List Int32) := (if (f_X8_isSlot a0) = 0 then some ((-2), m_rc, m_t, m_f, m_rs, m_rt, m_rf) else (if (f_X8_isSlot a1) = 0 then some ((-2), m_rc, m_t, m_f, m_rs, m_rt, m_rf) else (tld m_f a0).bind fun r3 => (if r3 = 0 then some ((-3), m_rc, m_t, m_f, m_rs, m_rt, m_rf) else f_X8_dual_L34 a0 m_pt m_t (fun y10 => (f_X8_store a1 y10 m_pt m_rc m_t m_f m_rs m_rt m_rf).bind fun r11 => some (r11.1, r11.2.1, r11.2.2.1, r11.2.2.2.1, r11.2.2.2.2.1, r11.2.2.2.2.2.1, r11.2.2.2.2.2.2)) tFU 0 0)))
set_option maxRecDepth 20000 in
set_option maxHeartbeats 4000000 in
theorem ev_X8_dual_L34 {l : Launch} {E : tEn}   {m_n : Int32} {m_pt : Int32} {m_rc : Int32} {m_sa : Int64} {m_sb : Int64} {m_sc : Int32} {m_is : Int32} {m_os : Int32} {m_vn : Int32} {m_vc : Int32} {m_va : Int64} {m_vb : Int64} {m_ve : Int32} {m_no : Int32} {m_pl : Int32} {m_fa : Int32} {m_oc : Int32} {m_fu : Int32} {m_ke : Int32} {m_t : List Int64} {m_f : List Int32} {m_rs : List Int32} {m_rt : List Int64} {m_rf : List Int32} {m_st : List Int32} {m_ib : List Int32} {m_ob : List Int32} {m_al : List Int32} {m_el : List Int32} {m_vt : List Int64} {m_vf : List Int32} {m_vs : List Int32} {m_nr : List Int32} {m_ty : List Int32} {m_pa : List Int32} {m_fn : List Int64} {m_md : List Int64} {m_ms : List Int32} {m_mr : List Int32} {w1 : Int32} {w2 : Int32} {K : Int64 → Option (Int32 × Int32 × List Int64 × List Int32 × List Int32 × List Int64 × List Int32)} (hK : ∀ (v3 : Int64)  (res : Int32 × Int32 × List Int64 × List Int32 × List Int32 × List Int64 × List Int32), K v3 = some res → tG l E RX8 cX8_dual 6 (some .int) false 4 (fun r h' => r = some (.int res.1) ∧ h' = encM m_n m_pt (res.2.1) m_sa m_sb m_sc m_is m_os m_vn m_vc m_va m_vb m_ve m_no m_pl m_fa m_oc m_fu m_ke (res.2.2.1) (res.2.2.2.1) (res.2.2.2.2.1) (res.2.2.2.2.2.1) (res.2.2.2.2.2.2) m_st m_ib m_ob m_al m_el m_vt m_vf m_vs m_nr m_ty m_pa m_fn m_md m_ms m_mr) 0 0 81 [(0, .ref 0), (2, .int w2), (3, .long v3)] [] (encM m_n m_pt m_rc m_sa m_sb m_sc m_is m_os m_vn m_vc m_va m_vb m_ve m_no m_pl m_fa m_oc m_fu m_ke m_t m_f m_rs m_rt m_rf m_st m_ib m_ob m_al m_el m_vt m_vf m_vs m_nr m_ty m_pa m_fn m_md m_ms m_mr)) :
    ∀ (fu : Nat) (v3 : Int64) (v5 : Int32) (res : Int32 × Int32 × List Int64 × List Int32 × List Int32 × List Int64 × List Int32), f_X8_dual_L34 w1 m_pt m_t K fu v3 v5 = some res → tG l E RX8 cX8_dual 6 (some .int) false 4 (fun r h' => r = some (.int res.1) ∧ h' = encM m_n m_pt (res.2.1) m_sa m_sb m_sc m_is m_os m_vn m_vc m_va m_vb m_ve m_no m_pl m_fa m_oc m_fu m_ke (res.2.2.1) (res.2.2.2.1) (res.2.2.2.2.1) (res.2.2.2.2.2.1) (res.2.2.2.2.2.2) m_st m_ib m_ob m_al m_el m_vt m_vf m_vs m_nr m_ty m_pa m_fn m_md m_ms m_mr) 0 0 34 [(0, .ref 0), (1, .int w1), (2, .int w2), (3, .long v3), (5, .int v5)] [] (encM m_n m_pt m_rc m_sa m_sb m_sc m_is m_os m_vn m_vc m_va m_vb m_ve m_no m_pl m_fa m_oc m_fu m_ke m_t m_f m_rs m_rt m_rf m_st m_ib m_ob m_al m_el m_vt m_vf m_vs m_nr m_ty m_pa m_fn m_md m_ms m_mr) := by
  intro fu
  induction fu with
  | zero => intro v3 v5 res hf; exact nomatch (show none = some res from hf)
  | succ fu ih =>
    intro v3 v5 res hf
    rw [f_X8_dual_L34] at hf
    refine g_iload 4 (q := 36) dX8_dual_34 rfl rfl ?_
    refine g_aload_n 0 (q := 37) dX8_dual_36 rfl rfl ?_
    refine g_get (q := 40) fl_X8_13 dX8_dual_37 rfl rfl rfl ?_
    refine g_icmp_ge (t := 81) (q := 43) dX8_dual_40 (by decide) rfl (fun c6 => ?_) (fun c6 => ?_)
    · rw [if_pos c6] at hf
      refine g_ls [0, 2, 3] rfl ?_
      exact hK _ _ hf
    · rw [if_neg c6] at hf
      refine g_lload_n 3 (q := 44) dX8_dual_43 rfl rfl ?_
      refine g_aload_n 0 (q := 45) dX8_dual_44 rfl rfl ?_
      refine g_get (q := 48) fl_X8_16 dX8_dual_45 rfl rfl rfl ?_
      refine g_iload_n 1 (q := 49) dX8_dual_48 rfl rfl ?_
      obtain ⟨r7, e8, hf⟩ := Option.bind_eq_some_iff.mp hf
      refine g_laload (q := 50) dX8_dual_49 rfl rfl e8 ?_
      refine g_aload_n 0 (q := 51) dX8_dual_50 rfl rfl ?_
      refine g_get (q := 54) fl_X8_13 dX8_dual_51 rfl rfl rfl ?_
      refine g_iconst (q := 55) (v := 1) dX8_dual_54 rfl rfl ?_
      refine g_isub (q := 56) dX8_dual_55 rfl ?_
      refine g_iload 4 (q := 58) dX8_dual_56 rfl rfl ?_
      refine g_isub (q := 59) dX8_dual_58 rfl ?_
      refine g_callS (k2 := 0) (n2 := 0) (q := 62) (as := [.long r7, .int ((m_pt - 1) - v5)]) (st := [.long v3]) (st1 := [.int (f_X8_at r7 ((m_pt - 1) - v5)), .long v3]) tm_X8_at ml_X8_91 ts_X8_at dX8_dual_59 rfl ev_X8_at rfl rfl (Nat.le_of_ble_eq_true rfl) (by decide) rfl rfl (Or.inl rfl) rfl ?_
      refine g_if_eq (t := 69) (q := 65) dX8_dual_62 (by decide) rfl (fun c9 => ?_) (fun c9 => ?_)
      · rw [if_pos c9] at hf
        refine g_lconst (q := 70) (v := 1) dX8_dual_69 rfl rfl ?_
        refine g_iload 4 (q := 72) dX8_dual_70 rfl rfl ?_
        refine g_lshl (q := 73) dX8_dual_72 rfl ?_
        refine g_lor (q := 74) dX8_dual_73 rfl ?_
        refine g_lstore_n (q := 75) (L' := [(0, .ref 0), (1, .int w1), (2, .int w2), (3, .long (v3 ||| (tlshl 1 v5))), (5, .int v5)]) dX8_dual_74 rfl (by decide) rfl ?_
        refine g_iinc 4 (q := 78) (v := (v5 + 1)) (L' := [(0, .ref 0), (1, .int w1), (2, .int w2), (3, .long (v3 ||| (tlshl 1 v5))), (5, .int (v5 + 1))]) dX8_dual_75 rfl rfl rfl (by decide) rfl ?_
        refine g_goto (t := 34) dX8_dual_78 (by decide) ?_
        refine g_ls [0, 1, 2, 3, 4] rfl ?_
        exact ih _ _ _ hf
      · rw [if_neg c9] at hf
        refine g_lconst (q := 66) (v := 0) dX8_dual_65 rfl rfl ?_
        refine g_goto (t := 73) dX8_dual_66 (by decide) ?_
        refine g_lor (q := 74) dX8_dual_73 rfl ?_
        refine g_lstore_n (q := 75) (L' := [(0, .ref 0), (1, .int w1), (2, .int w2), (3, .long (v3 ||| 0)), (5, .int v5)]) dX8_dual_74 rfl (by decide) rfl ?_
        refine g_iinc 4 (q := 78) (v := (v5 + 1)) (L' := [(0, .ref 0), (1, .int w1), (2, .int w2), (3, .long (v3 ||| 0)), (5, .int (v5 + 1))]) dX8_dual_75 rfl rfl rfl (by decide) rfl ?_
        refine g_goto (t := 34) dX8_dual_78 (by decide) ?_
        refine g_ls [0, 1, 2, 3, 4] rfl ?_
        exact ih _ _ _ hf
set_option maxRecDepth 20000 in
set_option maxHeartbeats 4000000 in
theorem ev_X8_dual {l : Launch} {E : tEn}  {m_n : Int32} {m_pt : Int32} {m_rc : Int32} {m_sa : Int64} {m_sb : Int64} {m_sc : Int32} {m_is : Int32} {m_os : Int32} {m_vn : Int32} {m_vc : Int32} {m_va : Int64} {m_vb : Int64} {m_ve : Int32} {m_no : Int32} {m_pl : Int32} {m_fa : Int32} {m_oc : Int32} {m_fu : Int32} {m_ke : Int32} {m_t : List Int64} {m_f : List Int32} {m_rs : List Int32} {m_rt : List Int64} {m_rf : List Int32} {m_st : List Int32} {m_ib : List Int32} {m_ob : List Int32} {m_al : List Int32} {m_el : List Int32} {m_vt : List Int64} {m_vf : List Int32} {m_vs : List Int32} {m_nr : List Int32} {m_ty : List Int32} {m_pa : List Int32} {m_fn : List Int64} {m_md : List Int64} {m_ms : List Int32} {m_mr : List Int32} {a0 : Int32} {a1 : Int32} {res : Int32 × Int32 × List Int64 × List Int32 × List Int32 × List Int64 × List Int32} (hf : f_X8_dual a0 a1 m_pt m_rc m_t m_f m_rs m_rt m_rf = some res) : tEv l E yX8_dual cX8_dual 6 (some .int) 4 0 0 [.ref 0, .int a0, .int a1] (encM m_n m_pt m_rc m_sa m_sb m_sc m_is m_os m_vn m_vc m_va m_vb m_ve m_no m_pl m_fa m_oc m_fu m_ke m_t m_f m_rs m_rt m_rf m_st m_ib m_ob m_al m_el m_vt m_vf m_vs m_nr m_ty m_pa m_fn m_md m_ms m_mr) (fun r h' => r = some (.int res.1) ∧ h' = encM m_n m_pt (res.2.1) m_sa m_sb m_sc m_is m_os m_vn m_vc m_va m_vb m_ve m_no m_pl m_fa m_oc m_fu m_ke (res.2.2.1) (res.2.2.2.1) (res.2.2.2.2.1) (res.2.2.2.2.2.1) (res.2.2.2.2.2.2) m_st m_ib m_ob m_al m_el m_vt m_vf m_vs m_nr m_ty m_pa m_fn m_md m_ms m_mr) := by
  refine tEv.of (own := RX8) (ini := false) (L := [(0, .ref 0), (1, .int a0), (2, .int a1)]) (by decide +kernel) rfl (fun h9 => nomatch h9) rfl (Nat.le_of_ble_eq_true rfl) ?_
  rw [f_X8_dual] at hf
  refine g_iload_n 1 (q := 1) dX8_dual_0 rfl rfl ?_
  refine g_callS (k2 := 0) (n2 := 0) (q := 4) (as := [.int a0]) (st := []) (st1 := [.int (f_X8_isSlot a0)]) tm_X8_isSlot ml_X8_118 ts_X8_isSlot dX8_dual_1 rfl ev_X8_isSlot rfl rfl (Nat.le_of_ble_eq_true rfl) (by decide) rfl rfl (Or.inl rfl) rfl ?_
  refine g_if_eq (t := 14) (q := 7) dX8_dual_4 (by decide) rfl (fun c1 => ?_) (fun c1 => ?_)
  · rw [if_pos c1] at hf
    refine g_bipush (q := 16) (v := (-2)) dX8_dual_14 rfl rfl ?_
    have hf := Option.some.inj hf
    subst hf
    exact g_ireturn dX8_dual_16 rfl ⟨rfl, rfl⟩
  · rw [if_neg c1] at hf
    refine g_iload_n 2 (q := 8) dX8_dual_7 rfl rfl ?_
    refine g_callS (k2 := 0) (n2 := 0) (q := 11) (as := [.int a1]) (st := []) (st1 := [.int (f_X8_isSlot a1)]) tm_X8_isSlot ml_X8_118 ts_X8_isSlot dX8_dual_8 rfl ev_X8_isSlot rfl rfl (Nat.le_of_ble_eq_true rfl) (by decide) rfl rfl (Or.inl rfl) rfl ?_
    refine g_if_ne (t := 17) (q := 14) dX8_dual_11 (by decide) rfl (fun c2 => ?_) (fun c2 => ?_)
    · rw [if_neg c2] at hf
      refine g_aload_n 0 (q := 18) dX8_dual_17 rfl rfl ?_
      refine g_get (q := 21) fl_X8_20 dX8_dual_18 rfl rfl rfl ?_
      refine g_iload_n 1 (q := 22) dX8_dual_21 rfl rfl ?_
      obtain ⟨r3, e4, hf⟩ := Option.bind_eq_some_iff.mp hf
      refine g_baload (q := 23) dX8_dual_22 rfl rfl e4 ?_
      refine g_if_ne (t := 29) (q := 26) dX8_dual_23 (by decide) rfl (fun c5 => ?_) (fun c5 => ?_)
      · rw [if_neg c5] at hf
        refine g_lconst (q := 30) (v := 0) dX8_dual_29 rfl rfl ?_
        refine g_lstore_n (q := 31) (L' := [(0, .ref 0), (1, .int a0), (2, .int a1), (3, .long 0)]) dX8_dual_30 rfl (by decide) rfl ?_
        refine g_iconst (q := 32) (v := 0) dX8_dual_31 rfl rfl ?_
        refine g_istore (q := 34) (L' := [(0, .ref 0), (1, .int a0), (2, .int a1), (3, .long 0), (5, .int 0)]) dX8_dual_32 rfl (by decide) rfl ?_
        refine g_ls [0, 1, 2, 3, 4] rfl ?_
        refine ev_X8_dual_L34 (fun y10 res hf => ?_) tFU _ _ res hf
        refine g_aload_n 0 (q := 82) dX8_dual_81 rfl rfl ?_
        refine g_iload_n 1 (q := 83) dX8_dual_82 rfl rfl ?_
        refine g_lload_n 2 (q := 84) dX8_dual_83 rfl rfl ?_
        obtain ⟨r11, e12, hf⟩ := Option.bind_eq_some_iff.mp hf
        refine g_callV (a := 0) (k2 := 0) (n2 := 0) (q := 87) (as := [.int a1, .long y10]) (st := []) (st1 := [.int r11.1]) tm_X8_store ml_X8_122 ti_X8_store rfl rfl dX8_dual_84 rfl (ev_X8_store e12) rfl rfl (Nat.le_of_ble_eq_true rfl) (by decide) rfl rfl (Or.inl (encM_len.trans encM_len.symm)) rfl ?_
        have hf := Option.some.inj hf
        subst hf
        exact g_ireturn dX8_dual_87 rfl ⟨rfl, rfl⟩
      · rw [if_pos c5] at hf
        refine g_bipush (q := 28) (v := (-3)) dX8_dual_26 rfl rfl ?_
        have hf := Option.some.inj hf
        subst hf
        exact g_ireturn dX8_dual_28 rfl ⟨rfl, rfl⟩
    · rw [if_pos c2] at hf
      refine g_bipush (q := 16) (v := (-2)) dX8_dual_14 rfl rfl ?_
      have hf := Option.some.inj hf
      subst hf
      exact g_ireturn dX8_dual_16 rfl ⟨rfl, rfl⟩
def f_X8_cofactor_L54 (w1 : Int32) (w2 : Int32) (w3 : Int32) (m_pt : Int32) (m_t : List Int64) (K : Int64 → Option (Int32 × Int32 × List Int64 × List Int32 × List Int32 × List Int64 × List Int32)) : Nat → Int64 → Int32 → Option (Int32 × Int32 × List Int64 × List Int32 × List Int32 × List Int64 × List Int32)
  | 0, _, _ => none
  | fu + 1, v5, v7 => (if m_pt ≤ v7 then K v5 else (tld m_t w1).bind fun r9 => (if (f_X8_at r9 ((v7 &&& (((1 : Int32) <<< (w2 &&& 31)) ^^^ (-1))) ||| (w3 <<< (w2 &&& 31)))) = 0 then f_X8_cofactor_L54 w1 w2 w3 m_pt m_t K fu (v5 ||| 0) (v7 + 1) else f_X8_cofactor_L54 w1 w2 w3 m_pt m_t K fu (v5 ||| (tlshl 1 v7)) (v7 + 1)))
def f_X8_cofactor (a0 : Int32) (a1 : Int32) (a2 : Int32) (a3 : Int32) (m_n : Int32) (m_pt : Int32) (m_rc : Int32) (m_t : List Int64) (m_f : List Int32) (m_rs : List Int32) (m_rt : List Int64) (m_rf : List Int32) : Option (Int32 × Int32 × List Int64 × List Int32 × List Int32 × List Int64 × List Int32) := (if (f_X8_isSlot a0) = 0 then some ((-2), m_rc, m_t, m_f, m_rs, m_rt, m_rf) else (if (f_X8_isVariable a1 m_n) = 0 then some ((-2), m_rc, m_t, m_f, m_rs, m_rt, m_rf) else (if (f_X8_isIn (Int32.toInt64 a2) 0 1) = 0 then some ((-2), m_rc, m_t, m_f, m_rs, m_rt, m_rf) else (if (f_X8_isSlot a3) = 0 then some ((-2), m_rc, m_t, m_f, m_rs, m_rt, m_rf) else (tld m_f a0).bind fun r5 => (if r5 = 0 then some ((-3), m_rc, m_t, m_f, m_rs, m_rt, m_rf) else f_X8_cofactor_L54 a0 a1 a2 m_pt m_t (fun y12 => (f_X8_store a3 y12 m_pt m_rc m_t m_f m_rs m_rt m_rf).bind fun r13 => some (r13.1, r13.2.1, r13.2.2.1, r13.2.2.2.1, r13.2.2.2.2.1, r13.2.2.2.2.2.1, r13.2.2.2.2.2.2)) tFU 0 0)))))
set_option maxRecDepth 20000 in
set_option maxHeartbeats 4000000 in
theorem ev_X8_cofactor_L54 {l : Launch} {E : tEn}   {m_n : Int32} {m_pt : Int32} {m_rc : Int32} {m_sa : Int64} {m_sb : Int64} {m_sc : Int32} {m_is : Int32} {m_os : Int32} {m_vn : Int32} {m_vc : Int32} {m_va : Int64} {m_vb : Int64} {m_ve : Int32} {m_no : Int32} {m_pl : Int32} {m_fa : Int32} {m_oc : Int32} {m_fu : Int32} {m_ke : Int32} {m_t : List Int64} {m_f : List Int32} {m_rs : List Int32} {m_rt : List Int64} {m_rf : List Int32} {m_st : List Int32} {m_ib : List Int32} {m_ob : List Int32} {m_al : List Int32} {m_el : List Int32} {m_vt : List Int64} {m_vf : List Int32} {m_vs : List Int32} {m_nr : List Int32} {m_ty : List Int32} {m_pa : List Int32} {m_fn : List Int64} {m_md : List Int64} {m_ms : List Int32} {m_mr : List Int32} {w1 : Int32} {w2 : Int32} {w3 : Int32} {w4 : Int32} {K : Int64 → Option (Int32 × Int32 × List Int64 × List Int32 × List Int32 × List Int64 × List Int32)} (hK : ∀ (v5 : Int64)  (res : Int32 × Int32 × List Int64 × List Int32 × List Int32 × List Int64 × List Int32), K v5 = some res → tG l E RX8 cX8_cofactor 8 (some .int) false 4 (fun r h' => r = some (.int res.1) ∧ h' = encM m_n m_pt (res.2.1) m_sa m_sb m_sc m_is m_os m_vn m_vc m_va m_vb m_ve m_no m_pl m_fa m_oc m_fu m_ke (res.2.2.1) (res.2.2.2.1) (res.2.2.2.2.1) (res.2.2.2.2.2.1) (res.2.2.2.2.2.2) m_st m_ib m_ob m_al m_el m_vt m_vf m_vs m_nr m_ty m_pa m_fn m_md m_ms m_mr) 0 0 106 [(0, .ref 0), (4, .int w4), (5, .long v5)] [] (encM m_n m_pt m_rc m_sa m_sb m_sc m_is m_os m_vn m_vc m_va m_vb m_ve m_no m_pl m_fa m_oc m_fu m_ke m_t m_f m_rs m_rt m_rf m_st m_ib m_ob m_al m_el m_vt m_vf m_vs m_nr m_ty m_pa m_fn m_md m_ms m_mr)) :
    ∀ (fu : Nat) (v5 : Int64) (v7 : Int32) (res : Int32 × Int32 × List Int64 × List Int32 × List Int32 × List Int64 × List Int32), f_X8_cofactor_L54 w1 w2 w3 m_pt m_t K fu v5 v7 = some res → tG l E RX8 cX8_cofactor 8 (some .int) false 4 (fun r h' => r = some (.int res.1) ∧ h' = encM m_n m_pt (res.2.1) m_sa m_sb m_sc m_is m_os m_vn m_vc m_va m_vb m_ve m_no m_pl m_fa m_oc m_fu m_ke (res.2.2.1) (res.2.2.2.1) (res.2.2.2.2.1) (res.2.2.2.2.2.1) (res.2.2.2.2.2.2) m_st m_ib m_ob m_al m_el m_vt m_vf m_vs m_nr m_ty m_pa m_fn m_md m_ms m_mr) 0 0 54 [(0, .ref 0), (1, .int w1), (2, .int w2), (3, .int w3), (4, .int w4), (5, .long v5), (7, .int v7)] [] (encM m_n m_pt m_rc m_sa m_sb m_sc m_is m_os m_vn m_vc m_va m_vb m_ve m_no m_pl m_fa m_oc m_fu m_ke m_t m_f m_rs m_rt m_rf m_st m_ib m_ob m_al m_el m_vt m_vf m_vs m_nr m_ty m_pa m_fn m_md m_ms m_mr) := by
  intro fu
  induction fu with
  | zero => intro v5 v7 res hf; exact nomatch (show none = some res from hf)
  | succ fu ih =>
    intro v5 v7 res hf
    rw [f_X8_cofactor_L54] at hf
    refine g_iload 6 (q := 56) dX8_cofactor_54 rfl rfl ?_
    refine g_aload_n 0 (q := 57) dX8_cofactor_56 rfl rfl ?_
    refine g_get (q := 60) fl_X8_13 dX8_cofactor_57 rfl rfl rfl ?_
    refine g_icmp_ge (t := 106) (q := 63) dX8_cofactor_60 (by decide) rfl (fun c8 => ?_) (fun c8 => ?_)
    · rw [if_pos c8] at hf
      refine g_ls [0, 4, 5] rfl ?_
      exact hK _ _ hf
    · rw [if_neg c8] at hf
      refine g_lload 5 (q := 65) dX8_cofactor_63 rfl rfl ?_
      refine g_aload_n 0 (q := 66) dX8_cofactor_65 rfl rfl ?_
      refine g_get (q := 69) fl_X8_16 dX8_cofactor_66 rfl rfl rfl ?_
      refine g_iload_n 1 (q := 70) dX8_cofactor_69 rfl rfl ?_
      obtain ⟨r9, e10, hf⟩ := Option.bind_eq_some_iff.mp hf
      refine g_laload (q := 71) dX8_cofactor_70 rfl rfl e10 ?_
      refine g_iload 6 (q := 73) dX8_cofactor_71 rfl rfl ?_
      refine g_iconst (q := 74) (v := 1) dX8_cofactor_73 rfl rfl ?_
      refine g_iload_n 2 (q := 75) dX8_cofactor_74 rfl rfl ?_
      refine g_ishl (q := 76) dX8_cofactor_75 rfl ?_
      refine g_iconst (q := 77) (v := (-1)) dX8_cofactor_76 rfl rfl ?_
      refine g_ixor (q := 78) dX8_cofactor_77 rfl ?_
      refine g_iand (q := 79) dX8_cofactor_78 rfl ?_
      refine g_iload_n 3 (q := 80) dX8_cofactor_79 rfl rfl ?_
      refine g_iload_n 2 (q := 81) dX8_cofactor_80 rfl rfl ?_
      refine g_ishl (q := 82) dX8_cofactor_81 rfl ?_
      refine g_ior (q := 83) dX8_cofactor_82 rfl ?_
      refine g_callS (k2 := 0) (n2 := 0) (q := 86) (as := [.long r9, .int ((v7 &&& (((1 : Int32) <<< (w2 &&& 31)) ^^^ (-1))) ||| (w3 <<< (w2 &&& 31)))]) (st := [.long v5]) (st1 := [.int (f_X8_at r9 ((v7 &&& (((1 : Int32) <<< (w2 &&& 31)) ^^^ (-1))) ||| (w3 <<< (w2 &&& 31)))), .long v5]) tm_X8_at ml_X8_91 ts_X8_at dX8_cofactor_83 rfl ev_X8_at rfl rfl (Nat.le_of_ble_eq_true rfl) (by decide) rfl rfl (Or.inl rfl) rfl ?_
      refine g_if_eq (t := 96) (q := 89) dX8_cofactor_86 (by decide) rfl (fun c11 => ?_) (fun c11 => ?_)
      · rw [if_pos c11] at hf
        refine g_lconst (q := 97) (v := 0) dX8_cofactor_96 rfl rfl ?_
        refine g_lor (q := 98) dX8_cofactor_97 rfl ?_
        refine g_lstore (q := 100) (L' := [(0, .ref 0), (1, .int w1), (2, .int w2), (3, .int w3), (4, .int w4), (5, .long (v5 ||| 0)), (7, .int v7)]) dX8_cofactor_98 rfl (by decide) rfl ?_
        refine g_iinc 6 (q := 103) (v := (v7 + 1)) (L' := [(0, .ref 0), (1, .int w1), (2, .int w2), (3, .int w3), (4, .int w4), (5, .long (v5 ||| 0)), (7, .int (v7 + 1))]) dX8_cofactor_100 rfl rfl rfl (by decide) rfl ?_
        refine g_goto (t := 54) dX8_cofactor_103 (by decide) ?_
        refine g_ls [0, 1, 2, 3, 4, 5, 6] rfl ?_
        exact ih _ _ _ hf
      · rw [if_neg c11] at hf
        refine g_lconst (q := 90) (v := 1) dX8_cofactor_89 rfl rfl ?_
        refine g_iload 6 (q := 92) dX8_cofactor_90 rfl rfl ?_
        refine g_lshl (q := 93) dX8_cofactor_92 rfl ?_
        refine g_goto (t := 97) dX8_cofactor_93 (by decide) ?_
        refine g_lor (q := 98) dX8_cofactor_97 rfl ?_
        refine g_lstore (q := 100) (L' := [(0, .ref 0), (1, .int w1), (2, .int w2), (3, .int w3), (4, .int w4), (5, .long (v5 ||| (tlshl 1 v7))), (7, .int v7)]) dX8_cofactor_98 rfl (by decide) rfl ?_
        refine g_iinc 6 (q := 103) (v := (v7 + 1)) (L' := [(0, .ref 0), (1, .int w1), (2, .int w2), (3, .int w3), (4, .int w4), (5, .long (v5 ||| (tlshl 1 v7))), (7, .int (v7 + 1))]) dX8_cofactor_100 rfl rfl rfl (by decide) rfl ?_
        refine g_goto (t := 54) dX8_cofactor_103 (by decide) ?_
        refine g_ls [0, 1, 2, 3, 4, 5, 6] rfl ?_
        exact ih _ _ _ hf
set_option maxRecDepth 20000 in
set_option maxHeartbeats 4000000 in
theorem ev_X8_cofactor {l : Launch} {E : tEn}  {m_n : Int32} {m_pt : Int32} {m_rc : Int32} {m_sa : Int64} {m_sb : Int64} {m_sc : Int32} {m_is : Int32} {m_os : Int32} {m_vn : Int32} {m_vc : Int32} {m_va : Int64} {m_vb : Int64} {m_ve : Int32} {m_no : Int32} {m_pl : Int32} {m_fa : Int32} {m_oc : Int32} {m_fu : Int32} {m_ke : Int32} {m_t : List Int64} {m_f : List Int32} {m_rs : List Int32} {m_rt : List Int64} {m_rf : List Int32} {m_st : List Int32} {m_ib : List Int32} {m_ob : List Int32} {m_al : List Int32} {m_el : List Int32} {m_vt : List Int64} {m_vf : List Int32} {m_vs : List Int32} {m_nr : List Int32} {m_ty : List Int32} {m_pa : List Int32} {m_fn : List Int64} {m_md : List Int64} {m_ms : List Int32} {m_mr : List Int32} {a0 : Int32} {a1 : Int32} {a2 : Int32} {a3 : Int32} {res : Int32 × Int32 × List Int64 × List Int32 × List Int32 × List Int64 × List Int32} (hf : f_X8_cofactor a0 a1 a2 a3 m_n m_pt m_rc m_t m_f m_rs m_rt m_rf = some res) : tEv l E yX8_cofactor cX8_cofactor 8 (some .int) 4 0 0 [.ref 0, .int a0, .int a1, .int a2, .int a3] (encM m_n m_pt m_rc m_sa m_sb m_sc m_is m_os m_vn m_vc m_va m_vb m_ve m_no m_pl m_fa m_oc m_fu m_ke m_t m_f m_rs m_rt m_rf m_st m_ib m_ob m_al m_el m_vt m_vf m_vs m_nr m_ty m_pa m_fn m_md m_ms m_mr) (fun r h' => r = some (.int res.1) ∧ h' = encM m_n m_pt (res.2.1) m_sa m_sb m_sc m_is m_os m_vn m_vc m_va m_vb m_ve m_no m_pl m_fa m_oc m_fu m_ke (res.2.2.1) (res.2.2.2.1) (res.2.2.2.2.1) (res.2.2.2.2.2.1) (res.2.2.2.2.2.2) m_st m_ib m_ob m_al m_el m_vt m_vf m_vs m_nr m_ty m_pa m_fn m_md m_ms m_mr) := by
  refine tEv.of (own := RX8) (ini := false) (L := [(0, .ref 0), (1, .int a0), (2, .int a1), (3, .int a2), (4, .int a3)]) (by decide +kernel) rfl (fun h9 => nomatch h9) rfl (Nat.le_of_ble_eq_true rfl) ?_
  rw [f_X8_cofactor] at hf
  refine g_iload_n 1 (q := 1) dX8_cofactor_0 rfl rfl ?_
  refine g_callS (k2 := 0) (n2 := 0) (q := 4) (as := [.int a0]) (st := []) (st1 := [.int (f_X8_isSlot a0)]) tm_X8_isSlot ml_X8_118 ts_X8_isSlot dX8_cofactor_1 rfl ev_X8_isSlot rfl rfl (Nat.le_of_ble_eq_true rfl) (by decide) rfl rfl (Or.inl rfl) rfl ?_
  refine g_if_eq (t := 33) (q := 7) dX8_cofactor_4 (by decide) rfl (fun c1 => ?_) (fun c1 => ?_)
  · rw [if_pos c1] at hf
    refine g_bipush (q := 35) (v := (-2)) dX8_cofactor_33 rfl rfl ?_
    have hf := Option.some.inj hf
    subst hf
    exact g_ireturn dX8_cofactor_35 rfl ⟨rfl, rfl⟩
  · rw [if_neg c1] at hf
    refine g_aload_n 0 (q := 8) dX8_cofactor_7 rfl rfl ?_
    refine g_iload_n 2 (q := 9) dX8_cofactor_8 rfl rfl ?_
    refine g_callV (a := 0) (k2 := 0) (n2 := 0) (q := 12) (as := [.int a1]) (st := []) (st1 := [.int (f_X8_isVariable a1 m_n)]) tm_X8_isVariable ml_X8_163 ti_X8_isVariable rfl rfl dX8_cofactor_9 rfl ev_X8_isVariable rfl rfl (Nat.le_of_ble_eq_true rfl) (by decide) rfl rfl (Or.inl rfl) rfl ?_
    refine g_if_eq (t := 33) (q := 15) dX8_cofactor_12 (by decide) rfl (fun c2 => ?_) (fun c2 => ?_)
    · rw [if_pos c2] at hf
      refine g_bipush (q := 35) (v := (-2)) dX8_cofactor_33 rfl rfl ?_
      have hf := Option.some.inj hf
      subst hf
      exact g_ireturn dX8_cofactor_35 rfl ⟨rfl, rfl⟩
    · rw [if_neg c2] at hf
      refine g_iload_n 3 (q := 16) dX8_cofactor_15 rfl rfl ?_
      refine g_i2l (q := 17) dX8_cofactor_16 rfl ?_
      refine g_lconst (q := 18) (v := 0) dX8_cofactor_17 rfl rfl ?_
      refine g_lconst (q := 19) (v := 1) dX8_cofactor_18 rfl rfl ?_
      refine g_callS (k2 := 0) (n2 := 0) (q := 22) (as := [.long (Int32.toInt64 a2), .long 0, .long 1]) (st := []) (st1 := [.int (f_X8_isIn (Int32.toInt64 a2) 0 1)]) tm_X8_isIn ml_X8_87 ts_X8_isIn dX8_cofactor_19 rfl ev_X8_isIn rfl rfl (Nat.le_of_ble_eq_true rfl) (by decide) rfl rfl (Or.inl rfl) rfl ?_
      refine g_if_eq (t := 33) (q := 25) dX8_cofactor_22 (by decide) rfl (fun c3 => ?_) (fun c3 => ?_)
      · rw [if_pos c3] at hf
        refine g_bipush (q := 35) (v := (-2)) dX8_cofactor_33 rfl rfl ?_
        have hf := Option.some.inj hf
        subst hf
        exact g_ireturn dX8_cofactor_35 rfl ⟨rfl, rfl⟩
      · rw [if_neg c3] at hf
        refine g_iload 4 (q := 27) dX8_cofactor_25 rfl rfl ?_
        refine g_callS (k2 := 0) (n2 := 0) (q := 30) (as := [.int a3]) (st := []) (st1 := [.int (f_X8_isSlot a3)]) tm_X8_isSlot ml_X8_118 ts_X8_isSlot dX8_cofactor_27 rfl ev_X8_isSlot rfl rfl (Nat.le_of_ble_eq_true rfl) (by decide) rfl rfl (Or.inl rfl) rfl ?_
        refine g_if_ne (t := 36) (q := 33) dX8_cofactor_30 (by decide) rfl (fun c4 => ?_) (fun c4 => ?_)
        · rw [if_neg c4] at hf
          refine g_aload_n 0 (q := 37) dX8_cofactor_36 rfl rfl ?_
          refine g_get (q := 40) fl_X8_20 dX8_cofactor_37 rfl rfl rfl ?_
          refine g_iload_n 1 (q := 41) dX8_cofactor_40 rfl rfl ?_
          obtain ⟨r5, e6, hf⟩ := Option.bind_eq_some_iff.mp hf
          refine g_baload (q := 42) dX8_cofactor_41 rfl rfl e6 ?_
          refine g_if_ne (t := 48) (q := 45) dX8_cofactor_42 (by decide) rfl (fun c7 => ?_) (fun c7 => ?_)
          · rw [if_neg c7] at hf
            refine g_lconst (q := 49) (v := 0) dX8_cofactor_48 rfl rfl ?_
            refine g_lstore (q := 51) (L' := [(0, .ref 0), (1, .int a0), (2, .int a1), (3, .int a2), (4, .int a3), (5, .long 0)]) dX8_cofactor_49 rfl (by decide) rfl ?_
            refine g_iconst (q := 52) (v := 0) dX8_cofactor_51 rfl rfl ?_
            refine g_istore (q := 54) (L' := [(0, .ref 0), (1, .int a0), (2, .int a1), (3, .int a2), (4, .int a3), (5, .long 0), (7, .int 0)]) dX8_cofactor_52 rfl (by decide) rfl ?_
            refine g_ls [0, 1, 2, 3, 4, 5, 6] rfl ?_
            refine ev_X8_cofactor_L54 (fun y12 res hf => ?_) tFU _ _ res hf
            refine g_aload_n 0 (q := 107) dX8_cofactor_106 rfl rfl ?_
            refine g_iload 1 (q := 109) dX8_cofactor_107 rfl rfl ?_
            refine g_lload 2 (q := 111) dX8_cofactor_109 rfl rfl ?_
            obtain ⟨r13, e14, hf⟩ := Option.bind_eq_some_iff.mp hf
            refine g_callV (a := 0) (k2 := 0) (n2 := 0) (q := 114) (as := [.int a3, .long y12]) (st := []) (st1 := [.int r13.1]) tm_X8_store ml_X8_122 ti_X8_store rfl rfl dX8_cofactor_111 rfl (ev_X8_store e14) rfl rfl (Nat.le_of_ble_eq_true rfl) (by decide) rfl rfl (Or.inl (encM_len.trans encM_len.symm)) rfl ?_
            have hf := Option.some.inj hf
            subst hf
            exact g_ireturn dX8_cofactor_114 rfl ⟨rfl, rfl⟩
          · rw [if_pos c7] at hf
            refine g_bipush (q := 47) (v := (-3)) dX8_cofactor_45 rfl rfl ?_
            have hf := Option.some.inj hf
            subst hf
            exact g_ireturn dX8_cofactor_47 rfl ⟨rfl, rfl⟩
        · rw [if_pos c4] at hf
          refine g_bipush (q := 35) (v := (-2)) dX8_cofactor_33 rfl rfl ?_
          have hf := Option.some.inj hf
          subst hf
          exact g_ireturn dX8_cofactor_35 rfl ⟨rfl, rfl⟩
def f_X8_substitute_L60 (w1 : Int32) (w2 : Int32) (w3 : Int32) (m_pt : Int32) (m_t : List Int64) (K : Int64 → Option (Int32 × Int32 × List Int64 × List Int32 × List Int32 × List Int64 × List Int32)) : Nat → Int64 → Int32 → Option (Int32 × Int32 × List Int64 × List Int32 × List Int32 × List Int64 × List Int32)
  | 0, _, _ => none
  | fu + 1, v5, v7 => (if m_pt ≤ v7 then K v5 else (tld m_t w3).bind fun r12 => (if (f_X8_at r12 v7) = 0 then (tld m_t w1).bind fun r15 => (if (f_X8_at r15 ((v7 &&& (((1 : Int32) <<< (w2 &&& 31)) ^^^ (-1))) ||| 0)) = 0 then f_X8_substitute_L60 w1 w2 w3 m_pt m_t K fu (v5 ||| 0) (v7 + 1) else f_X8_substitute_L60 w1 w2 w3 m_pt m_t K fu (v5 ||| (tlshl 1 v7)) (v7 + 1)) else (tld m_t w1).bind fun r18 => (if (f_X8_at r18 ((v7 &&& (((1 : Int32) <<< (w2 &&& 31)) ^^^ (-1))) ||| ((1 : Int32) <<< (w2 &&& 31)))) = 0 then f_X8_substitute_L60 w1 w2 w3 m_pt m_t K fu (v5 ||| 0) (v7 + 1) else f_X8_substitute_L60 w1 w2 w3 m_pt m_t K fu (v5 ||| (tlshl 1 v7)) (v7 + 1))))
def f_X8_substitute (a0 : Int32) (a1 : Int32) (a2 : Int32) (a3 : Int32) (m_n : Int32) (m_pt : Int32) (m_rc : Int32) (m_t : List Int64) (m_f : List Int32) (m_rs : List Int32) (m_rt : List Int64) (m_rf : List Int32) : Option (Int32 × Int32 × List Int64 × List Int32 × List Int32 × List Int64 × List Int32) := (if (f_X8_isSlot a0) = 0 then some ((-2), m_rc, m_t, m_f, m_rs, m_rt, m_rf) else (if (f_X8_isVariable a1 m_n) = 0 then some ((-2), m_rc, m_t, m_f, m_rs, m_rt, m_rf) else (if (f_X8_isSlot a2) = 0 then some ((-2), m_rc, m_t, m_f, m_rs, m_rt, m_rf) else (if (f_X8_isSlot a3) = 0 then some ((-2), m_rc, m_t, m_f, m_rs, m_rt, m_rf) else (tld m_f a0).bind fun r5 => (if r5 = 0 then some ((-3), m_rc, m_t, m_f, m_rs, m_rt, m_rf) else (tld m_f a2).bind fun r8 => (if r8 = 0 then some ((-3), m_rc, m_t, m_f, m_rs, m_rt, m_rf) else f_X8_substitute_L60 a0 a1 a2 m_pt m_t (fun y21 => (f_X8_store a3 y21 m_pt m_rc m_t m_f m_rs m_rt m_rf).bind fun r22 => some (r22.1, r22.2.1, r22.2.2.1, r22.2.2.2.1, r22.2.2.2.2.1, r22.2.2.2.2.2.1, r22.2.2.2.2.2.2)) tFU 0 0))))))
set_option maxRecDepth 20000 in
set_option maxHeartbeats 4000000 in
theorem ev_X8_substitute_L60 {l : Launch} {E : tEn}   {m_n : Int32} {m_pt : Int32} {m_rc : Int32} {m_sa : Int64} {m_sb : Int64} {m_sc : Int32} {m_is : Int32} {m_os : Int32} {m_vn : Int32} {m_vc : Int32} {m_va : Int64} {m_vb : Int64} {m_ve : Int32} {m_no : Int32} {m_pl : Int32} {m_fa : Int32} {m_oc : Int32} {m_fu : Int32} {m_ke : Int32} {m_t : List Int64} {m_f : List Int32} {m_rs : List Int32} {m_rt : List Int64} {m_rf : List Int32} {m_st : List Int32} {m_ib : List Int32} {m_ob : List Int32} {m_al : List Int32} {m_el : List Int32} {m_vt : List Int64} {m_vf : List Int32} {m_vs : List Int32} {m_nr : List Int32} {m_ty : List Int32} {m_pa : List Int32} {m_fn : List Int64} {m_md : List Int64} {m_ms : List Int32} {m_mr : List Int32} {w1 : Int32} {w2 : Int32} {w3 : Int32} {w4 : Int32} {K : Int64 → Option (Int32 × Int32 × List Int64 × List Int32 × List Int32 × List Int64 × List Int32)} (hK : ∀ (v5 : Int64)  (res : Int32 × Int32 × List Int64 × List Int32 × List Int32 × List Int64 × List Int32), K v5 = some res → tG l E RX8 cX8_substitute 9 (some .int) false 4 (fun r h' => r = some (.int res.1) ∧ h' = encM m_n m_pt (res.2.1) m_sa m_sb m_sc m_is m_os m_vn m_vc m_va m_vb m_ve m_no m_pl m_fa m_oc m_fu m_ke (res.2.2.1) (res.2.2.2.1) (res.2.2.2.2.1) (res.2.2.2.2.2.1) (res.2.2.2.2.2.2) m_st m_ib m_ob m_al m_el m_vt m_vf m_vs m_nr m_ty m_pa m_fn m_md m_ms m_mr) 0 0 134 [(0, .ref 0), (4, .int w4), (5, .long v5)] [] (encM m_n m_pt m_rc m_sa m_sb m_sc m_is m_os m_vn m_vc m_va m_vb m_ve m_no m_pl m_fa m_oc m_fu m_ke m_t m_f m_rs m_rt m_rf m_st m_ib m_ob m_al m_el m_vt m_vf m_vs m_nr m_ty m_pa m_fn m_md m_ms m_mr)) :
    ∀ (fu : Nat) (v5 : Int64) (v7 : Int32) (res : Int32 × Int32 × List Int64 × List Int32 × List Int32 × List Int64 × List Int32), f_X8_substitute_L60 w1 w2 w3 m_pt m_t K fu v5 v7 = some res → tG l E RX8 cX8_substitute 9 (some .int) false 4 (fun r h' => r = some (.int res.1) ∧ h' = encM m_n m_pt (res.2.1) m_sa m_sb m_sc m_is m_os m_vn m_vc m_va m_vb m_ve m_no m_pl m_fa m_oc m_fu m_ke (res.2.2.1) (res.2.2.2.1) (res.2.2.2.2.1) (res.2.2.2.2.2.1) (res.2.2.2.2.2.2) m_st m_ib m_ob m_al m_el m_vt m_vf m_vs m_nr m_ty m_pa m_fn m_md m_ms m_mr) 0 0 60 [(0, .ref 0), (1, .int w1), (2, .int w2), (3, .int w3), (4, .int w4), (5, .long v5), (7, .int v7)] [] (encM m_n m_pt m_rc m_sa m_sb m_sc m_is m_os m_vn m_vc m_va m_vb m_ve m_no m_pl m_fa m_oc m_fu m_ke m_t m_f m_rs m_rt m_rf m_st m_ib m_ob m_al m_el m_vt m_vf m_vs m_nr m_ty m_pa m_fn m_md m_ms m_mr) := by
  intro fu
  induction fu with
  | zero => intro v5 v7 res hf; exact nomatch (show none = some res from hf)
  | succ fu ih =>
    intro v5 v7 res hf
    rw [f_X8_substitute_L60] at hf
    refine g_iload 6 (q := 62) dX8_substitute_60 rfl rfl ?_
    refine g_aload_n 0 (q := 63) dX8_substitute_62 rfl rfl ?_
    refine g_get (q := 66) fl_X8_13 dX8_substitute_63 rfl rfl rfl ?_
    refine g_icmp_ge (t := 134) (q := 69) dX8_substitute_66 (by decide) rfl (fun c11 => ?_) (fun c11 => ?_)
    · rw [if_pos c11] at hf
      refine g_ls [0, 4, 5] rfl ?_
      exact hK _ _ hf
    · rw [if_neg c11] at hf
      refine g_iload 6 (q := 71) dX8_substitute_69 rfl rfl ?_
      refine g_iconst (q := 72) (v := 1) dX8_substitute_71 rfl rfl ?_
      refine g_iload_n 2 (q := 73) dX8_substitute_72 rfl rfl ?_
      refine g_ishl (q := 74) dX8_substitute_73 rfl ?_
      refine g_iconst (q := 75) (v := (-1)) dX8_substitute_74 rfl rfl ?_
      refine g_ixor (q := 76) dX8_substitute_75 rfl ?_
      refine g_iand (q := 77) dX8_substitute_76 rfl ?_
      refine g_aload_n 0 (q := 78) dX8_substitute_77 rfl rfl ?_
      refine g_get (q := 81) fl_X8_16 dX8_substitute_78 rfl rfl rfl ?_
      refine g_iload_n 3 (q := 82) dX8_substitute_81 rfl rfl ?_
      obtain ⟨r12, e13, hf⟩ := Option.bind_eq_some_iff.mp hf
      refine g_laload (q := 83) dX8_substitute_82 rfl rfl e13 ?_
      refine g_iload 6 (q := 85) dX8_substitute_83 rfl rfl ?_
      refine g_callS (k2 := 0) (n2 := 0) (q := 88) (as := [.long r12, .int v7]) (st := [.int (v7 &&& (((1 : Int32) <<< (w2 &&& 31)) ^^^ (-1)))]) (st1 := [.int (f_X8_at r12 v7), .int (v7 &&& (((1 : Int32) <<< (w2 &&& 31)) ^^^ (-1)))]) tm_X8_at ml_X8_91 ts_X8_at dX8_substitute_85 rfl ev_X8_at rfl rfl (Nat.le_of_ble_eq_true rfl) (by decide) rfl rfl (Or.inl rfl) rfl ?_
      refine g_if_eq (t := 97) (q := 91) dX8_substitute_88 (by decide) rfl (fun c14 => ?_) (fun c14 => ?_)
      · rw [if_pos c14] at hf
        refine g_iconst (q := 98) (v := 0) dX8_substitute_97 rfl rfl ?_
        refine g_ior (q := 99) dX8_substitute_98 rfl ?_
        refine g_istore (q := 101) (L' := [(0, .ref 0), (1, .int w1), (2, .int w2), (3, .int w3), (4, .int w4), (5, .long v5), (7, .int v7), (8, .int ((v7 &&& (((1 : Int32) <<< (w2 &&& 31)) ^^^ (-1))) ||| 0))]) dX8_substitute_99 rfl (by decide) rfl ?_
        refine g_lload 5 (q := 103) dX8_substitute_101 rfl rfl ?_
        refine g_aload_n 0 (q := 104) dX8_substitute_103 rfl rfl ?_
        refine g_get (q := 107) fl_X8_16 dX8_substitute_104 rfl rfl rfl ?_
        refine g_iload_n 1 (q := 108) dX8_substitute_107 rfl rfl ?_
        obtain ⟨r15, e16, hf⟩ := Option.bind_eq_some_iff.mp hf
        refine g_laload (q := 109) dX8_substitute_108 rfl rfl e16 ?_
        refine g_iload 7 (q := 111) dX8_substitute_109 rfl rfl ?_
        refine g_callS (k2 := 0) (n2 := 0) (q := 114) (as := [.long r15, .int ((v7 &&& (((1 : Int32) <<< (w2 &&& 31)) ^^^ (-1))) ||| 0)]) (st := [.long v5]) (st1 := [.int (f_X8_at r15 ((v7 &&& (((1 : Int32) <<< (w2 &&& 31)) ^^^ (-1))) ||| 0)), .long v5]) tm_X8_at ml_X8_91 ts_X8_at dX8_substitute_111 rfl ev_X8_at rfl rfl (Nat.le_of_ble_eq_true rfl) (by decide) rfl rfl (Or.inl rfl) rfl ?_
        refine g_if_eq (t := 124) (q := 117) dX8_substitute_114 (by decide) rfl (fun c17 => ?_) (fun c17 => ?_)
        · rw [if_pos c17] at hf
          refine g_lconst (q := 125) (v := 0) dX8_substitute_124 rfl rfl ?_
          refine g_lor (q := 126) dX8_substitute_125 rfl ?_
          refine g_lstore (q := 128) (L' := [(0, .ref 0), (1, .int w1), (2, .int w2), (3, .int w3), (4, .int w4), (5, .long (v5 ||| 0)), (7, .int v7), (8, .int ((v7 &&& (((1 : Int32) <<< (w2 &&& 31)) ^^^ (-1))) ||| 0))]) dX8_substitute_126 rfl (by decide) rfl ?_
          refine g_iinc 6 (q := 131) (v := (v7 + 1)) (L' := [(0, .ref 0), (1, .int w1), (2, .int w2), (3, .int w3), (4, .int w4), (5, .long (v5 ||| 0)), (7, .int (v7 + 1)), (8, .int ((v7 &&& (((1 : Int32) <<< (w2 &&& 31)) ^^^ (-1))) ||| 0))]) dX8_substitute_128 rfl rfl rfl (by decide) rfl ?_
          refine g_goto (t := 60) dX8_substitute_131 (by decide) ?_
          refine g_ls [0, 1, 2, 3, 4, 5, 6] rfl ?_
          exact ih _ _ _ hf
        · rw [if_neg c17] at hf
          refine g_lconst (q := 118) (v := 1) dX8_substitute_117 rfl rfl ?_
          refine g_iload 6 (q := 120) dX8_substitute_118 rfl rfl ?_
          refine g_lshl (q := 121) dX8_substitute_120 rfl ?_
          refine g_goto (t := 125) dX8_substitute_121 (by decide) ?_
          refine g_lor (q := 126) dX8_substitute_125 rfl ?_
          refine g_lstore (q := 128) (L' := [(0, .ref 0), (1, .int w1), (2, .int w2), (3, .int w3), (4, .int w4), (5, .long (v5 ||| (tlshl 1 v7))), (7, .int v7), (8, .int ((v7 &&& (((1 : Int32) <<< (w2 &&& 31)) ^^^ (-1))) ||| 0))]) dX8_substitute_126 rfl (by decide) rfl ?_
          refine g_iinc 6 (q := 131) (v := (v7 + 1)) (L' := [(0, .ref 0), (1, .int w1), (2, .int w2), (3, .int w3), (4, .int w4), (5, .long (v5 ||| (tlshl 1 v7))), (7, .int (v7 + 1)), (8, .int ((v7 &&& (((1 : Int32) <<< (w2 &&& 31)) ^^^ (-1))) ||| 0))]) dX8_substitute_128 rfl rfl rfl (by decide) rfl ?_
          refine g_goto (t := 60) dX8_substitute_131 (by decide) ?_
          refine g_ls [0, 1, 2, 3, 4, 5, 6] rfl ?_
          exact ih _ _ _ hf
      · rw [if_neg c14] at hf
        refine g_iconst (q := 92) (v := 1) dX8_substitute_91 rfl rfl ?_
        refine g_iload_n 2 (q := 93) dX8_substitute_92 rfl rfl ?_
        refine g_ishl (q := 94) dX8_substitute_93 rfl ?_
        refine g_goto (t := 98) dX8_substitute_94 (by decide) ?_
        refine g_ior (q := 99) dX8_substitute_98 rfl ?_
        refine g_istore (q := 101) (L' := [(0, .ref 0), (1, .int w1), (2, .int w2), (3, .int w3), (4, .int w4), (5, .long v5), (7, .int v7), (8, .int ((v7 &&& (((1 : Int32) <<< (w2 &&& 31)) ^^^ (-1))) ||| ((1 : Int32) <<< (w2 &&& 31))))]) dX8_substitute_99 rfl (by decide) rfl ?_
        refine g_lload 5 (q := 103) dX8_substitute_101 rfl rfl ?_
        refine g_aload_n 0 (q := 104) dX8_substitute_103 rfl rfl ?_
        refine g_get (q := 107) fl_X8_16 dX8_substitute_104 rfl rfl rfl ?_
        refine g_iload_n 1 (q := 108) dX8_substitute_107 rfl rfl ?_
        obtain ⟨r18, e19, hf⟩ := Option.bind_eq_some_iff.mp hf
        refine g_laload (q := 109) dX8_substitute_108 rfl rfl e19 ?_
        refine g_iload 7 (q := 111) dX8_substitute_109 rfl rfl ?_
        refine g_callS (k2 := 0) (n2 := 0) (q := 114) (as := [.long r18, .int ((v7 &&& (((1 : Int32) <<< (w2 &&& 31)) ^^^ (-1))) ||| ((1 : Int32) <<< (w2 &&& 31)))]) (st := [.long v5]) (st1 := [.int (f_X8_at r18 ((v7 &&& (((1 : Int32) <<< (w2 &&& 31)) ^^^ (-1))) ||| ((1 : Int32) <<< (w2 &&& 31)))), .long v5]) tm_X8_at ml_X8_91 ts_X8_at dX8_substitute_111 rfl ev_X8_at rfl rfl (Nat.le_of_ble_eq_true rfl) (by decide) rfl rfl (Or.inl rfl) rfl ?_
        refine g_if_eq (t := 124) (q := 117) dX8_substitute_114 (by decide) rfl (fun c20 => ?_) (fun c20 => ?_)
        · rw [if_pos c20] at hf
          refine g_lconst (q := 125) (v := 0) dX8_substitute_124 rfl rfl ?_
          refine g_lor (q := 126) dX8_substitute_125 rfl ?_
          refine g_lstore (q := 128) (L' := [(0, .ref 0), (1, .int w1), (2, .int w2), (3, .int w3), (4, .int w4), (5, .long (v5 ||| 0)), (7, .int v7), (8, .int ((v7 &&& (((1 : Int32) <<< (w2 &&& 31)) ^^^ (-1))) ||| ((1 : Int32) <<< (w2 &&& 31))))]) dX8_substitute_126 rfl (by decide) rfl ?_
          refine g_iinc 6 (q := 131) (v := (v7 + 1)) (L' := [(0, .ref 0), (1, .int w1), (2, .int w2), (3, .int w3), (4, .int w4), (5, .long (v5 ||| 0)), (7, .int (v7 + 1)), (8, .int ((v7 &&& (((1 : Int32) <<< (w2 &&& 31)) ^^^ (-1))) ||| ((1 : Int32) <<< (w2 &&& 31))))]) dX8_substitute_128 rfl rfl rfl (by decide) rfl ?_
          refine g_goto (t := 60) dX8_substitute_131 (by decide) ?_
          refine g_ls [0, 1, 2, 3, 4, 5, 6] rfl ?_
          exact ih _ _ _ hf
        · rw [if_neg c20] at hf
          refine g_lconst (q := 118) (v := 1) dX8_substitute_117 rfl rfl ?_
          refine g_iload 6 (q := 120) dX8_substitute_118 rfl rfl ?_
          refine g_lshl (q := 121) dX8_substitute_120 rfl ?_
          refine g_goto (t := 125) dX8_substitute_121 (by decide) ?_
          refine g_lor (q := 126) dX8_substitute_125 rfl ?_
          refine g_lstore (q := 128) (L' := [(0, .ref 0), (1, .int w1), (2, .int w2), (3, .int w3), (4, .int w4), (5, .long (v5 ||| (tlshl 1 v7))), (7, .int v7), (8, .int ((v7 &&& (((1 : Int32) <<< (w2 &&& 31)) ^^^ (-1))) ||| ((1 : Int32) <<< (w2 &&& 31))))]) dX8_substitute_126 rfl (by decide) rfl ?_
          refine g_iinc 6 (q := 131) (v := (v7 + 1)) (L' := [(0, .ref 0), (1, .int w1), (2, .int w2), (3, .int w3), (4, .int w4), (5, .long (v5 ||| (tlshl 1 v7))), (7, .int (v7 + 1)), (8, .int ((v7 &&& (((1 : Int32) <<< (w2 &&& 31)) ^^^ (-1))) ||| ((1 : Int32) <<< (w2 &&& 31))))]) dX8_substitute_128 rfl rfl rfl (by decide) rfl ?_
          refine g_goto (t := 60) dX8_substitute_131 (by decide) ?_
          refine g_ls [0, 1, 2, 3, 4, 5, 6] rfl ?_
          exact ih _ _ _ hf
set_option maxRecDepth 20000 in
set_option maxHeartbeats 4000000 in
theorem ev_X8_substitute {l : Launch} {E : tEn}  {m_n : Int32} {m_pt : Int32} {m_rc : Int32} {m_sa : Int64} {m_sb : Int64} {m_sc : Int32} {m_is : Int32} {m_os : Int32} {m_vn : Int32} {m_vc : Int32} {m_va : Int64} {m_vb : Int64} {m_ve : Int32} {m_no : Int32} {m_pl : Int32} {m_fa : Int32} {m_oc : Int32} {m_fu : Int32} {m_ke : Int32} {m_t : List Int64} {m_f : List Int32} {m_rs : List Int32} {m_rt : List Int64} {m_rf : List Int32} {m_st : List Int32} {m_ib : List Int32} {m_ob : List Int32} {m_al : List Int32} {m_el : List Int32} {m_vt : List Int64} {m_vf : List Int32} {m_vs : List Int32} {m_nr : List Int32} {m_ty : List Int32} {m_pa : List Int32} {m_fn : List Int64} {m_md : List Int64} {m_ms : List Int32} {m_mr : List Int32} {a0 : Int32} {a1 : Int32} {a2 : Int32} {a3 : Int32} {res : Int32 × Int32 × List Int64 × List Int32 × List Int32 × List Int64 × List Int32} (hf : f_X8_substitute a0 a1 a2 a3 m_n m_pt m_rc m_t m_f m_rs m_rt m_rf = some res) : tEv l E yX8_substitute cX8_substitute 9 (some .int) 4 0 0 [.ref 0, .int a0, .int a1, .int a2, .int a3] (encM m_n m_pt m_rc m_sa m_sb m_sc m_is m_os m_vn m_vc m_va m_vb m_ve m_no m_pl m_fa m_oc m_fu m_ke m_t m_f m_rs m_rt m_rf m_st m_ib m_ob m_al m_el m_vt m_vf m_vs m_nr m_ty m_pa m_fn m_md m_ms m_mr) (fun r h' => r = some (.int res.1) ∧ h' = encM m_n m_pt (res.2.1) m_sa m_sb m_sc m_is m_os m_vn m_vc m_va m_vb m_ve m_no m_pl m_fa m_oc m_fu m_ke (res.2.2.1) (res.2.2.2.1) (res.2.2.2.2.1) (res.2.2.2.2.2.1) (res.2.2.2.2.2.2) m_st m_ib m_ob m_al m_el m_vt m_vf m_vs m_nr m_ty m_pa m_fn m_md m_ms m_mr) := by
  refine tEv.of (own := RX8) (ini := false) (L := [(0, .ref 0), (1, .int a0), (2, .int a1), (3, .int a2), (4, .int a3)]) (by decide +kernel) rfl (fun h9 => nomatch h9) rfl (Nat.le_of_ble_eq_true rfl) ?_
  rw [f_X8_substitute] at hf
  refine g_iload_n 1 (q := 1) dX8_substitute_0 rfl rfl ?_
  refine g_callS (k2 := 0) (n2 := 0) (q := 4) (as := [.int a0]) (st := []) (st1 := [.int (f_X8_isSlot a0)]) tm_X8_isSlot ml_X8_118 ts_X8_isSlot dX8_substitute_1 rfl ev_X8_isSlot rfl rfl (Nat.le_of_ble_eq_true rfl) (by decide) rfl rfl (Or.inl rfl) rfl ?_
  refine g_if_eq (t := 30) (q := 7) dX8_substitute_4 (by decide) rfl (fun c1 => ?_) (fun c1 => ?_)
  · rw [if_pos c1] at hf
    refine g_bipush (q := 32) (v := (-2)) dX8_substitute_30 rfl rfl ?_
    have hf := Option.some.inj hf
    subst hf
    exact g_ireturn dX8_substitute_32 rfl ⟨rfl, rfl⟩
  · rw [if_neg c1] at hf
    refine g_aload_n 0 (q := 8) dX8_substitute_7 rfl rfl ?_
    refine g_iload_n 2 (q := 9) dX8_substitute_8 rfl rfl ?_
    refine g_callV (a := 0) (k2 := 0) (n2 := 0) (q := 12) (as := [.int a1]) (st := []) (st1 := [.int (f_X8_isVariable a1 m_n)]) tm_X8_isVariable ml_X8_163 ti_X8_isVariable rfl rfl dX8_substitute_9 rfl ev_X8_isVariable rfl rfl (Nat.le_of_ble_eq_true rfl) (by decide) rfl rfl (Or.inl rfl) rfl ?_
    refine g_if_eq (t := 30) (q := 15) dX8_substitute_12 (by decide) rfl (fun c2 => ?_) (fun c2 => ?_)
    · rw [if_pos c2] at hf
      refine g_bipush (q := 32) (v := (-2)) dX8_substitute_30 rfl rfl ?_
      have hf := Option.some.inj hf
      subst hf
      exact g_ireturn dX8_substitute_32 rfl ⟨rfl, rfl⟩
    · rw [if_neg c2] at hf
      refine g_iload_n 3 (q := 16) dX8_substitute_15 rfl rfl ?_
      refine g_callS (k2 := 0) (n2 := 0) (q := 19) (as := [.int a2]) (st := []) (st1 := [.int (f_X8_isSlot a2)]) tm_X8_isSlot ml_X8_118 ts_X8_isSlot dX8_substitute_16 rfl ev_X8_isSlot rfl rfl (Nat.le_of_ble_eq_true rfl) (by decide) rfl rfl (Or.inl rfl) rfl ?_
      refine g_if_eq (t := 30) (q := 22) dX8_substitute_19 (by decide) rfl (fun c3 => ?_) (fun c3 => ?_)
      · rw [if_pos c3] at hf
        refine g_bipush (q := 32) (v := (-2)) dX8_substitute_30 rfl rfl ?_
        have hf := Option.some.inj hf
        subst hf
        exact g_ireturn dX8_substitute_32 rfl ⟨rfl, rfl⟩
      · rw [if_neg c3] at hf
        refine g_iload 4 (q := 24) dX8_substitute_22 rfl rfl ?_
        refine g_callS (k2 := 0) (n2 := 0) (q := 27) (as := [.int a3]) (st := []) (st1 := [.int (f_X8_isSlot a3)]) tm_X8_isSlot ml_X8_118 ts_X8_isSlot dX8_substitute_24 rfl ev_X8_isSlot rfl rfl (Nat.le_of_ble_eq_true rfl) (by decide) rfl rfl (Or.inl rfl) rfl ?_
        refine g_if_ne (t := 33) (q := 30) dX8_substitute_27 (by decide) rfl (fun c4 => ?_) (fun c4 => ?_)
        · rw [if_neg c4] at hf
          refine g_aload_n 0 (q := 34) dX8_substitute_33 rfl rfl ?_
          refine g_get (q := 37) fl_X8_20 dX8_substitute_34 rfl rfl rfl ?_
          refine g_iload_n 1 (q := 38) dX8_substitute_37 rfl rfl ?_
          obtain ⟨r5, e6, hf⟩ := Option.bind_eq_some_iff.mp hf
          refine g_baload (q := 39) dX8_substitute_38 rfl rfl e6 ?_
          refine g_if_eq (t := 51) (q := 42) dX8_substitute_39 (by decide) rfl (fun c7 => ?_) (fun c7 => ?_)
          · rw [if_pos c7] at hf
            refine g_bipush (q := 53) (v := (-3)) dX8_substitute_51 rfl rfl ?_
            have hf := Option.some.inj hf
            subst hf
            exact g_ireturn dX8_substitute_53 rfl ⟨rfl, rfl⟩
          · rw [if_neg c7] at hf
            refine g_aload_n 0 (q := 43) dX8_substitute_42 rfl rfl ?_
            refine g_get (q := 46) fl_X8_20 dX8_substitute_43 rfl rfl rfl ?_
            refine g_iload_n 3 (q := 47) dX8_substitute_46 rfl rfl ?_
            obtain ⟨r8, e9, hf⟩ := Option.bind_eq_some_iff.mp hf
            refine g_baload (q := 48) dX8_substitute_47 rfl rfl e9 ?_
            refine g_if_ne (t := 54) (q := 51) dX8_substitute_48 (by decide) rfl (fun c10 => ?_) (fun c10 => ?_)
            · rw [if_neg c10] at hf
              refine g_lconst (q := 55) (v := 0) dX8_substitute_54 rfl rfl ?_
              refine g_lstore (q := 57) (L' := [(0, .ref 0), (1, .int a0), (2, .int a1), (3, .int a2), (4, .int a3), (5, .long 0)]) dX8_substitute_55 rfl (by decide) rfl ?_
              refine g_iconst (q := 58) (v := 0) dX8_substitute_57 rfl rfl ?_
              refine g_istore (q := 60) (L' := [(0, .ref 0), (1, .int a0), (2, .int a1), (3, .int a2), (4, .int a3), (5, .long 0), (7, .int 0)]) dX8_substitute_58 rfl (by decide) rfl ?_
              refine g_ls [0, 1, 2, 3, 4, 5, 6] rfl ?_
              refine ev_X8_substitute_L60 (fun y21 res hf => ?_) tFU _ _ res hf
              refine g_aload_n 0 (q := 135) dX8_substitute_134 rfl rfl ?_
              refine g_iload 1 (q := 137) dX8_substitute_135 rfl rfl ?_
              refine g_lload 2 (q := 139) dX8_substitute_137 rfl rfl ?_
              obtain ⟨r22, e23, hf⟩ := Option.bind_eq_some_iff.mp hf
              refine g_callV (a := 0) (k2 := 0) (n2 := 0) (q := 142) (as := [.int a3, .long y21]) (st := []) (st1 := [.int r22.1]) tm_X8_store ml_X8_122 ti_X8_store rfl rfl dX8_substitute_139 rfl (ev_X8_store e23) rfl rfl (Nat.le_of_ble_eq_true rfl) (by decide) rfl rfl (Or.inl (encM_len.trans encM_len.symm)) rfl ?_
              have hf := Option.some.inj hf
              subst hf
              exact g_ireturn dX8_substitute_142 rfl ⟨rfl, rfl⟩
            · rw [if_pos c10] at hf
              refine g_bipush (q := 53) (v := (-3)) dX8_substitute_51 rfl rfl ?_
              have hf := Option.some.inj hf
              subst hf
              exact g_ireturn dX8_substitute_53 rfl ⟨rfl, rfl⟩
        · rw [if_pos c4] at hf
          refine g_bipush (q := 32) (v := (-2)) dX8_substitute_30 rfl rfl ?_
          have hf := Option.some.inj hf
          subst hf
          exact g_ireturn dX8_substitute_32 rfl ⟨rfl, rfl⟩
def f_X8_exchange_L52 (w1 : Int32) (w2 : Int32) (w3 : Int32) (m_pt : Int32) (m_t : List Int64) (K : Int64 → Option (Int32 × Int32 × List Int64 × List Int32 × List Int32 × List Int64 × List Int32)) : Nat → Int64 → Int32 → Option (Int32 × Int32 × List Int64 × List Int32 × List Int32 × List Int64 × List Int32)
  | 0, _, _ => none
  | fu + 1, v5, v7 => (if m_pt ≤ v7 then K v5 else (tld m_t w1).bind fun r9 => (if (f_X8_at r9 ((((v7 &&& (((1 : Int32) <<< (w2 &&& 31)) ^^^ (-1))) &&& (((1 : Int32) <<< (w3 &&& 31)) ^^^ (-1))) ||| (((v7 >>> (w2 &&& 31)) &&& 1) <<< (w3 &&& 31))) ||| (((v7 >>> (w3 &&& 31)) &&& 1) <<< (w2 &&& 31)))) = 0 then f_X8_exchange_L52 w1 w2 w3 m_pt m_t K fu (v5 ||| 0) (v7 + 1) else f_X8_exchange_L52 w1 w2 w3 m_pt m_t K fu (v5 ||| (tlshl 1 v7)) (v7 + 1)))
def f_X8_exchange (a0 : Int32) (a1 : Int32) (a2 : Int32) (a3 : Int32) (m_n : Int32) (m_pt : Int32) (m_rc : Int32) (m_t : List Int64) (m_f : List Int32) (m_rs : List Int32) (m_rt : List Int64) (m_rf : List Int32) : Option (Int32 × Int32 × List Int64 × List Int32 × List Int32 × List Int64 × List Int32) := (if (f_X8_isSlot a0) = 0 then some ((-2), m_rc, m_t, m_f, m_rs, m_rt, m_rf) else (if (f_X8_isVariable a1 m_n) = 0 then some ((-2), m_rc, m_t, m_f, m_rs, m_rt, m_rf) else (if (f_X8_isVariable a2 m_n) = 0 then some ((-2), m_rc, m_t, m_f, m_rs, m_rt, m_rf) else (if (f_X8_isSlot a3) = 0 then some ((-2), m_rc, m_t, m_f, m_rs, m_rt, m_rf) else (tld m_f a0).bind fun r5 => (if r5 = 0 then some ((-3), m_rc, m_t, m_f, m_rs, m_rt, m_rf) else f_X8_exchange_L52 a0 a1 a2 m_pt m_t (fun y12 => (f_X8_store a3 y12 m_pt m_rc m_t m_f m_rs m_rt m_rf).bind fun r13 => some (r13.1, r13.2.1, r13.2.2.1, r13.2.2.2.1, r13.2.2.2.2.1, r13.2.2.2.2.2.1, r13.2.2.2.2.2.2)) tFU 0 0)))))
set_option maxRecDepth 20000 in
set_option maxHeartbeats 4000000 in
theorem ev_X8_exchange_L52 {l : Launch} {E : tEn}   {m_n : Int32} {m_pt : Int32} {m_rc : Int32} {m_sa : Int64} {m_sb : Int64} {m_sc : Int32} {m_is : Int32} {m_os : Int32} {m_vn : Int32} {m_vc : Int32} {m_va : Int64} {m_vb : Int64} {m_ve : Int32} {m_no : Int32} {m_pl : Int32} {m_fa : Int32} {m_oc : Int32} {m_fu : Int32} {m_ke : Int32} {m_t : List Int64} {m_f : List Int32} {m_rs : List Int32} {m_rt : List Int64} {m_rf : List Int32} {m_st : List Int32} {m_ib : List Int32} {m_ob : List Int32} {m_al : List Int32} {m_el : List Int32} {m_vt : List Int64} {m_vf : List Int32} {m_vs : List Int32} {m_nr : List Int32} {m_ty : List Int32} {m_pa : List Int32} {m_fn : List Int64} {m_md : List Int64} {m_ms : List Int32} {m_mr : List Int32} {w1 : Int32} {w2 : Int32} {w3 : Int32} {w4 : Int32} {K : Int64 → Option (Int32 × Int32 × List Int64 × List Int32 × List Int32 × List Int64 × List Int32)} (hK : ∀ (v5 : Int64)  (res : Int32 × Int32 × List Int64 × List Int32 × List Int32 × List Int64 × List Int32), K v5 = some res → tG l E RX8 cX8_exchange 9 (some .int) false 4 (fun r h' => r = some (.int res.1) ∧ h' = encM m_n m_pt (res.2.1) m_sa m_sb m_sc m_is m_os m_vn m_vc m_va m_vb m_ve m_no m_pl m_fa m_oc m_fu m_ke (res.2.2.1) (res.2.2.2.1) (res.2.2.2.2.1) (res.2.2.2.2.2.1) (res.2.2.2.2.2.2) m_st m_ib m_ob m_al m_el m_vt m_vf m_vs m_nr m_ty m_pa m_fn m_md m_ms m_mr) 0 0 128 [(0, .ref 0), (4, .int w4), (5, .long v5)] [] (encM m_n m_pt m_rc m_sa m_sb m_sc m_is m_os m_vn m_vc m_va m_vb m_ve m_no m_pl m_fa m_oc m_fu m_ke m_t m_f m_rs m_rt m_rf m_st m_ib m_ob m_al m_el m_vt m_vf m_vs m_nr m_ty m_pa m_fn m_md m_ms m_mr)) :
    ∀ (fu : Nat) (v5 : Int64) (v7 : Int32) (res : Int32 × Int32 × List Int64 × List Int32 × List Int32 × List Int64 × List Int32), f_X8_exchange_L52 w1 w2 w3 m_pt m_t K fu v5 v7 = some res → tG l E RX8 cX8_exchange 9 (some .int) false 4 (fun r h' => r = some (.int res.1) ∧ h' = encM m_n m_pt (res.2.1) m_sa m_sb m_sc m_is m_os m_vn m_vc m_va m_vb m_ve m_no m_pl m_fa m_oc m_fu m_ke (res.2.2.1) (res.2.2.2.1) (res.2.2.2.2.1) (res.2.2.2.2.2.1) (res.2.2.2.2.2.2) m_st m_ib m_ob m_al m_el m_vt m_vf m_vs m_nr m_ty m_pa m_fn m_md m_ms m_mr) 0 0 52 [(0, .ref 0), (1, .int w1), (2, .int w2), (3, .int w3), (4, .int w4), (5, .long v5), (7, .int v7)] [] (encM m_n m_pt m_rc m_sa m_sb m_sc m_is m_os m_vn m_vc m_va m_vb m_ve m_no m_pl m_fa m_oc m_fu m_ke m_t m_f m_rs m_rt m_rf m_st m_ib m_ob m_al m_el m_vt m_vf m_vs m_nr m_ty m_pa m_fn m_md m_ms m_mr) := by
  intro fu
  induction fu with
  | zero => intro v5 v7 res hf; exact nomatch (show none = some res from hf)
  | succ fu ih =>
    intro v5 v7 res hf
    rw [f_X8_exchange_L52] at hf
    refine g_iload 6 (q := 54) dX8_exchange_52 rfl rfl ?_
    refine g_aload_n 0 (q := 55) dX8_exchange_54 rfl rfl ?_
    refine g_get (q := 58) fl_X8_13 dX8_exchange_55 rfl rfl rfl ?_
    refine g_icmp_ge (t := 128) (q := 61) dX8_exchange_58 (by decide) rfl (fun c8 => ?_) (fun c8 => ?_)
    · rw [if_pos c8] at hf
      refine g_ls [0, 4, 5] rfl ?_
      exact hK _ _ hf
    · rw [if_neg c8] at hf
      refine g_iload 6 (q := 63) dX8_exchange_61 rfl rfl ?_
      refine g_iconst (q := 64) (v := 1) dX8_exchange_63 rfl rfl ?_
      refine g_iload_n 2 (q := 65) dX8_exchange_64 rfl rfl ?_
      refine g_ishl (q := 66) dX8_exchange_65 rfl ?_
      refine g_iconst (q := 67) (v := (-1)) dX8_exchange_66 rfl rfl ?_
      refine g_ixor (q := 68) dX8_exchange_67 rfl ?_
      refine g_iand (q := 69) dX8_exchange_68 rfl ?_
      refine g_iconst (q := 70) (v := 1) dX8_exchange_69 rfl rfl ?_
      refine g_iload_n 3 (q := 71) dX8_exchange_70 rfl rfl ?_
      refine g_ishl (q := 72) dX8_exchange_71 rfl ?_
      refine g_iconst (q := 73) (v := (-1)) dX8_exchange_72 rfl rfl ?_
      refine g_ixor (q := 74) dX8_exchange_73 rfl ?_
      refine g_iand (q := 75) dX8_exchange_74 rfl ?_
      refine g_iload 6 (q := 77) dX8_exchange_75 rfl rfl ?_
      refine g_iload_n 2 (q := 78) dX8_exchange_77 rfl rfl ?_
      refine g_ishr (q := 79) dX8_exchange_78 rfl ?_
      refine g_iconst (q := 80) (v := 1) dX8_exchange_79 rfl rfl ?_
      refine g_iand (q := 81) dX8_exchange_80 rfl ?_
      refine g_iload_n 3 (q := 82) dX8_exchange_81 rfl rfl ?_
      refine g_ishl (q := 83) dX8_exchange_82 rfl ?_
      refine g_ior (q := 84) dX8_exchange_83 rfl ?_
      refine g_iload 6 (q := 86) dX8_exchange_84 rfl rfl ?_
      refine g_iload_n 3 (q := 87) dX8_exchange_86 rfl rfl ?_
      refine g_ishr (q := 88) dX8_exchange_87 rfl ?_
      refine g_iconst (q := 89) (v := 1) dX8_exchange_88 rfl rfl ?_
      refine g_iand (q := 90) dX8_exchange_89 rfl ?_
      refine g_iload_n 2 (q := 91) dX8_exchange_90 rfl rfl ?_
      refine g_ishl (q := 92) dX8_exchange_91 rfl ?_
      refine g_ior (q := 93) dX8_exchange_92 rfl ?_
      refine g_istore (q := 95) (L' := [(0, .ref 0), (1, .int w1), (2, .int w2), (3, .int w3), (4, .int w4), (5, .long v5), (7, .int v7), (8, .int ((((v7 &&& (((1 : Int32) <<< (w2 &&& 31)) ^^^ (-1))) &&& (((1 : Int32) <<< (w3 &&& 31)) ^^^ (-1))) ||| (((v7 >>> (w2 &&& 31)) &&& 1) <<< (w3 &&& 31))) ||| (((v7 >>> (w3 &&& 31)) &&& 1) <<< (w2 &&& 31))))]) dX8_exchange_93 rfl (by decide) rfl ?_
      refine g_lload 5 (q := 97) dX8_exchange_95 rfl rfl ?_
      refine g_aload_n 0 (q := 98) dX8_exchange_97 rfl rfl ?_
      refine g_get (q := 101) fl_X8_16 dX8_exchange_98 rfl rfl rfl ?_
      refine g_iload_n 1 (q := 102) dX8_exchange_101 rfl rfl ?_
      obtain ⟨r9, e10, hf⟩ := Option.bind_eq_some_iff.mp hf
      refine g_laload (q := 103) dX8_exchange_102 rfl rfl e10 ?_
      refine g_iload 7 (q := 105) dX8_exchange_103 rfl rfl ?_
      refine g_callS (k2 := 0) (n2 := 0) (q := 108) (as := [.long r9, .int ((((v7 &&& (((1 : Int32) <<< (w2 &&& 31)) ^^^ (-1))) &&& (((1 : Int32) <<< (w3 &&& 31)) ^^^ (-1))) ||| (((v7 >>> (w2 &&& 31)) &&& 1) <<< (w3 &&& 31))) ||| (((v7 >>> (w3 &&& 31)) &&& 1) <<< (w2 &&& 31)))]) (st := [.long v5]) (st1 := [.int (f_X8_at r9 ((((v7 &&& (((1 : Int32) <<< (w2 &&& 31)) ^^^ (-1))) &&& (((1 : Int32) <<< (w3 &&& 31)) ^^^ (-1))) ||| (((v7 >>> (w2 &&& 31)) &&& 1) <<< (w3 &&& 31))) ||| (((v7 >>> (w3 &&& 31)) &&& 1) <<< (w2 &&& 31)))), .long v5]) tm_X8_at ml_X8_91 ts_X8_at dX8_exchange_105 rfl ev_X8_at rfl rfl (Nat.le_of_ble_eq_true rfl) (by decide) rfl rfl (Or.inl rfl) rfl ?_
      refine g_if_eq (t := 118) (q := 111) dX8_exchange_108 (by decide) rfl (fun c11 => ?_) (fun c11 => ?_)
      · rw [if_pos c11] at hf
        refine g_lconst (q := 119) (v := 0) dX8_exchange_118 rfl rfl ?_
        refine g_lor (q := 120) dX8_exchange_119 rfl ?_
        refine g_lstore (q := 122) (L' := [(0, .ref 0), (1, .int w1), (2, .int w2), (3, .int w3), (4, .int w4), (5, .long (v5 ||| 0)), (7, .int v7), (8, .int ((((v7 &&& (((1 : Int32) <<< (w2 &&& 31)) ^^^ (-1))) &&& (((1 : Int32) <<< (w3 &&& 31)) ^^^ (-1))) ||| (((v7 >>> (w2 &&& 31)) &&& 1) <<< (w3 &&& 31))) ||| (((v7 >>> (w3 &&& 31)) &&& 1) <<< (w2 &&& 31))))]) dX8_exchange_120 rfl (by decide) rfl ?_
        refine g_iinc 6 (q := 125) (v := (v7 + 1)) (L' := [(0, .ref 0), (1, .int w1), (2, .int w2), (3, .int w3), (4, .int w4), (5, .long (v5 ||| 0)), (7, .int (v7 + 1)), (8, .int ((((v7 &&& (((1 : Int32) <<< (w2 &&& 31)) ^^^ (-1))) &&& (((1 : Int32) <<< (w3 &&& 31)) ^^^ (-1))) ||| (((v7 >>> (w2 &&& 31)) &&& 1) <<< (w3 &&& 31))) ||| (((v7 >>> (w3 &&& 31)) &&& 1) <<< (w2 &&& 31))))]) dX8_exchange_122 rfl rfl rfl (by decide) rfl ?_
        refine g_goto (t := 52) dX8_exchange_125 (by decide) ?_
        refine g_ls [0, 1, 2, 3, 4, 5, 6] rfl ?_
        exact ih _ _ _ hf
      · rw [if_neg c11] at hf
        refine g_lconst (q := 112) (v := 1) dX8_exchange_111 rfl rfl ?_
        refine g_iload 6 (q := 114) dX8_exchange_112 rfl rfl ?_
        refine g_lshl (q := 115) dX8_exchange_114 rfl ?_
        refine g_goto (t := 119) dX8_exchange_115 (by decide) ?_
        refine g_lor (q := 120) dX8_exchange_119 rfl ?_
        refine g_lstore (q := 122) (L' := [(0, .ref 0), (1, .int w1), (2, .int w2), (3, .int w3), (4, .int w4), (5, .long (v5 ||| (tlshl 1 v7))), (7, .int v7), (8, .int ((((v7 &&& (((1 : Int32) <<< (w2 &&& 31)) ^^^ (-1))) &&& (((1 : Int32) <<< (w3 &&& 31)) ^^^ (-1))) ||| (((v7 >>> (w2 &&& 31)) &&& 1) <<< (w3 &&& 31))) ||| (((v7 >>> (w3 &&& 31)) &&& 1) <<< (w2 &&& 31))))]) dX8_exchange_120 rfl (by decide) rfl ?_
        refine g_iinc 6 (q := 125) (v := (v7 + 1)) (L' := [(0, .ref 0), (1, .int w1), (2, .int w2), (3, .int w3), (4, .int w4), (5, .long (v5 ||| (tlshl 1 v7))), (7, .int (v7 + 1)), (8, .int ((((v7 &&& (((1 : Int32) <<< (w2 &&& 31)) ^^^ (-1))) &&& (((1 : Int32) <<< (w3 &&& 31)) ^^^ (-1))) ||| (((v7 >>> (w2 &&& 31)) &&& 1) <<< (w3 &&& 31))) ||| (((v7 >>> (w3 &&& 31)) &&& 1) <<< (w2 &&& 31))))]) dX8_exchange_122 rfl rfl rfl (by decide) rfl ?_
        refine g_goto (t := 52) dX8_exchange_125 (by decide) ?_
        refine g_ls [0, 1, 2, 3, 4, 5, 6] rfl ?_
        exact ih _ _ _ hf
set_option maxRecDepth 20000 in
set_option maxHeartbeats 4000000 in
theorem ev_X8_exchange {l : Launch} {E : tEn}  {m_n : Int32} {m_pt : Int32} {m_rc : Int32} {m_sa : Int64} {m_sb : Int64} {m_sc : Int32} {m_is : Int32} {m_os : Int32} {m_vn : Int32} {m_vc : Int32} {m_va : Int64} {m_vb : Int64} {m_ve : Int32} {m_no : Int32} {m_pl : Int32} {m_fa : Int32} {m_oc : Int32} {m_fu : Int32} {m_ke : Int32} {m_t : List Int64} {m_f : List Int32} {m_rs : List Int32} {m_rt : List Int64} {m_rf : List Int32} {m_st : List Int32} {m_ib : List Int32} {m_ob : List Int32} {m_al : List Int32} {m_el : List Int32} {m_vt : List Int64} {m_vf : List Int32} {m_vs : List Int32} {m_nr : List Int32} {m_ty : List Int32} {m_pa : List Int32} {m_fn : List Int64} {m_md : List Int64} {m_ms : List Int32} {m_mr : List Int32} {a0 : Int32} {a1 : Int32} {a2 : Int32} {a3 : Int32} {res : Int32 × Int32 × List Int64 × List Int32 × List Int32 × List Int64 × List Int32} (hf : f_X8_exchange a0 a1 a2 a3 m_n m_pt m_rc m_t m_f m_rs m_rt m_rf = some res) : tEv l E yX8_exchange cX8_exchange 9 (some .int) 4 0 0 [.ref 0, .int a0, .int a1, .int a2, .int a3] (encM m_n m_pt m_rc m_sa m_sb m_sc m_is m_os m_vn m_vc m_va m_vb m_ve m_no m_pl m_fa m_oc m_fu m_ke m_t m_f m_rs m_rt m_rf m_st m_ib m_ob m_al m_el m_vt m_vf m_vs m_nr m_ty m_pa m_fn m_md m_ms m_mr) (fun r h' => r = some (.int res.1) ∧ h' = encM m_n m_pt (res.2.1) m_sa m_sb m_sc m_is m_os m_vn m_vc m_va m_vb m_ve m_no m_pl m_fa m_oc m_fu m_ke (res.2.2.1) (res.2.2.2.1) (res.2.2.2.2.1) (res.2.2.2.2.2.1) (res.2.2.2.2.2.2) m_st m_ib m_ob m_al m_el m_vt m_vf m_vs m_nr m_ty m_pa m_fn m_md m_ms m_mr) := by
  refine tEv.of (own := RX8) (ini := false) (L := [(0, .ref 0), (1, .int a0), (2, .int a1), (3, .int a2), (4, .int a3)]) (by decide +kernel) rfl (fun h9 => nomatch h9) rfl (Nat.le_of_ble_eq_true rfl) ?_
  rw [f_X8_exchange] at hf
  refine g_iload_n 1 (q := 1) dX8_exchange_0 rfl rfl ?_
  refine g_callS (k2 := 0) (n2 := 0) (q := 4) (as := [.int a0]) (st := []) (st1 := [.int (f_X8_isSlot a0)]) tm_X8_isSlot ml_X8_118 ts_X8_isSlot dX8_exchange_1 rfl ev_X8_isSlot rfl rfl (Nat.le_of_ble_eq_true rfl) (by decide) rfl rfl (Or.inl rfl) rfl ?_
  refine g_if_eq (t := 31) (q := 7) dX8_exchange_4 (by decide) rfl (fun c1 => ?_) (fun c1 => ?_)
  · rw [if_pos c1] at hf
    refine g_bipush (q := 33) (v := (-2)) dX8_exchange_31 rfl rfl ?_
    have hf := Option.some.inj hf
    subst hf
    exact g_ireturn dX8_exchange_33 rfl ⟨rfl, rfl⟩
  · rw [if_neg c1] at hf
    refine g_aload_n 0 (q := 8) dX8_exchange_7 rfl rfl ?_
    refine g_iload_n 2 (q := 9) dX8_exchange_8 rfl rfl ?_
    refine g_callV (a := 0) (k2 := 0) (n2 := 0) (q := 12) (as := [.int a1]) (st := []) (st1 := [.int (f_X8_isVariable a1 m_n)]) tm_X8_isVariable ml_X8_163 ti_X8_isVariable rfl rfl dX8_exchange_9 rfl ev_X8_isVariable rfl rfl (Nat.le_of_ble_eq_true rfl) (by decide) rfl rfl (Or.inl rfl) rfl ?_
    refine g_if_eq (t := 31) (q := 15) dX8_exchange_12 (by decide) rfl (fun c2 => ?_) (fun c2 => ?_)
    · rw [if_pos c2] at hf
      refine g_bipush (q := 33) (v := (-2)) dX8_exchange_31 rfl rfl ?_
      have hf := Option.some.inj hf
      subst hf
      exact g_ireturn dX8_exchange_33 rfl ⟨rfl, rfl⟩
    · rw [if_neg c2] at hf
      refine g_aload_n 0 (q := 16) dX8_exchange_15 rfl rfl ?_
      refine g_iload_n 3 (q := 17) dX8_exchange_16 rfl rfl ?_
      refine g_callV (a := 0) (k2 := 0) (n2 := 0) (q := 20) (as := [.int a2]) (st := []) (st1 := [.int (f_X8_isVariable a2 m_n)]) tm_X8_isVariable ml_X8_163 ti_X8_isVariable rfl rfl dX8_exchange_17 rfl ev_X8_isVariable rfl rfl (Nat.le_of_ble_eq_true rfl) (by decide) rfl rfl (Or.inl rfl) rfl ?_
      refine g_if_eq (t := 31) (q := 23) dX8_exchange_20 (by decide) rfl (fun c3 => ?_) (fun c3 => ?_)
      · rw [if_pos c3] at hf
        refine g_bipush (q := 33) (v := (-2)) dX8_exchange_31 rfl rfl ?_
        have hf := Option.some.inj hf
        subst hf
        exact g_ireturn dX8_exchange_33 rfl ⟨rfl, rfl⟩
      · rw [if_neg c3] at hf
        refine g_iload 4 (q := 25) dX8_exchange_23 rfl rfl ?_
        refine g_callS (k2 := 0) (n2 := 0) (q := 28) (as := [.int a3]) (st := []) (st1 := [.int (f_X8_isSlot a3)]) tm_X8_isSlot ml_X8_118 ts_X8_isSlot dX8_exchange_25 rfl ev_X8_isSlot rfl rfl (Nat.le_of_ble_eq_true rfl) (by decide) rfl rfl (Or.inl rfl) rfl ?_
        refine g_if_ne (t := 34) (q := 31) dX8_exchange_28 (by decide) rfl (fun c4 => ?_) (fun c4 => ?_)
        · rw [if_neg c4] at hf
          refine g_aload_n 0 (q := 35) dX8_exchange_34 rfl rfl ?_
          refine g_get (q := 38) fl_X8_20 dX8_exchange_35 rfl rfl rfl ?_
          refine g_iload_n 1 (q := 39) dX8_exchange_38 rfl rfl ?_
          obtain ⟨r5, e6, hf⟩ := Option.bind_eq_some_iff.mp hf
          refine g_baload (q := 40) dX8_exchange_39 rfl rfl e6 ?_
          refine g_if_ne (t := 46) (q := 43) dX8_exchange_40 (by decide) rfl (fun c7 => ?_) (fun c7 => ?_)
          · rw [if_neg c7] at hf
            refine g_lconst (q := 47) (v := 0) dX8_exchange_46 rfl rfl ?_
            refine g_lstore (q := 49) (L' := [(0, .ref 0), (1, .int a0), (2, .int a1), (3, .int a2), (4, .int a3), (5, .long 0)]) dX8_exchange_47 rfl (by decide) rfl ?_
            refine g_iconst (q := 50) (v := 0) dX8_exchange_49 rfl rfl ?_
            refine g_istore (q := 52) (L' := [(0, .ref 0), (1, .int a0), (2, .int a1), (3, .int a2), (4, .int a3), (5, .long 0), (7, .int 0)]) dX8_exchange_50 rfl (by decide) rfl ?_
            refine g_ls [0, 1, 2, 3, 4, 5, 6] rfl ?_
            refine ev_X8_exchange_L52 (fun y12 res hf => ?_) tFU _ _ res hf
            refine g_aload_n 0 (q := 129) dX8_exchange_128 rfl rfl ?_
            refine g_iload 1 (q := 131) dX8_exchange_129 rfl rfl ?_
            refine g_lload 2 (q := 133) dX8_exchange_131 rfl rfl ?_
            obtain ⟨r13, e14, hf⟩ := Option.bind_eq_some_iff.mp hf
            refine g_callV (a := 0) (k2 := 0) (n2 := 0) (q := 136) (as := [.int a3, .long y12]) (st := []) (st1 := [.int r13.1]) tm_X8_store ml_X8_122 ti_X8_store rfl rfl dX8_exchange_133 rfl (ev_X8_store e14) rfl rfl (Nat.le_of_ble_eq_true rfl) (by decide) rfl rfl (Or.inl (encM_len.trans encM_len.symm)) rfl ?_
            have hf := Option.some.inj hf
            subst hf
            exact g_ireturn dX8_exchange_136 rfl ⟨rfl, rfl⟩
          · rw [if_pos c7] at hf
            refine g_bipush (q := 45) (v := (-3)) dX8_exchange_43 rfl rfl ?_
            have hf := Option.some.inj hf
            subst hf
            exact g_ireturn dX8_exchange_45 rfl ⟨rfl, rfl⟩
        · rw [if_pos c4] at hf
          refine g_bipush (q := 33) (v := (-2)) dX8_exchange_31 rfl rfl ?_
          have hf := Option.some.inj hf
          subst hf
          exact g_ireturn dX8_exchange_33 rfl ⟨rfl, rfl⟩
def f_X8_randomOf_L38 (w7 : Int32) (m_pt : Int32) (K : Int64 → Option (Int64)) : Nat → Int64 → Int32 → Option (Int64)
  | 0, _, _ => none
  | fu + 1, v4, v8 => (if m_pt ≤ v8 then K v4 else (if (v8 &&& w7) = w7 then f_X8_randomOf_L38 w7 m_pt K fu (v4 ||| (tlshl 1 v8)) (v8 + 1) else f_X8_randomOf_L38 w7 m_pt K fu (v4 ||| 0) (v8 + 1)))
def f_X8_randomOf_L8 (w2 : Int32) (m_pt : Int32) (K : Int64 → Option (Int64)) : Nat → Int32 → Int64 → Int32 → Option (Int64)
  | 0, _, _, _ => none
  | fu + 1, v3, v4, v6 => (if w2 ≤ v6 then K v4 else if m_pt = 0 then none else f_X8_randomOf_L38 ((tiushr ((v3 * 1103515245) + 12345) 16) - (tiushr ((v3 * 1103515245) + 12345) 16) / m_pt * m_pt) m_pt (fun y5 => f_X8_randomOf_L8 w2 m_pt K fu ((v3 * 1103515245) + 12345) y5 (v6 + 1)) tFU v4 0)
def f_X8_randomOf (a0 : Int32) (a1 : Int32) (m_pt : Int32) : Option (Int64) := f_X8_randomOf_L8 a1 m_pt (fun y6 => some y6) tFU a0 0 0
set_option maxRecDepth 20000 in
set_option maxHeartbeats 4000000 in
theorem ev_X8_randomOf_L38 {l : Launch} {E : tEn}   {m_n : Int32} {m_pt : Int32} {m_rc : Int32} {m_sa : Int64} {m_sb : Int64} {m_sc : Int32} {m_is : Int32} {m_os : Int32} {m_vn : Int32} {m_vc : Int32} {m_va : Int64} {m_vb : Int64} {m_ve : Int32} {m_no : Int32} {m_pl : Int32} {m_fa : Int32} {m_oc : Int32} {m_fu : Int32} {m_ke : Int32} {m_t : List Int64} {m_f : List Int32} {m_rs : List Int32} {m_rt : List Int64} {m_rf : List Int32} {m_st : List Int32} {m_ib : List Int32} {m_ob : List Int32} {m_al : List Int32} {m_el : List Int32} {m_vt : List Int64} {m_vf : List Int32} {m_vs : List Int32} {m_nr : List Int32} {m_ty : List Int32} {m_pa : List Int32} {m_fn : List Int64} {m_md : List Int64} {m_ms : List Int32} {m_mr : List Int32} {w2 : Int32} {w3 : Int32} {w6 : Int32} {w7 : Int32} {K : Int64 → Option (Int64)} (hK : ∀ (v4 : Int64)  (res : Int64), K v4 = some res → tG l E RX8 cX8_randomOf 9 (some .long) false 1 (fun r h' => r = some (.long res) ∧ h' = encM m_n m_pt m_rc m_sa m_sb m_sc m_is m_os m_vn m_vc m_va m_vb m_ve m_no m_pl m_fa m_oc m_fu m_ke m_t m_f m_rs m_rt m_rf m_st m_ib m_ob m_al m_el m_vt m_vf m_vs m_nr m_ty m_pa m_fn m_md m_ms m_mr) 0 0 76 [(0, .ref 0), (2, .int w2), (3, .int w3), (4, .long v4), (6, .int w6)] [] (encM m_n m_pt m_rc m_sa m_sb m_sc m_is m_os m_vn m_vc m_va m_vb m_ve m_no m_pl m_fa m_oc m_fu m_ke m_t m_f m_rs m_rt m_rf m_st m_ib m_ob m_al m_el m_vt m_vf m_vs m_nr m_ty m_pa m_fn m_md m_ms m_mr)) :
    ∀ (fu : Nat) (v4 : Int64) (v8 : Int32) (res : Int64), f_X8_randomOf_L38 w7 m_pt K fu v4 v8 = some res → tG l E RX8 cX8_randomOf 9 (some .long) false 1 (fun r h' => r = some (.long res) ∧ h' = encM m_n m_pt m_rc m_sa m_sb m_sc m_is m_os m_vn m_vc m_va m_vb m_ve m_no m_pl m_fa m_oc m_fu m_ke m_t m_f m_rs m_rt m_rf m_st m_ib m_ob m_al m_el m_vt m_vf m_vs m_nr m_ty m_pa m_fn m_md m_ms m_mr) 0 0 38 [(0, .ref 0), (2, .int w2), (3, .int w3), (4, .long v4), (6, .int w6), (7, .int w7), (8, .int v8)] [] (encM m_n m_pt m_rc m_sa m_sb m_sc m_is m_os m_vn m_vc m_va m_vb m_ve m_no m_pl m_fa m_oc m_fu m_ke m_t m_f m_rs m_rt m_rf m_st m_ib m_ob m_al m_el m_vt m_vf m_vs m_nr m_ty m_pa m_fn m_md m_ms m_mr) := by
  intro fu
  induction fu with
  | zero => intro v4 v8 res hf; exact nomatch (show none = some res from hf)
  | succ fu ih =>
    intro v4 v8 res hf
    rw [f_X8_randomOf_L38] at hf
    refine g_iload 6 (q := 40) dX8_randomOf_38 rfl rfl ?_
    refine g_aload_n 0 (q := 41) dX8_randomOf_40 rfl rfl ?_
    refine g_get (q := 44) fl_X8_13 dX8_randomOf_41 rfl rfl rfl ?_
    refine g_icmp_ge (t := 76) (q := 47) dX8_randomOf_44 (by decide) rfl (fun c3 => ?_) (fun c3 => ?_)
    · rw [if_pos c3] at hf
      refine g_ls [0, 1, 2, 3, 4] rfl ?_
      exact hK _ _ hf
    · rw [if_neg c3] at hf
      refine g_lload 3 (q := 49) dX8_randomOf_47 rfl rfl ?_
      refine g_iload 6 (q := 51) dX8_randomOf_49 rfl rfl ?_
      refine g_iload 5 (q := 53) dX8_randomOf_51 rfl rfl ?_
      refine g_iand (q := 54) dX8_randomOf_53 rfl ?_
      refine g_iload 5 (q := 56) dX8_randomOf_54 rfl rfl ?_
      refine g_icmp_ne (t := 66) (q := 59) dX8_randomOf_56 (by decide) rfl (fun c4 => ?_) (fun c4 => ?_)
      · rw [if_neg c4] at hf
        refine g_lconst (q := 67) (v := 0) dX8_randomOf_66 rfl rfl ?_
        refine g_lor (q := 68) dX8_randomOf_67 rfl ?_
        refine g_lstore (q := 70) (L' := [(0, .ref 0), (2, .int w2), (3, .int w3), (4, .long (v4 ||| 0)), (6, .int w6), (7, .int w7), (8, .int v8)]) dX8_randomOf_68 rfl (by decide) rfl ?_
        refine g_iinc 6 (q := 73) (v := (v8 + 1)) (L' := [(0, .ref 0), (2, .int w2), (3, .int w3), (4, .long (v4 ||| 0)), (6, .int w6), (7, .int w7), (8, .int (v8 + 1))]) dX8_randomOf_70 rfl rfl rfl (by decide) rfl ?_
        refine g_goto (t := 38) dX8_randomOf_73 (by decide) ?_
        refine g_ls [0, 1, 2, 3, 4, 5, 6] rfl ?_
        exact ih _ _ _ hf
      · rw [if_pos c4] at hf
        refine g_lconst (q := 60) (v := 1) dX8_randomOf_59 rfl rfl ?_
        refine g_iload 6 (q := 62) dX8_randomOf_60 rfl rfl ?_
        refine g_lshl (q := 63) dX8_randomOf_62 rfl ?_
        refine g_goto (t := 67) dX8_randomOf_63 (by decide) ?_
        refine g_lor (q := 68) dX8_randomOf_67 rfl ?_
        refine g_lstore (q := 70) (L' := [(0, .ref 0), (2, .int w2), (3, .int w3), (4, .long (v4 ||| (tlshl 1 v8))), (6, .int w6), (7, .int w7), (8, .int v8)]) dX8_randomOf_68 rfl (by decide) rfl ?_
        refine g_iinc 6 (q := 73) (v := (v8 + 1)) (L' := [(0, .ref 0), (2, .int w2), (3, .int w3), (4, .long (v4 ||| (tlshl 1 v8))), (6, .int w6), (7, .int w7), (8, .int (v8 + 1))]) dX8_randomOf_70 rfl rfl rfl (by decide) rfl ?_
        refine g_goto (t := 38) dX8_randomOf_73 (by decide) ?_
        refine g_ls [0, 1, 2, 3, 4, 5, 6] rfl ?_
        exact ih _ _ _ hf
set_option maxRecDepth 20000 in
set_option maxHeartbeats 4000000 in
theorem ev_X8_randomOf_L8 {l : Launch} {E : tEn}   {m_n : Int32} {m_pt : Int32} {m_rc : Int32} {m_sa : Int64} {m_sb : Int64} {m_sc : Int32} {m_is : Int32} {m_os : Int32} {m_vn : Int32} {m_vc : Int32} {m_va : Int64} {m_vb : Int64} {m_ve : Int32} {m_no : Int32} {m_pl : Int32} {m_fa : Int32} {m_oc : Int32} {m_fu : Int32} {m_ke : Int32} {m_t : List Int64} {m_f : List Int32} {m_rs : List Int32} {m_rt : List Int64} {m_rf : List Int32} {m_st : List Int32} {m_ib : List Int32} {m_ob : List Int32} {m_al : List Int32} {m_el : List Int32} {m_vt : List Int64} {m_vf : List Int32} {m_vs : List Int32} {m_nr : List Int32} {m_ty : List Int32} {m_pa : List Int32} {m_fn : List Int64} {m_md : List Int64} {m_ms : List Int32} {m_mr : List Int32} {w2 : Int32} {K : Int64 → Option (Int64)} (hK : ∀ (v4 : Int64)  (res : Int64), K v4 = some res → tG l E RX8 cX8_randomOf 9 (some .long) false 1 (fun r h' => r = some (.long res) ∧ h' = encM m_n m_pt m_rc m_sa m_sb m_sc m_is m_os m_vn m_vc m_va m_vb m_ve m_no m_pl m_fa m_oc m_fu m_ke m_t m_f m_rs m_rt m_rf m_st m_ib m_ob m_al m_el m_vt m_vf m_vs m_nr m_ty m_pa m_fn m_md m_ms m_mr) 0 0 82 [(4, .long v4)] [] (encM m_n m_pt m_rc m_sa m_sb m_sc m_is m_os m_vn m_vc m_va m_vb m_ve m_no m_pl m_fa m_oc m_fu m_ke m_t m_f m_rs m_rt m_rf m_st m_ib m_ob m_al m_el m_vt m_vf m_vs m_nr m_ty m_pa m_fn m_md m_ms m_mr)) :
    ∀ (fu : Nat) (v3 : Int32) (v4 : Int64) (v6 : Int32) (res : Int64), f_X8_randomOf_L8 w2 m_pt K fu v3 v4 v6 = some res → tG l E RX8 cX8_randomOf 9 (some .long) false 1 (fun r h' => r = some (.long res) ∧ h' = encM m_n m_pt m_rc m_sa m_sb m_sc m_is m_os m_vn m_vc m_va m_vb m_ve m_no m_pl m_fa m_oc m_fu m_ke m_t m_f m_rs m_rt m_rf m_st m_ib m_ob m_al m_el m_vt m_vf m_vs m_nr m_ty m_pa m_fn m_md m_ms m_mr) 0 0 8 [(0, .ref 0), (2, .int w2), (3, .int v3), (4, .long v4), (6, .int v6)] [] (encM m_n m_pt m_rc m_sa m_sb m_sc m_is m_os m_vn m_vc m_va m_vb m_ve m_no m_pl m_fa m_oc m_fu m_ke m_t m_f m_rs m_rt m_rf m_st m_ib m_ob m_al m_el m_vt m_vf m_vs m_nr m_ty m_pa m_fn m_md m_ms m_mr) := by
  intro fu
  induction fu with
  | zero => intro v3 v4 v6 res hf; exact nomatch (show none = some res from hf)
  | succ fu ih =>
    intro v3 v4 v6 res hf
    rw [f_X8_randomOf_L8] at hf
    refine g_iload 4 (q := 10) dX8_randomOf_8 rfl rfl ?_
    refine g_iload_n 1 (q := 11) dX8_randomOf_10 rfl rfl ?_
    refine g_icmp_ge (t := 82) (q := 14) dX8_randomOf_11 (by decide) rfl (fun c1 => ?_) (fun c1 => ?_)
    · rw [if_pos c1] at hf
      refine g_ls [3] rfl ?_
      exact hK _ _ hf
    · rw [if_neg c1] at hf
      refine g_iload_n 2 (q := 15) dX8_randomOf_14 rfl rfl ?_
      refine g_ldc_w (q := 18) kc_X8_266 dX8_randomOf_15 rfl ?_
      refine g_imul (q := 19) dX8_randomOf_18 rfl ?_
      refine g_sipush (q := 22) (v := 12345) dX8_randomOf_19 rfl rfl ?_
      refine g_iadd (q := 23) dX8_randomOf_22 rfl ?_
      refine g_istore_n (q := 24) (L' := [(0, .ref 0), (2, .int w2), (3, .int ((v3 * 1103515245) + 12345)), (4, .long v4), (6, .int v6)]) dX8_randomOf_23 rfl (by decide) rfl ?_
      refine g_iload_n 2 (q := 25) dX8_randomOf_24 rfl rfl ?_
      refine g_bipush (q := 27) (v := 16) dX8_randomOf_25 rfl rfl ?_
      refine g_iushr (q := 28) dX8_randomOf_27 rfl ?_
      refine g_aload_n 0 (q := 29) dX8_randomOf_28 rfl rfl ?_
      refine g_get (q := 32) fl_X8_13 dX8_randomOf_29 rfl rfl rfl ?_
      by_cases c2 : m_pt = 0
      · rw [if_pos c2] at hf; exact nomatch hf
      rw [if_neg c2] at hf
      refine g_irem (q := 33) dX8_randomOf_32 rfl c2 ?_
      refine g_istore (q := 35) (L' := [(0, .ref 0), (2, .int w2), (3, .int ((v3 * 1103515245) + 12345)), (4, .long v4), (6, .int v6), (7, .int ((tiushr ((v3 * 1103515245) + 12345) 16) - (tiushr ((v3 * 1103515245) + 12345) 16) / m_pt * m_pt))]) dX8_randomOf_33 rfl (by decide) rfl ?_
      refine g_iconst (q := 36) (v := 0) dX8_randomOf_35 rfl rfl ?_
      refine g_istore (q := 38) (L' := [(0, .ref 0), (2, .int w2), (3, .int ((v3 * 1103515245) + 12345)), (4, .long v4), (6, .int v6), (7, .int ((tiushr ((v3 * 1103515245) + 12345) 16) - (tiushr ((v3 * 1103515245) + 12345) 16) / m_pt * m_pt)), (8, .int 0)]) dX8_randomOf_36 rfl (by decide) rfl ?_
      refine g_ls [0, 1, 2, 3, 4, 5, 6] rfl ?_
      refine ev_X8_randomOf_L38 (fun y5 res hf => ?_) tFU _ _ res hf
      refine g_iinc 4 (q := 79) (v := (v6 + 1)) (L' := [(0, .ref 0), (2, .int w2), (3, .int ((v3 * 1103515245) + 12345)), (4, .long y5), (6, .int (v6 + 1))]) dX8_randomOf_76 rfl rfl rfl (by decide) rfl ?_
      refine g_goto (t := 8) dX8_randomOf_79 (by decide) ?_
      refine g_ls [0, 1, 2, 3, 4] rfl ?_
      exact ih _ _ _ _ hf
set_option maxRecDepth 20000 in
set_option maxHeartbeats 4000000 in
theorem ev_X8_randomOf {l : Launch} {E : tEn}  {m_n : Int32} {m_pt : Int32} {m_rc : Int32} {m_sa : Int64} {m_sb : Int64} {m_sc : Int32} {m_is : Int32} {m_os : Int32} {m_vn : Int32} {m_vc : Int32} {m_va : Int64} {m_vb : Int64} {m_ve : Int32} {m_no : Int32} {m_pl : Int32} {m_fa : Int32} {m_oc : Int32} {m_fu : Int32} {m_ke : Int32} {m_t : List Int64} {m_f : List Int32} {m_rs : List Int32} {m_rt : List Int64} {m_rf : List Int32} {m_st : List Int32} {m_ib : List Int32} {m_ob : List Int32} {m_al : List Int32} {m_el : List Int32} {m_vt : List Int64} {m_vf : List Int32} {m_vs : List Int32} {m_nr : List Int32} {m_ty : List Int32} {m_pa : List Int32} {m_fn : List Int64} {m_md : List Int64} {m_ms : List Int32} {m_mr : List Int32} {a0 : Int32} {a1 : Int32} {res : Int64} (hf : f_X8_randomOf a0 a1 m_pt = some res) : tEv l E yX8_randomOf cX8_randomOf 9 (some .long) 1 0 0 [.ref 0, .int a0, .int a1] (encM m_n m_pt m_rc m_sa m_sb m_sc m_is m_os m_vn m_vc m_va m_vb m_ve m_no m_pl m_fa m_oc m_fu m_ke m_t m_f m_rs m_rt m_rf m_st m_ib m_ob m_al m_el m_vt m_vf m_vs m_nr m_ty m_pa m_fn m_md m_ms m_mr) (fun r h' => r = some (.long res) ∧ h' = encM m_n m_pt m_rc m_sa m_sb m_sc m_is m_os m_vn m_vc m_va m_vb m_ve m_no m_pl m_fa m_oc m_fu m_ke m_t m_f m_rs m_rt m_rf m_st m_ib m_ob m_al m_el m_vt m_vf m_vs m_nr m_ty m_pa m_fn m_md m_ms m_mr) := by
  refine tEv.of (own := RX8) (ini := false) (L := [(0, .ref 0), (1, .int a0), (2, .int a1)]) (by decide +kernel) rfl (fun h9 => nomatch h9) rfl (Nat.le_of_ble_eq_true rfl) ?_
  rw [f_X8_randomOf] at hf
  refine g_iload_n 1 (q := 1) dX8_randomOf_0 rfl rfl ?_
  refine g_istore_n (q := 2) (L' := [(0, .ref 0), (1, .int a0), (2, .int a1), (3, .int a0)]) dX8_randomOf_1 rfl (by decide) rfl ?_
  refine g_lconst (q := 3) (v := 0) dX8_randomOf_2 rfl rfl ?_
  refine g_lstore (q := 5) (L' := [(0, .ref 0), (1, .int a0), (2, .int a1), (3, .int a0), (4, .long 0)]) dX8_randomOf_3 rfl (by decide) rfl ?_
  refine g_iconst (q := 6) (v := 0) dX8_randomOf_5 rfl rfl ?_
  refine g_istore (q := 8) (L' := [(0, .ref 0), (1, .int a0), (2, .int a1), (3, .int a0), (4, .long 0), (6, .int 0)]) dX8_randomOf_6 rfl (by decide) rfl ?_
  refine g_ls [0, 2, 3, 4, 5] rfl ?_
  refine ev_X8_randomOf_L8 (fun y6 res hf => ?_) tFU _ _ _ res hf
  refine g_lload 0 (q := 84) dX8_randomOf_82 rfl rfl ?_
  have hf := Option.some.inj hf
  subst hf
  exact g_lreturn dX8_randomOf_84 rfl ⟨rfl, rfl⟩
def f_X8_random (a0 : Int32) (a1 : Int32) (a2 : Int32) (m_pt : Int32) (m_rc : Int32) (m_t : List Int64) (m_f : List Int32) (m_rs : List Int32) (m_rt : List Int64) (m_rf : List Int32) : Option (Int32 × Int32 × List Int64 × List Int32 × List Int32 × List Int64 × List Int32) := (if (f_X8_isIn (Int32.toInt64 a1) 0 12) = 0 then some ((-2), m_rc, m_t, m_f, m_rs, m_rt, m_rf) else (if (f_X8_isSlot a2) = 0 then some ((-2), m_rc, m_t, m_f, m_rs, m_rt, m_rf) else (f_X8_randomOf a0 a1 m_pt).bind fun r3 => (f_X8_store a2 r3 m_pt m_rc m_t m_f m_rs m_rt m_rf).bind fun r5 => some (r5.1, r5.2.1, r5.2.2.1, r5.2.2.2.1, r5.2.2.2.2.1, r5.2.2.2.2.2.1, r5.2.2.2.2.2.2)))
set_option maxRecDepth 20000 in
set_option maxHeartbeats 4000000 in
theorem ev_X8_random {l : Launch} {E : tEn}  {m_n : Int32} {m_pt : Int32} {m_rc : Int32} {m_sa : Int64} {m_sb : Int64} {m_sc : Int32} {m_is : Int32} {m_os : Int32} {m_vn : Int32} {m_vc : Int32} {m_va : Int64} {m_vb : Int64} {m_ve : Int32} {m_no : Int32} {m_pl : Int32} {m_fa : Int32} {m_oc : Int32} {m_fu : Int32} {m_ke : Int32} {m_t : List Int64} {m_f : List Int32} {m_rs : List Int32} {m_rt : List Int64} {m_rf : List Int32} {m_st : List Int32} {m_ib : List Int32} {m_ob : List Int32} {m_al : List Int32} {m_el : List Int32} {m_vt : List Int64} {m_vf : List Int32} {m_vs : List Int32} {m_nr : List Int32} {m_ty : List Int32} {m_pa : List Int32} {m_fn : List Int64} {m_md : List Int64} {m_ms : List Int32} {m_mr : List Int32} {a0 : Int32} {a1 : Int32} {a2 : Int32} {res : Int32 × Int32 × List Int64 × List Int32 × List Int32 × List Int64 × List Int32} (hf : f_X8_random a0 a1 a2 m_pt m_rc m_t m_f m_rs m_rt m_rf = some res) : tEv l E yX8_random cX8_random 4 (some .int) 4 0 0 [.ref 0, .int a0, .int a1, .int a2] (encM m_n m_pt m_rc m_sa m_sb m_sc m_is m_os m_vn m_vc m_va m_vb m_ve m_no m_pl m_fa m_oc m_fu m_ke m_t m_f m_rs m_rt m_rf m_st m_ib m_ob m_al m_el m_vt m_vf m_vs m_nr m_ty m_pa m_fn m_md m_ms m_mr) (fun r h' => r = some (.int res.1) ∧ h' = encM m_n m_pt (res.2.1) m_sa m_sb m_sc m_is m_os m_vn m_vc m_va m_vb m_ve m_no m_pl m_fa m_oc m_fu m_ke (res.2.2.1) (res.2.2.2.1) (res.2.2.2.2.1) (res.2.2.2.2.2.1) (res.2.2.2.2.2.2) m_st m_ib m_ob m_al m_el m_vt m_vf m_vs m_nr m_ty m_pa m_fn m_md m_ms m_mr) := by
  refine tEv.of (own := RX8) (ini := false) (L := [(0, .ref 0), (1, .int a0), (2, .int a1), (3, .int a2)]) (by decide +kernel) rfl (fun h9 => nomatch h9) rfl (Nat.le_of_ble_eq_true rfl) ?_
  rw [f_X8_random] at hf
  refine g_iload_n 2 (q := 1) dX8_random_0 rfl rfl ?_
  refine g_i2l (q := 2) dX8_random_1 rfl ?_
  refine g_lconst (q := 3) (v := 0) dX8_random_2 rfl rfl ?_
  refine g_ldc2_w (q := 6) kc_X8_267 dX8_random_3 rfl ?_
  refine g_callS (k2 := 0) (n2 := 0) (q := 9) (as := [.long (Int32.toInt64 a1), .long 0, .long 12]) (st := []) (st1 := [.int (f_X8_isIn (Int32.toInt64 a1) 0 12)]) tm_X8_isIn ml_X8_87 ts_X8_isIn dX8_random_6 rfl ev_X8_isIn rfl rfl (Nat.le_of_ble_eq_true rfl) (by decide) rfl rfl (Or.inl rfl) rfl ?_
  refine g_if_eq (t := 19) (q := 12) dX8_random_9 (by decide) rfl (fun c1 => ?_) (fun c1 => ?_)
  · rw [if_pos c1] at hf
    refine g_bipush (q := 21) (v := (-2)) dX8_random_19 rfl rfl ?_
    have hf := Option.some.inj hf
    subst hf
    exact g_ireturn dX8_random_21 rfl ⟨rfl, rfl⟩
  · rw [if_neg c1] at hf
    refine g_iload_n 3 (q := 13) dX8_random_12 rfl rfl ?_
    refine g_callS (k2 := 0) (n2 := 0) (q := 16) (as := [.int a2]) (st := []) (st1 := [.int (f_X8_isSlot a2)]) tm_X8_isSlot ml_X8_118 ts_X8_isSlot dX8_random_13 rfl ev_X8_isSlot rfl rfl (Nat.le_of_ble_eq_true rfl) (by decide) rfl rfl (Or.inl rfl) rfl ?_
    refine g_if_ne (t := 22) (q := 19) dX8_random_16 (by decide) rfl (fun c2 => ?_) (fun c2 => ?_)
    · rw [if_neg c2] at hf
      refine g_aload_n 0 (q := 23) dX8_random_22 rfl rfl ?_
      refine g_iload_n 3 (q := 24) dX8_random_23 rfl rfl ?_
      refine g_aload_n 0 (q := 25) dX8_random_24 rfl rfl ?_
      refine g_iload_n 1 (q := 26) dX8_random_25 rfl rfl ?_
      refine g_iload_n 2 (q := 27) dX8_random_26 rfl rfl ?_
      obtain ⟨r3, e4, hf⟩ := Option.bind_eq_some_iff.mp hf
      refine g_callV (a := 0) (k2 := 0) (n2 := 0) (q := 30) (as := [.int a0, .int a1]) (st := [.int a2, .ref 0]) (st1 := [.long r3, .int a2, .ref 0]) tm_X8_randomOf ml_X8_269 ti_X8_randomOf rfl rfl dX8_random_27 rfl (ev_X8_randomOf e4) rfl rfl (Nat.le_of_ble_eq_true rfl) (by decide) rfl rfl (Or.inl rfl) rfl ?_
      obtain ⟨r5, e6, hf⟩ := Option.bind_eq_some_iff.mp hf
      refine g_callV (a := 0) (k2 := 0) (n2 := 0) (q := 33) (as := [.int a2, .long r3]) (st := []) (st1 := [.int r5.1]) tm_X8_store ml_X8_122 ti_X8_store rfl rfl dX8_random_30 rfl (ev_X8_store e6) rfl rfl (Nat.le_of_ble_eq_true rfl) (by decide) rfl rfl (Or.inl (encM_len.trans encM_len.symm)) rfl ?_
      have hf := Option.some.inj hf
      subst hf
      exact g_ireturn dX8_random_33 rfl ⟨rfl, rfl⟩
    · rw [if_pos c2] at hf
      refine g_bipush (q := 21) (v := (-2)) dX8_random_19 rfl rfl ?_
      have hf := Option.some.inj hf
      subst hf
      exact g_ireturn dX8_random_21 rfl ⟨rfl, rfl⟩
def f_X8_readOnceTrials_L33 (w1 : Int32) (w2 : Int32) (w3 : Int32) (m_n : Int32) (m_pt : Int32) (K : Int32 → Int32 → List Int32 → Option (Int32 × Int32 × List Int32)) : Nat → Int32 → Int32 → Int32 → List Int32 → Option (Int32 × Int32 × List Int32)
  | 0, _, _, _, _ => none
  | fu + 1, v4, v5, m_ve, m_nr => (if w3 ≤ v5 then K v4 m_ve m_nr else (f_X8_randomOf (w1 + v5) w2 m_pt).bind fun r4 => (f_X8_reasonOf r4 m_n m_pt m_ve m_nr).bind fun r6 => (if r6.1 = 0 then f_X8_readOnceTrials_L33 w1 w2 w3 m_n m_pt K fu (v4 + 1) (v5 + 1) (r6.2.1) (r6.2.2) else f_X8_readOnceTrials_L33 w1 w2 w3 m_n m_pt K fu (v4 + 0) (v5 + 1) (r6.2.1) (r6.2.2)))
def f_X8_readOnceTrials (a0 : Int32) (a1 : Int32) (a2 : Int32) (m_n : Int32) (m_pt : Int32) (m_ve : Int32) (m_nr : List Int32) : Option (Int32 × Int32 × List Int32) := (if (f_X8_isIn (Int32.toInt64 a1) 0 12) = 0 then some ((-2), m_ve, m_nr) else (if (f_X8_isIn (Int32.toInt64 a2) 1 30) = 0 then some ((-2), m_ve, m_nr) else f_X8_readOnceTrials_L33 a0 a1 a2 m_n m_pt (fun y9 k10 k11 => some (y9, k10, k11)) tFU 0 0 m_ve m_nr))
set_option maxRecDepth 20000 in
set_option maxHeartbeats 4000000 in
theorem ev_X8_readOnceTrials_L33 {l : Launch} {E : tEn}   {m_n : Int32} {m_pt : Int32} {m_rc : Int32} {m_sa : Int64} {m_sb : Int64} {m_sc : Int32} {m_is : Int32} {m_os : Int32} {m_vn : Int32} {m_vc : Int32} {m_va : Int64} {m_vb : Int64} {m_no : Int32} {m_pl : Int32} {m_fa : Int32} {m_oc : Int32} {m_fu : Int32} {m_ke : Int32} {m_t : List Int64} {m_f : List Int32} {m_rs : List Int32} {m_rt : List Int64} {m_rf : List Int32} {m_st : List Int32} {m_ib : List Int32} {m_ob : List Int32} {m_al : List Int32} {m_el : List Int32} {m_vt : List Int64} {m_vf : List Int32} {m_vs : List Int32} {m_ty : List Int32} {m_pa : List Int32} {m_fn : List Int64} {m_md : List Int64} {m_ms : List Int32} {m_mr : List Int32} {w1 : Int32} {w2 : Int32} {w3 : Int32} {K : Int32 → Int32 → List Int32 → Option (Int32 × Int32 × List Int32)} (hK : ∀ (v4 : Int32) (m_ve : Int32) (m_nr : List Int32) (res : Int32 × Int32 × List Int32), K v4 m_ve m_nr = some res → tG l E RX8 cX8_readOnceTrials 6 (some .int) false 5 (fun r h' => r = some (.int res.1) ∧ h' = encM m_n m_pt m_rc m_sa m_sb m_sc m_is m_os m_vn m_vc m_va m_vb (res.2.1) m_no m_pl m_fa m_oc m_fu m_ke m_t m_f m_rs m_rt m_rf m_st m_ib m_ob m_al m_el m_vt m_vf m_vs (res.2.2) m_ty m_pa m_fn m_md m_ms m_mr) 0 0 71 [(4, .int v4)] [] (encM m_n m_pt m_rc m_sa m_sb m_sc m_is m_os m_vn m_vc m_va m_vb m_ve m_no m_pl m_fa m_oc m_fu m_ke m_t m_f m_rs m_rt m_rf m_st m_ib m_ob m_al m_el m_vt m_vf m_vs m_nr m_ty m_pa m_fn m_md m_ms m_mr)) :
    ∀ (fu : Nat) (v4 : Int32) (v5 : Int32) (m_ve : Int32) (m_nr : List Int32) (res : Int32 × Int32 × List Int32), f_X8_readOnceTrials_L33 w1 w2 w3 m_n m_pt K fu v4 v5 m_ve m_nr = some res → tG l E RX8 cX8_readOnceTrials 6 (some .int) false 5 (fun r h' => r = some (.int res.1) ∧ h' = encM m_n m_pt m_rc m_sa m_sb m_sc m_is m_os m_vn m_vc m_va m_vb (res.2.1) m_no m_pl m_fa m_oc m_fu m_ke m_t m_f m_rs m_rt m_rf m_st m_ib m_ob m_al m_el m_vt m_vf m_vs (res.2.2) m_ty m_pa m_fn m_md m_ms m_mr) 0 0 33 [(0, .ref 0), (1, .int w1), (2, .int w2), (3, .int w3), (4, .int v4), (5, .int v5)] [] (encM m_n m_pt m_rc m_sa m_sb m_sc m_is m_os m_vn m_vc m_va m_vb m_ve m_no m_pl m_fa m_oc m_fu m_ke m_t m_f m_rs m_rt m_rf m_st m_ib m_ob m_al m_el m_vt m_vf m_vs m_nr m_ty m_pa m_fn m_md m_ms m_mr) := by
  intro fu
  induction fu with
  | zero => intro v4 v5 m_ve m_nr res hf; exact nomatch (show none = some res from hf)
  | succ fu ih =>
    intro v4 v5 m_ve m_nr res hf
    rw [f_X8_readOnceTrials_L33] at hf
    refine g_iload 5 (q := 35) dX8_readOnceTrials_33 rfl rfl ?_
    refine g_iload_n 3 (q := 36) dX8_readOnceTrials_35 rfl rfl ?_
    refine g_icmp_ge (t := 71) (q := 39) dX8_readOnceTrials_36 (by decide) rfl (fun c3 => ?_) (fun c3 => ?_)
    · rw [if_pos c3] at hf
      refine g_ls [4] rfl ?_
      exact hK _ _ _ _ hf
    · rw [if_neg c3] at hf
      refine g_iload 4 (q := 41) dX8_readOnceTrials_39 rfl rfl ?_
      refine g_aload_n 0 (q := 42) dX8_readOnceTrials_41 rfl rfl ?_
      refine g_aload_n 0 (q := 43) dX8_readOnceTrials_42 rfl rfl ?_
      refine g_iload_n 1 (q := 44) dX8_readOnceTrials_43 rfl rfl ?_
      refine g_iload 5 (q := 46) dX8_readOnceTrials_44 rfl rfl ?_
      refine g_iadd (q := 47) dX8_readOnceTrials_46 rfl ?_
      refine g_iload_n 2 (q := 48) dX8_readOnceTrials_47 rfl rfl ?_
      obtain ⟨r4, e5, hf⟩ := Option.bind_eq_some_iff.mp hf
      refine g_callV (a := 0) (k2 := 0) (n2 := 0) (q := 51) (as := [.int (w1 + v5), .int w2]) (st := [.ref 0, .int v4]) (st1 := [.long r4, .ref 0, .int v4]) tm_X8_randomOf ml_X8_269 ti_X8_randomOf rfl rfl dX8_readOnceTrials_48 rfl (ev_X8_randomOf e5) rfl rfl (Nat.le_of_ble_eq_true rfl) (by decide) rfl rfl (Or.inl rfl) rfl ?_
      obtain ⟨r6, e7, hf⟩ := Option.bind_eq_some_iff.mp hf
      refine g_callV (a := 0) (k2 := 0) (n2 := 0) (q := 54) (as := [.long r4]) (st := [.int v4]) (st1 := [.int r6.1, .int v4]) tm_X8_reasonOf ml_X8_188 ti_X8_reasonOf rfl rfl dX8_readOnceTrials_51 rfl (ev_X8_reasonOf e7) rfl rfl (Nat.le_of_ble_eq_true rfl) (by decide) rfl rfl (Or.inl (encM_len.trans encM_len.symm)) rfl ?_
      refine g_if_ne (t := 61) (q := 57) dX8_readOnceTrials_54 (by decide) rfl (fun c8 => ?_) (fun c8 => ?_)
      · rw [if_neg c8] at hf
        refine g_iconst (q := 62) (v := 0) dX8_readOnceTrials_61 rfl rfl ?_
        refine g_iadd (q := 63) dX8_readOnceTrials_62 rfl ?_
        refine g_istore (q := 65) (L' := [(0, .ref 0), (1, .int w1), (2, .int w2), (3, .int w3), (4, .int (v4 + 0)), (5, .int v5)]) dX8_readOnceTrials_63 rfl (by decide) rfl ?_
        refine g_iinc 5 (q := 68) (v := (v5 + 1)) (L' := [(0, .ref 0), (1, .int w1), (2, .int w2), (3, .int w3), (4, .int (v4 + 0)), (5, .int (v5 + 1))]) dX8_readOnceTrials_65 rfl rfl rfl (by decide) rfl ?_
        refine g_goto (t := 33) dX8_readOnceTrials_68 (by decide) ?_
        refine g_ls [0, 1, 2, 3, 4, 5] rfl ?_
        exact ih _ _ _ _ _ hf
      · rw [if_pos c8] at hf
        refine g_iconst (q := 58) (v := 1) dX8_readOnceTrials_57 rfl rfl ?_
        refine g_goto (t := 62) dX8_readOnceTrials_58 (by decide) ?_
        refine g_iadd (q := 63) dX8_readOnceTrials_62 rfl ?_
        refine g_istore (q := 65) (L' := [(0, .ref 0), (1, .int w1), (2, .int w2), (3, .int w3), (4, .int (v4 + 1)), (5, .int v5)]) dX8_readOnceTrials_63 rfl (by decide) rfl ?_
        refine g_iinc 5 (q := 68) (v := (v5 + 1)) (L' := [(0, .ref 0), (1, .int w1), (2, .int w2), (3, .int w3), (4, .int (v4 + 1)), (5, .int (v5 + 1))]) dX8_readOnceTrials_65 rfl rfl rfl (by decide) rfl ?_
        refine g_goto (t := 33) dX8_readOnceTrials_68 (by decide) ?_
        refine g_ls [0, 1, 2, 3, 4, 5] rfl ?_
        exact ih _ _ _ _ _ hf
set_option maxRecDepth 20000 in
set_option maxHeartbeats 4000000 in
theorem ev_X8_readOnceTrials {l : Launch} {E : tEn}  {m_n : Int32} {m_pt : Int32} {m_rc : Int32} {m_sa : Int64} {m_sb : Int64} {m_sc : Int32} {m_is : Int32} {m_os : Int32} {m_vn : Int32} {m_vc : Int32} {m_va : Int64} {m_vb : Int64} {m_ve : Int32} {m_no : Int32} {m_pl : Int32} {m_fa : Int32} {m_oc : Int32} {m_fu : Int32} {m_ke : Int32} {m_t : List Int64} {m_f : List Int32} {m_rs : List Int32} {m_rt : List Int64} {m_rf : List Int32} {m_st : List Int32} {m_ib : List Int32} {m_ob : List Int32} {m_al : List Int32} {m_el : List Int32} {m_vt : List Int64} {m_vf : List Int32} {m_vs : List Int32} {m_nr : List Int32} {m_ty : List Int32} {m_pa : List Int32} {m_fn : List Int64} {m_md : List Int64} {m_ms : List Int32} {m_mr : List Int32} {a0 : Int32} {a1 : Int32} {a2 : Int32} {res : Int32 × Int32 × List Int32} (hf : f_X8_readOnceTrials a0 a1 a2 m_n m_pt m_ve m_nr = some res) : tEv l E yX8_readOnceTrials cX8_readOnceTrials 6 (some .int) 5 0 0 [.ref 0, .int a0, .int a1, .int a2] (encM m_n m_pt m_rc m_sa m_sb m_sc m_is m_os m_vn m_vc m_va m_vb m_ve m_no m_pl m_fa m_oc m_fu m_ke m_t m_f m_rs m_rt m_rf m_st m_ib m_ob m_al m_el m_vt m_vf m_vs m_nr m_ty m_pa m_fn m_md m_ms m_mr) (fun r h' => r = some (.int res.1) ∧ h' = encM m_n m_pt m_rc m_sa m_sb m_sc m_is m_os m_vn m_vc m_va m_vb (res.2.1) m_no m_pl m_fa m_oc m_fu m_ke m_t m_f m_rs m_rt m_rf m_st m_ib m_ob m_al m_el m_vt m_vf m_vs (res.2.2) m_ty m_pa m_fn m_md m_ms m_mr) := by
  refine tEv.of (own := RX8) (ini := false) (L := [(0, .ref 0), (1, .int a0), (2, .int a1), (3, .int a2)]) (by decide +kernel) rfl (fun h9 => nomatch h9) rfl (Nat.le_of_ble_eq_true rfl) ?_
  rw [f_X8_readOnceTrials] at hf
  refine g_iload_n 2 (q := 1) dX8_readOnceTrials_0 rfl rfl ?_
  refine g_i2l (q := 2) dX8_readOnceTrials_1 rfl ?_
  refine g_lconst (q := 3) (v := 0) dX8_readOnceTrials_2 rfl rfl ?_
  refine g_ldc2_w (q := 6) kc_X8_267 dX8_readOnceTrials_3 rfl ?_
  refine g_callS (k2 := 0) (n2 := 0) (q := 9) (as := [.long (Int32.toInt64 a1), .long 0, .long 12]) (st := []) (st1 := [.int (f_X8_isIn (Int32.toInt64 a1) 0 12)]) tm_X8_isIn ml_X8_87 ts_X8_isIn dX8_readOnceTrials_6 rfl ev_X8_isIn rfl rfl (Nat.le_of_ble_eq_true rfl) (by decide) rfl rfl (Or.inl rfl) rfl ?_
  refine g_if_eq (t := 24) (q := 12) dX8_readOnceTrials_9 (by decide) rfl (fun c1 => ?_) (fun c1 => ?_)
  · rw [if_pos c1] at hf
    refine g_bipush (q := 26) (v := (-2)) dX8_readOnceTrials_24 rfl rfl ?_
    have hf := Option.some.inj hf
    subst hf
    exact g_ireturn dX8_readOnceTrials_26 rfl ⟨rfl, rfl⟩
  · rw [if_neg c1] at hf
    refine g_iload_n 3 (q := 13) dX8_readOnceTrials_12 rfl rfl ?_
    refine g_i2l (q := 14) dX8_readOnceTrials_13 rfl ?_
    refine g_lconst (q := 15) (v := 1) dX8_readOnceTrials_14 rfl rfl ?_
    refine g_ldc2_w (q := 18) kc_X8_273 dX8_readOnceTrials_15 rfl ?_
    refine g_callS (k2 := 0) (n2 := 0) (q := 21) (as := [.long (Int32.toInt64 a2), .long 1, .long 30]) (st := []) (st1 := [.int (f_X8_isIn (Int32.toInt64 a2) 1 30)]) tm_X8_isIn ml_X8_87 ts_X8_isIn dX8_readOnceTrials_18 rfl ev_X8_isIn rfl rfl (Nat.le_of_ble_eq_true rfl) (by decide) rfl rfl (Or.inl rfl) rfl ?_
    refine g_if_ne (t := 27) (q := 24) dX8_readOnceTrials_21 (by decide) rfl (fun c2 => ?_) (fun c2 => ?_)
    · rw [if_neg c2] at hf
      refine g_iconst (q := 28) (v := 0) dX8_readOnceTrials_27 rfl rfl ?_
      refine g_istore (q := 30) (L' := [(0, .ref 0), (1, .int a0), (2, .int a1), (3, .int a2), (4, .int 0)]) dX8_readOnceTrials_28 rfl (by decide) rfl ?_
      refine g_iconst (q := 31) (v := 0) dX8_readOnceTrials_30 rfl rfl ?_
      refine g_istore (q := 33) (L' := [(0, .ref 0), (1, .int a0), (2, .int a1), (3, .int a2), (4, .int 0), (5, .int 0)]) dX8_readOnceTrials_31 rfl (by decide) rfl ?_
      refine g_ls [0, 1, 2, 3, 4, 5] rfl ?_
      refine ev_X8_readOnceTrials_L33 (fun y9 k10 k11 res hf => ?_) tFU _ _ _ _ res hf
      refine g_iload 0 (q := 73) dX8_readOnceTrials_71 rfl rfl ?_
      have hf := Option.some.inj hf
      subst hf
      exact g_ireturn dX8_readOnceTrials_73 rfl ⟨rfl, rfl⟩
    · rw [if_pos c2] at hf
      refine g_bipush (q := 26) (v := (-2)) dX8_readOnceTrials_24 rfl rfl ?_
      have hf := Option.some.inj hf
      subst hf
      exact g_ireturn dX8_readOnceTrials_26 rfl ⟨rfl, rfl⟩
def f_X8_addSample (a0 : Int32) (a1 : Int32) (m_pt : Int32) (m_sa : Int64) (m_sb : Int64) : Option (Int32 × Int64 × Int64) := (if (f_X8_isPoint a0 m_pt) = 0 then some ((-2), m_sa, m_sb) else (if (f_X8_isIn (Int32.toInt64 a1) 0 1) = 0 then some ((-2), m_sa, m_sb) else (f_X8_ones (m_sa ||| (tlshl 1 a0)) m_pt).bind fun r3 => some (r3, (m_sa ||| (tlshl 1 a0)), ((m_sb &&& ((tlshl 1 a0) ^^^ (-1))) ||| (tlshl (Int32.toInt64 a1) a0)))))
set_option maxRecDepth 20000 in
set_option maxHeartbeats 4000000 in
theorem ev_X8_addSample {l : Launch} {E : tEn}  {m_n : Int32} {m_pt : Int32} {m_rc : Int32} {m_sa : Int64} {m_sb : Int64} {m_sc : Int32} {m_is : Int32} {m_os : Int32} {m_vn : Int32} {m_vc : Int32} {m_va : Int64} {m_vb : Int64} {m_ve : Int32} {m_no : Int32} {m_pl : Int32} {m_fa : Int32} {m_oc : Int32} {m_fu : Int32} {m_ke : Int32} {m_t : List Int64} {m_f : List Int32} {m_rs : List Int32} {m_rt : List Int64} {m_rf : List Int32} {m_st : List Int32} {m_ib : List Int32} {m_ob : List Int32} {m_al : List Int32} {m_el : List Int32} {m_vt : List Int64} {m_vf : List Int32} {m_vs : List Int32} {m_nr : List Int32} {m_ty : List Int32} {m_pa : List Int32} {m_fn : List Int64} {m_md : List Int64} {m_ms : List Int32} {m_mr : List Int32} {a0 : Int32} {a1 : Int32} {res : Int32 × Int64 × Int64} (hf : f_X8_addSample a0 a1 m_pt m_sa m_sb = some res) : tEv l E yX8_addSample cX8_addSample 3 (some .int) 3 0 0 [.ref 0, .int a0, .int a1] (encM m_n m_pt m_rc m_sa m_sb m_sc m_is m_os m_vn m_vc m_va m_vb m_ve m_no m_pl m_fa m_oc m_fu m_ke m_t m_f m_rs m_rt m_rf m_st m_ib m_ob m_al m_el m_vt m_vf m_vs m_nr m_ty m_pa m_fn m_md m_ms m_mr) (fun r h' => r = some (.int res.1) ∧ h' = encM m_n m_pt m_rc (res.2.1) (res.2.2) m_sc m_is m_os m_vn m_vc m_va m_vb m_ve m_no m_pl m_fa m_oc m_fu m_ke m_t m_f m_rs m_rt m_rf m_st m_ib m_ob m_al m_el m_vt m_vf m_vs m_nr m_ty m_pa m_fn m_md m_ms m_mr) := by
  refine tEv.of (own := RX8) (ini := false) (L := [(0, .ref 0), (1, .int a0), (2, .int a1)]) (by decide +kernel) rfl (fun h9 => nomatch h9) rfl (Nat.le_of_ble_eq_true rfl) ?_
  rw [f_X8_addSample] at hf
  refine g_aload_n 0 (q := 1) dX8_addSample_0 rfl rfl ?_
  refine g_iload_n 1 (q := 2) dX8_addSample_1 rfl rfl ?_
  refine g_callV (a := 0) (k2 := 0) (n2 := 0) (q := 5) (as := [.int a0]) (st := []) (st1 := [.int (f_X8_isPoint a0 m_pt)]) tm_X8_isPoint ml_X8_134 ti_X8_isPoint rfl rfl dX8_addSample_2 rfl ev_X8_isPoint rfl rfl (Nat.le_of_ble_eq_true rfl) (by decide) rfl rfl (Or.inl rfl) rfl ?_
  refine g_if_eq (t := 18) (q := 8) dX8_addSample_5 (by decide) rfl (fun c1 => ?_) (fun c1 => ?_)
  · rw [if_pos c1] at hf
    refine g_bipush (q := 20) (v := (-2)) dX8_addSample_18 rfl rfl ?_
    have hf := Option.some.inj hf
    subst hf
    exact g_ireturn dX8_addSample_20 rfl ⟨rfl, rfl⟩
  · rw [if_neg c1] at hf
    refine g_iload_n 2 (q := 9) dX8_addSample_8 rfl rfl ?_
    refine g_i2l (q := 10) dX8_addSample_9 rfl ?_
    refine g_lconst (q := 11) (v := 0) dX8_addSample_10 rfl rfl ?_
    refine g_lconst (q := 12) (v := 1) dX8_addSample_11 rfl rfl ?_
    refine g_callS (k2 := 0) (n2 := 0) (q := 15) (as := [.long (Int32.toInt64 a1), .long 0, .long 1]) (st := []) (st1 := [.int (f_X8_isIn (Int32.toInt64 a1) 0 1)]) tm_X8_isIn ml_X8_87 ts_X8_isIn dX8_addSample_12 rfl ev_X8_isIn rfl rfl (Nat.le_of_ble_eq_true rfl) (by decide) rfl rfl (Or.inl rfl) rfl ?_
    refine g_if_ne (t := 21) (q := 18) dX8_addSample_15 (by decide) rfl (fun c2 => ?_) (fun c2 => ?_)
    · rw [if_neg c2] at hf
      refine g_aload_n 0 (q := 22) dX8_addSample_21 rfl rfl ?_
      refine g_dup (q := 23) dX8_addSample_22 rfl rfl ?_
      refine g_get (q := 26) fl_X8_108 dX8_addSample_23 rfl rfl rfl ?_
      refine g_lconst (q := 27) (v := 1) dX8_addSample_26 rfl rfl ?_
      refine g_iload_n 1 (q := 28) dX8_addSample_27 rfl rfl ?_
      refine g_lshl (q := 29) dX8_addSample_28 rfl ?_
      refine g_lor (q := 30) dX8_addSample_29 rfl ?_
      refine g_put (q := 33) (h' := encM m_n m_pt m_rc (m_sa ||| (tlshl 1 a0)) m_sb m_sc m_is m_os m_vn m_vc m_va m_vb m_ve m_no m_pl m_fa m_oc m_fu m_ke m_t m_f m_rs m_rt m_rf m_st m_ib m_ob m_al m_el m_vt m_vf m_vs m_nr m_ty m_pa m_fn m_md m_ms m_mr) fp_X8_108 dX8_addSample_30 rfl rfl (Nat.le_of_ble_eq_true rfl) (fun _ => ⟨rfl, rfl⟩) rfl ?_
      refine g_aload_n 0 (q := 34) dX8_addSample_33 rfl rfl ?_
      refine g_aload_n 0 (q := 35) dX8_addSample_34 rfl rfl ?_
      refine g_get (q := 38) fl_X8_112 dX8_addSample_35 rfl rfl rfl ?_
      refine g_lconst (q := 39) (v := 1) dX8_addSample_38 rfl rfl ?_
      refine g_iload_n 1 (q := 40) dX8_addSample_39 rfl rfl ?_
      refine g_lshl (q := 41) dX8_addSample_40 rfl ?_
      refine g_ldc2_w (q := 44) kc_X8_256 dX8_addSample_41 rfl ?_
      refine g_lxor (q := 45) dX8_addSample_44 rfl ?_
      refine g_land (q := 46) dX8_addSample_45 rfl ?_
      refine g_iload_n 2 (q := 47) dX8_addSample_46 rfl rfl ?_
      refine g_i2l (q := 48) dX8_addSample_47 rfl ?_
      refine g_iload_n 1 (q := 49) dX8_addSample_48 rfl rfl ?_
      refine g_lshl (q := 50) dX8_addSample_49 rfl ?_
      refine g_lor (q := 51) dX8_addSample_50 rfl ?_
      refine g_put (q := 54) (h' := encM m_n m_pt m_rc (m_sa ||| (tlshl 1 a0)) ((m_sb &&& ((tlshl 1 a0) ^^^ (-1))) ||| (tlshl (Int32.toInt64 a1) a0)) m_sc m_is m_os m_vn m_vc m_va m_vb m_ve m_no m_pl m_fa m_oc m_fu m_ke m_t m_f m_rs m_rt m_rf m_st m_ib m_ob m_al m_el m_vt m_vf m_vs m_nr m_ty m_pa m_fn m_md m_ms m_mr) fp_X8_112 dX8_addSample_51 rfl rfl (Nat.le_of_ble_eq_true rfl) (fun _ => ⟨rfl, rfl⟩) rfl ?_
      refine g_aload_n 0 (q := 55) dX8_addSample_54 rfl rfl ?_
      refine g_aload_n 0 (q := 56) dX8_addSample_55 rfl rfl ?_
      refine g_get (q := 59) fl_X8_108 dX8_addSample_56 rfl rfl rfl ?_
      obtain ⟨r3, e4, hf⟩ := Option.bind_eq_some_iff.mp hf
      refine g_callV (a := 0) (k2 := 0) (n2 := 0) (q := 62) (as := [.long (m_sa ||| (tlshl 1 a0))]) (st := []) (st1 := [.int r3]) tm_X8_ones ml_X8_102 ti_X8_ones rfl rfl dX8_addSample_59 rfl (ev_X8_ones e4) rfl rfl (Nat.le_of_ble_eq_true rfl) (by decide) rfl rfl (Or.inl rfl) rfl ?_
      have hf := Option.some.inj hf
      subst hf
      exact g_ireturn dX8_addSample_62 rfl ⟨rfl, rfl⟩
    · rw [if_pos c2] at hf
      refine g_bipush (q := 20) (v := (-2)) dX8_addSample_18 rfl rfl ?_
      have hf := Option.some.inj hf
      subst hf
      exact g_ireturn dX8_addSample_20 rfl ⟨rfl, rfl⟩
def f_X8_removeSample (a0 : Int32) (m_pt : Int32) (m_sa : Int64) (m_sb : Int64) : Option (Int32 × Int64 × Int64) := (if (f_X8_isPoint a0 m_pt) = 0 then some ((-2), m_sa, m_sb) else (if (f_X8_at m_sa a0) = 0 then some ((-1), m_sa, m_sb) else (f_X8_ones (m_sa &&& ((tlshl 1 a0) ^^^ (-1))) m_pt).bind fun r3 => some (r3, (m_sa &&& ((tlshl 1 a0) ^^^ (-1))), (m_sb &&& ((tlshl 1 a0) ^^^ (-1))))))
set_option maxRecDepth 20000 in
set_option maxHeartbeats 4000000 in
theorem ev_X8_removeSample {l : Launch} {E : tEn}  {m_n : Int32} {m_pt : Int32} {m_rc : Int32} {m_sa : Int64} {m_sb : Int64} {m_sc : Int32} {m_is : Int32} {m_os : Int32} {m_vn : Int32} {m_vc : Int32} {m_va : Int64} {m_vb : Int64} {m_ve : Int32} {m_no : Int32} {m_pl : Int32} {m_fa : Int32} {m_oc : Int32} {m_fu : Int32} {m_ke : Int32} {m_t : List Int64} {m_f : List Int32} {m_rs : List Int32} {m_rt : List Int64} {m_rf : List Int32} {m_st : List Int32} {m_ib : List Int32} {m_ob : List Int32} {m_al : List Int32} {m_el : List Int32} {m_vt : List Int64} {m_vf : List Int32} {m_vs : List Int32} {m_nr : List Int32} {m_ty : List Int32} {m_pa : List Int32} {m_fn : List Int64} {m_md : List Int64} {m_ms : List Int32} {m_mr : List Int32} {a0 : Int32} {res : Int32 × Int64 × Int64} (hf : f_X8_removeSample a0 m_pt m_sa m_sb = some res) : tEv l E yX8_removeSample cX8_removeSample 2 (some .int) 3 0 0 [.ref 0, .int a0] (encM m_n m_pt m_rc m_sa m_sb m_sc m_is m_os m_vn m_vc m_va m_vb m_ve m_no m_pl m_fa m_oc m_fu m_ke m_t m_f m_rs m_rt m_rf m_st m_ib m_ob m_al m_el m_vt m_vf m_vs m_nr m_ty m_pa m_fn m_md m_ms m_mr) (fun r h' => r = some (.int res.1) ∧ h' = encM m_n m_pt m_rc (res.2.1) (res.2.2) m_sc m_is m_os m_vn m_vc m_va m_vb m_ve m_no m_pl m_fa m_oc m_fu m_ke m_t m_f m_rs m_rt m_rf m_st m_ib m_ob m_al m_el m_vt m_vf m_vs m_nr m_ty m_pa m_fn m_md m_ms m_mr) := by
  refine tEv.of (own := RX8) (ini := false) (L := [(0, .ref 0), (1, .int a0)]) (by decide +kernel) rfl (fun h9 => nomatch h9) rfl (Nat.le_of_ble_eq_true rfl) ?_
  rw [f_X8_removeSample] at hf
  refine g_aload_n 0 (q := 1) dX8_removeSample_0 rfl rfl ?_
  refine g_iload_n 1 (q := 2) dX8_removeSample_1 rfl rfl ?_
  refine g_callV (a := 0) (k2 := 0) (n2 := 0) (q := 5) (as := [.int a0]) (st := []) (st1 := [.int (f_X8_isPoint a0 m_pt)]) tm_X8_isPoint ml_X8_134 ti_X8_isPoint rfl rfl dX8_removeSample_2 rfl ev_X8_isPoint rfl rfl (Nat.le_of_ble_eq_true rfl) (by decide) rfl rfl (Or.inl rfl) rfl ?_
  refine g_if_ne (t := 11) (q := 8) dX8_removeSample_5 (by decide) rfl (fun c1 => ?_) (fun c1 => ?_)
  · rw [if_neg c1] at hf
    refine g_aload_n 0 (q := 12) dX8_removeSample_11 rfl rfl ?_
    refine g_get (q := 15) fl_X8_108 dX8_removeSample_12 rfl rfl rfl ?_
    refine g_iload_n 1 (q := 16) dX8_removeSample_15 rfl rfl ?_
    refine g_callS (k2 := 0) (n2 := 0) (q := 19) (as := [.long m_sa, .int a0]) (st := []) (st1 := [.int (f_X8_at m_sa a0)]) tm_X8_at ml_X8_91 ts_X8_at dX8_removeSample_16 rfl ev_X8_at rfl rfl (Nat.le_of_ble_eq_true rfl) (by decide) rfl rfl (Or.inl rfl) rfl ?_
    refine g_if_ne (t := 24) (q := 22) dX8_removeSample_19 (by decide) rfl (fun c2 => ?_) (fun c2 => ?_)
    · rw [if_neg c2] at hf
      refine g_aload_n 0 (q := 25) dX8_removeSample_24 rfl rfl ?_
      refine g_dup (q := 26) dX8_removeSample_25 rfl rfl ?_
      refine g_get (q := 29) fl_X8_108 dX8_removeSample_26 rfl rfl rfl ?_
      refine g_lconst (q := 30) (v := 1) dX8_removeSample_29 rfl rfl ?_
      refine g_iload_n 1 (q := 31) dX8_removeSample_30 rfl rfl ?_
      refine g_lshl (q := 32) dX8_removeSample_31 rfl ?_
      refine g_ldc2_w (q := 35) kc_X8_256 dX8_removeSample_32 rfl ?_
      refine g_lxor (q := 36) dX8_removeSample_35 rfl ?_
      refine g_land (q := 37) dX8_removeSample_36 rfl ?_
      refine g_put (q := 40) (h' := encM m_n m_pt m_rc (m_sa &&& ((tlshl 1 a0) ^^^ (-1))) m_sb m_sc m_is m_os m_vn m_vc m_va m_vb m_ve m_no m_pl m_fa m_oc m_fu m_ke m_t m_f m_rs m_rt m_rf m_st m_ib m_ob m_al m_el m_vt m_vf m_vs m_nr m_ty m_pa m_fn m_md m_ms m_mr) fp_X8_108 dX8_removeSample_37 rfl rfl (Nat.le_of_ble_eq_true rfl) (fun _ => ⟨rfl, rfl⟩) rfl ?_
      refine g_aload_n 0 (q := 41) dX8_removeSample_40 rfl rfl ?_
      refine g_dup (q := 42) dX8_removeSample_41 rfl rfl ?_
      refine g_get (q := 45) fl_X8_112 dX8_removeSample_42 rfl rfl rfl ?_
      refine g_lconst (q := 46) (v := 1) dX8_removeSample_45 rfl rfl ?_
      refine g_iload_n 1 (q := 47) dX8_removeSample_46 rfl rfl ?_
      refine g_lshl (q := 48) dX8_removeSample_47 rfl ?_
      refine g_ldc2_w (q := 51) kc_X8_256 dX8_removeSample_48 rfl ?_
      refine g_lxor (q := 52) dX8_removeSample_51 rfl ?_
      refine g_land (q := 53) dX8_removeSample_52 rfl ?_
      refine g_put (q := 56) (h' := encM m_n m_pt m_rc (m_sa &&& ((tlshl 1 a0) ^^^ (-1))) (m_sb &&& ((tlshl 1 a0) ^^^ (-1))) m_sc m_is m_os m_vn m_vc m_va m_vb m_ve m_no m_pl m_fa m_oc m_fu m_ke m_t m_f m_rs m_rt m_rf m_st m_ib m_ob m_al m_el m_vt m_vf m_vs m_nr m_ty m_pa m_fn m_md m_ms m_mr) fp_X8_112 dX8_removeSample_53 rfl rfl (Nat.le_of_ble_eq_true rfl) (fun _ => ⟨rfl, rfl⟩) rfl ?_
      refine g_aload_n 0 (q := 57) dX8_removeSample_56 rfl rfl ?_
      refine g_aload_n 0 (q := 58) dX8_removeSample_57 rfl rfl ?_
      refine g_get (q := 61) fl_X8_108 dX8_removeSample_58 rfl rfl rfl ?_
      obtain ⟨r3, e4, hf⟩ := Option.bind_eq_some_iff.mp hf
      refine g_callV (a := 0) (k2 := 0) (n2 := 0) (q := 64) (as := [.long (m_sa &&& ((tlshl 1 a0) ^^^ (-1)))]) (st := []) (st1 := [.int r3]) tm_X8_ones ml_X8_102 ti_X8_ones rfl rfl dX8_removeSample_61 rfl (ev_X8_ones e4) rfl rfl (Nat.le_of_ble_eq_true rfl) (by decide) rfl rfl (Or.inl rfl) rfl ?_
      have hf := Option.some.inj hf
      subst hf
      exact g_ireturn dX8_removeSample_64 rfl ⟨rfl, rfl⟩
    · rw [if_pos c2] at hf
      refine g_iconst (q := 23) (v := (-1)) dX8_removeSample_22 rfl rfl ?_
      have hf := Option.some.inj hf
      subst hf
      exact g_ireturn dX8_removeSample_23 rfl ⟨rfl, rfl⟩
  · rw [if_pos c1] at hf
    refine g_bipush (q := 10) (v := (-2)) dX8_removeSample_8 rfl rfl ?_
    have hf := Option.some.inj hf
    subst hf
    exact g_ireturn dX8_removeSample_10 rfl ⟨rfl, rfl⟩
def f_X8_agrees (a0 : Int64) (m_sa : Int64) (m_sb : Int64) : Int32 := (if (lg_cmp (a0 &&& m_sa) m_sb) = 0 then 1 else 0)
theorem bl_X8_agrees (a0 : Int64) (m_sa : Int64) (m_sb : Int64) : f_X8_agrees a0 m_sa m_sb = 0 ∨ f_X8_agrees a0 m_sa m_sb = 1 := by
  unfold f_X8_agrees
  repeat' split
  all_goals first | exact Or.inl rfl | exact Or.inr rfl
set_option maxRecDepth 20000 in
set_option maxHeartbeats 4000000 in
theorem ev_X8_agrees {l : Launch} {E : tEn}  {m_n : Int32} {m_pt : Int32} {m_rc : Int32} {m_sa : Int64} {m_sb : Int64} {m_sc : Int32} {m_is : Int32} {m_os : Int32} {m_vn : Int32} {m_vc : Int32} {m_va : Int64} {m_vb : Int64} {m_ve : Int32} {m_no : Int32} {m_pl : Int32} {m_fa : Int32} {m_oc : Int32} {m_fu : Int32} {m_ke : Int32} {m_t : List Int64} {m_f : List Int32} {m_rs : List Int32} {m_rt : List Int64} {m_rf : List Int32} {m_st : List Int32} {m_ib : List Int32} {m_ob : List Int32} {m_al : List Int32} {m_el : List Int32} {m_vt : List Int64} {m_vf : List Int32} {m_vs : List Int32} {m_nr : List Int32} {m_ty : List Int32} {m_pa : List Int32} {m_fn : List Int64} {m_md : List Int64} {m_ms : List Int32} {m_mr : List Int32} {a0 : Int64} : tEv l E yX8_agrees cX8_agrees 3 (some .boolean) 1 0 0 [.ref 0, .long a0] (encM m_n m_pt m_rc m_sa m_sb m_sc m_is m_os m_vn m_vc m_va m_vb m_ve m_no m_pl m_fa m_oc m_fu m_ke m_t m_f m_rs m_rt m_rf m_st m_ib m_ob m_al m_el m_vt m_vf m_vs m_nr m_ty m_pa m_fn m_md m_ms m_mr) (fun r h' => r = some (.int (f_X8_agrees a0 m_sa m_sb)) ∧ h' = encM m_n m_pt m_rc m_sa m_sb m_sc m_is m_os m_vn m_vc m_va m_vb m_ve m_no m_pl m_fa m_oc m_fu m_ke m_t m_f m_rs m_rt m_rf m_st m_ib m_ob m_al m_el m_vt m_vf m_vs m_nr m_ty m_pa m_fn m_md m_ms m_mr) := by
  refine tEv.of (own := RX8) (ini := false) (L := [(0, .ref 0), (1, .long a0)]) (by decide +kernel) rfl (fun h9 => nomatch h9) rfl (Nat.le_of_ble_eq_true rfl) ?_
  obtain ⟨res, hf⟩ : ∃ z, f_X8_agrees a0 m_sa m_sb = z := ⟨_, rfl⟩
  rw [hf]
  rw [f_X8_agrees] at hf
  refine g_lload_n 1 (q := 1) dX8_agrees_0 rfl rfl ?_
  refine g_aload_n 0 (q := 2) dX8_agrees_1 rfl rfl ?_
  refine g_get (q := 5) fl_X8_108 dX8_agrees_2 rfl rfl rfl ?_
  refine g_land (q := 6) dX8_agrees_5 rfl ?_
  refine g_aload_n 0 (q := 7) dX8_agrees_6 rfl rfl ?_
  refine g_get (q := 10) fl_X8_112 dX8_agrees_7 rfl rfl rfl ?_
  refine g_lcmp (q := 11) dX8_agrees_10 rfl ?_
  refine g_if_ne (t := 18) (q := 14) dX8_agrees_11 (by decide) rfl (fun c1 => ?_) (fun c1 => ?_)
  · rw [if_neg c1] at hf
    refine g_iconst (q := 19) (v := 0) dX8_agrees_18 rfl rfl ?_
    subst hf
    exact g_zreturn (Or.inl rfl) dX8_agrees_19 rfl ⟨rfl, rfl⟩
  · rw [if_pos c1] at hf
    refine g_iconst (q := 15) (v := 1) dX8_agrees_14 rfl rfl ?_
    refine g_goto (t := 19) dX8_agrees_15 (by decide) ?_
    subst hf
    exact g_zreturn (Or.inr rfl) dX8_agrees_19 rfl ⟨rfl, rfl⟩
def f_X8_extensions_L4 (m_sa : Int64) (m_sb : Int64) (m_fu : Int32) (m_fn : List Int64) (K : Int32 → Option (Int32)) : Nat → Int32 → Int32 → Option (Int32)
  | 0, _, _ => none
  | fu + 1, v1, v2 => (if m_fu ≤ v2 then K v1 else (tld m_fn v2).bind fun r2 => (if (f_X8_agrees r2 m_sa m_sb) = 0 then f_X8_extensions_L4 m_sa m_sb m_fu m_fn K fu (v1 + 0) (v2 + 1) else f_X8_extensions_L4 m_sa m_sb m_fu m_fn K fu (v1 + 1) (v2 + 1)))
def f_X8_extensions  (m_sa : Int64) (m_sb : Int64) (m_fu : Int32) (m_fn : List Int64) : Option (Int32) := f_X8_extensions_L4 m_sa m_sb m_fu m_fn (fun y5 => some y5) tFU 0 0
set_option maxRecDepth 20000 in
set_option maxHeartbeats 4000000 in
theorem ev_X8_extensions_L4 {l : Launch} {E : tEn}   {m_n : Int32} {m_pt : Int32} {m_rc : Int32} {m_sa : Int64} {m_sb : Int64} {m_sc : Int32} {m_is : Int32} {m_os : Int32} {m_vn : Int32} {m_vc : Int32} {m_va : Int64} {m_vb : Int64} {m_ve : Int32} {m_no : Int32} {m_pl : Int32} {m_fa : Int32} {m_oc : Int32} {m_fu : Int32} {m_ke : Int32} {m_t : List Int64} {m_f : List Int32} {m_rs : List Int32} {m_rt : List Int64} {m_rf : List Int32} {m_st : List Int32} {m_ib : List Int32} {m_ob : List Int32} {m_al : List Int32} {m_el : List Int32} {m_vt : List Int64} {m_vf : List Int32} {m_vs : List Int32} {m_nr : List Int32} {m_ty : List Int32} {m_pa : List Int32} {m_fn : List Int64} {m_md : List Int64} {m_ms : List Int32} {m_mr : List Int32}  {K : Int32 → Option (Int32)} (hK : ∀ (v1 : Int32)  (res : Int32), K v1 = some res → tG l E RX8 cX8_extensions 3 (some .int) false 2 (fun r h' => r = some (.int res) ∧ h' = encM m_n m_pt m_rc m_sa m_sb m_sc m_is m_os m_vn m_vc m_va m_vb m_ve m_no m_pl m_fa m_oc m_fu m_ke m_t m_f m_rs m_rt m_rf m_st m_ib m_ob m_al m_el m_vt m_vf m_vs m_nr m_ty m_pa m_fn m_md m_ms m_mr) 0 0 39 [(1, .int v1)] [] (encM m_n m_pt m_rc m_sa m_sb m_sc m_is m_os m_vn m_vc m_va m_vb m_ve m_no m_pl m_fa m_oc m_fu m_ke m_t m_f m_rs m_rt m_rf m_st m_ib m_ob m_al m_el m_vt m_vf m_vs m_nr m_ty m_pa m_fn m_md m_ms m_mr)) :
    ∀ (fu : Nat) (v1 : Int32) (v2 : Int32) (res : Int32), f_X8_extensions_L4 m_sa m_sb m_fu m_fn K fu v1 v2 = some res → tG l E RX8 cX8_extensions 3 (some .int) false 2 (fun r h' => r = some (.int res) ∧ h' = encM m_n m_pt m_rc m_sa m_sb m_sc m_is m_os m_vn m_vc m_va m_vb m_ve m_no m_pl m_fa m_oc m_fu m_ke m_t m_f m_rs m_rt m_rf m_st m_ib m_ob m_al m_el m_vt m_vf m_vs m_nr m_ty m_pa m_fn m_md m_ms m_mr) 0 0 4 [(0, .ref 0), (1, .int v1), (2, .int v2)] [] (encM m_n m_pt m_rc m_sa m_sb m_sc m_is m_os m_vn m_vc m_va m_vb m_ve m_no m_pl m_fa m_oc m_fu m_ke m_t m_f m_rs m_rt m_rf m_st m_ib m_ob m_al m_el m_vt m_vf m_vs m_nr m_ty m_pa m_fn m_md m_ms m_mr) := by
  intro fu
  induction fu with
  | zero => intro v1 v2 res hf; exact nomatch (show none = some res from hf)
  | succ fu ih =>
    intro v1 v2 res hf
    rw [f_X8_extensions_L4] at hf
    refine g_iload_n 2 (q := 5) dX8_extensions_4 rfl rfl ?_
    refine g_aload_n 0 (q := 6) dX8_extensions_5 rfl rfl ?_
    refine g_get (q := 9) fl_X8_286 dX8_extensions_6 rfl rfl rfl ?_
    refine g_icmp_ge (t := 39) (q := 12) dX8_extensions_9 (by decide) rfl (fun c1 => ?_) (fun c1 => ?_)
    · rw [if_pos c1] at hf
      refine g_ls [1] rfl ?_
      exact hK _ _ hf
    · rw [if_neg c1] at hf
      refine g_iload_n 1 (q := 13) dX8_extensions_12 rfl rfl ?_
      refine g_aload_n 0 (q := 14) dX8_extensions_13 rfl rfl ?_
      refine g_aload_n 0 (q := 15) dX8_extensions_14 rfl rfl ?_
      refine g_get (q := 18) fl_X8_70 dX8_extensions_15 rfl rfl rfl ?_
      refine g_iload_n 2 (q := 19) dX8_extensions_18 rfl rfl ?_
      obtain ⟨r2, e3, hf⟩ := Option.bind_eq_some_iff.mp hf
      refine g_laload (q := 20) dX8_extensions_19 rfl rfl e3 ?_
      refine g_callV (a := 0) (k2 := 0) (n2 := 0) (q := 23) (as := [.long r2]) (st := [.int v1]) (st1 := [.int (f_X8_agrees r2 m_sa m_sb), .int v1]) tm_X8_agrees ml_X8_292 ti_X8_agrees rfl rfl dX8_extensions_20 rfl ev_X8_agrees rfl rfl (Nat.le_of_ble_eq_true rfl) (by decide) rfl rfl (Or.inl rfl) rfl ?_
      refine g_if_eq (t := 30) (q := 26) dX8_extensions_23 (by decide) rfl (fun c4 => ?_) (fun c4 => ?_)
      · rw [if_pos c4] at hf
        refine g_iconst (q := 31) (v := 0) dX8_extensions_30 rfl rfl ?_
        refine g_iadd (q := 32) dX8_extensions_31 rfl ?_
        refine g_istore_n (q := 33) (L' := [(0, .ref 0), (1, .int (v1 + 0)), (2, .int v2)]) dX8_extensions_32 rfl (by decide) rfl ?_
        refine g_iinc 2 (q := 36) (v := (v2 + 1)) (L' := [(0, .ref 0), (1, .int (v1 + 0)), (2, .int (v2 + 1))]) dX8_extensions_33 rfl rfl rfl (by decide) rfl ?_
        refine g_goto (t := 4) dX8_extensions_36 (by decide) ?_
        refine g_ls [0, 1, 2] rfl ?_
        exact ih _ _ _ hf
      · rw [if_neg c4] at hf
        refine g_iconst (q := 27) (v := 1) dX8_extensions_26 rfl rfl ?_
        refine g_goto (t := 31) dX8_extensions_27 (by decide) ?_
        refine g_iadd (q := 32) dX8_extensions_31 rfl ?_
        refine g_istore_n (q := 33) (L' := [(0, .ref 0), (1, .int (v1 + 1)), (2, .int v2)]) dX8_extensions_32 rfl (by decide) rfl ?_
        refine g_iinc 2 (q := 36) (v := (v2 + 1)) (L' := [(0, .ref 0), (1, .int (v1 + 1)), (2, .int (v2 + 1))]) dX8_extensions_33 rfl rfl rfl (by decide) rfl ?_
        refine g_goto (t := 4) dX8_extensions_36 (by decide) ?_
        refine g_ls [0, 1, 2] rfl ?_
        exact ih _ _ _ hf
set_option maxRecDepth 20000 in
set_option maxHeartbeats 4000000 in
theorem ev_X8_extensions {l : Launch} {E : tEn}  {m_n : Int32} {m_pt : Int32} {m_rc : Int32} {m_sa : Int64} {m_sb : Int64} {m_sc : Int32} {m_is : Int32} {m_os : Int32} {m_vn : Int32} {m_vc : Int32} {m_va : Int64} {m_vb : Int64} {m_ve : Int32} {m_no : Int32} {m_pl : Int32} {m_fa : Int32} {m_oc : Int32} {m_fu : Int32} {m_ke : Int32} {m_t : List Int64} {m_f : List Int32} {m_rs : List Int32} {m_rt : List Int64} {m_rf : List Int32} {m_st : List Int32} {m_ib : List Int32} {m_ob : List Int32} {m_al : List Int32} {m_el : List Int32} {m_vt : List Int64} {m_vf : List Int32} {m_vs : List Int32} {m_nr : List Int32} {m_ty : List Int32} {m_pa : List Int32} {m_fn : List Int64} {m_md : List Int64} {m_ms : List Int32} {m_mr : List Int32}  {res : Int32} (hf : f_X8_extensions m_sa m_sb m_fu m_fn = some res) : tEv l E yX8_extensions cX8_extensions 3 (some .int) 2 0 0 [.ref 0] (encM m_n m_pt m_rc m_sa m_sb m_sc m_is m_os m_vn m_vc m_va m_vb m_ve m_no m_pl m_fa m_oc m_fu m_ke m_t m_f m_rs m_rt m_rf m_st m_ib m_ob m_al m_el m_vt m_vf m_vs m_nr m_ty m_pa m_fn m_md m_ms m_mr) (fun r h' => r = some (.int res) ∧ h' = encM m_n m_pt m_rc m_sa m_sb m_sc m_is m_os m_vn m_vc m_va m_vb m_ve m_no m_pl m_fa m_oc m_fu m_ke m_t m_f m_rs m_rt m_rf m_st m_ib m_ob m_al m_el m_vt m_vf m_vs m_nr m_ty m_pa m_fn m_md m_ms m_mr) := by
  refine tEv.of (own := RX8) (ini := false) (L := [(0, .ref 0)]) (by decide +kernel) rfl (fun h9 => nomatch h9) rfl (Nat.le_of_ble_eq_true rfl) ?_
  rw [f_X8_extensions] at hf
  refine g_iconst (q := 1) (v := 0) dX8_extensions_0 rfl rfl ?_
  refine g_istore_n (q := 2) (L' := [(0, .ref 0), (1, .int 0)]) dX8_extensions_1 rfl (by decide) rfl ?_
  refine g_iconst (q := 3) (v := 0) dX8_extensions_2 rfl rfl ?_
  refine g_istore_n (q := 4) (L' := [(0, .ref 0), (1, .int 0), (2, .int 0)]) dX8_extensions_3 rfl (by decide) rfl ?_
  refine g_ls [0, 1, 2] rfl ?_
  refine ev_X8_extensions_L4 (fun y5 res hf => ?_) tFU _ _ res hf
  refine g_iload_n 0 (q := 40) dX8_extensions_39 rfl rfl ?_
  have hf := Option.some.inj hf
  subst hf
  exact g_ireturn dX8_extensions_40 rfl ⟨rfl, rfl⟩
