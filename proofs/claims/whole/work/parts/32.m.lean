/-! written by wip/whole/main.py out of the bytecode: a pure function for each method, and its contract -/
def f_X8_reasonOf (a0 : Int64) (m_n : Int32) (m_pt : Int32) (m_ve : Int32) (m_nr : List Int32) : Option (Int32 × Int32 × List Int32) := (f_X8_violation a0 m_n m_pt).bind fun r1 => (if r1 = (-1) then (f_X8_graph a0 m_n m_pt m_ve m_nr).bind fun r4 => (f_X8_path (r4.2)).bind fun r6 => (if r6 = (-1) then (f_X8_badCliqueOf a0 m_n m_pt (r4.1) (r4.2)).bind fun r9 => (if r9 = (-1) then some (0, r4.1, r4.2) else some (3, r4.1, r4.2)) else some (2, r4.1, r4.2)) else some (1, m_ve, m_nr))
set_option maxRecDepth 20000 in
set_option maxHeartbeats 4000000 in
theorem ev_X8_reasonOf {l : Launch} {E : tEn}  {m_n : Int32} {m_pt : Int32} {m_rc : Int32} {m_sa : Int64} {m_sb : Int64} {m_sc : Int32} {m_is : Int32} {m_os : Int32} {m_vn : Int32} {m_vc : Int32} {m_va : Int64} {m_vb : Int64} {m_ve : Int32} {m_no : Int32} {m_pl : Int32} {m_fa : Int32} {m_oc : Int32} {m_fu : Int32} {m_ke : Int32} {m_t : List Int64} {m_f : List Int32} {m_rs : List Int32} {m_rt : List Int64} {m_rf : List Int32} {m_st : List Int32} {m_ib : List Int32} {m_ob : List Int32} {m_al : List Int32} {m_el : List Int32} {m_vt : List Int64} {m_vf : List Int32} {m_vs : List Int32} {m_nr : List Int32} {m_ty : List Int32} {m_pa : List Int32} {m_fn : List Int64} {m_md : List Int64} {m_ms : List Int32} {m_mr : List Int32} {a0 : Int64} {res : Int32 × Int32 × List Int32} (hf : f_X8_reasonOf a0 m_n m_pt m_ve m_nr = some res) : tEv l E yX8_reasonOf cX8_reasonOf 3 (some .int) 4 0 0 [.ref 0, .long a0] (encM m_n m_pt m_rc m_sa m_sb m_sc m_is m_os m_vn m_vc m_va m_vb m_ve m_no m_pl m_fa m_oc m_fu m_ke m_t m_f m_rs m_rt m_rf m_st m_ib m_ob m_al m_el m_vt m_vf m_vs m_nr m_ty m_pa m_fn m_md m_ms m_mr) (fun r h' => r = some (.int res.1) ∧ h' = encM m_n m_pt m_rc m_sa m_sb m_sc m_is m_os m_vn m_vc m_va m_vb (res.2.1) m_no m_pl m_fa m_oc m_fu m_ke m_t m_f m_rs m_rt m_rf m_st m_ib m_ob m_al m_el m_vt m_vf m_vs (res.2.2) m_ty m_pa m_fn m_md m_ms m_mr) := by
  refine tEv.of (own := RX8) (ini := false) (L := [(0, .ref 0), (1, .long a0)]) (by decide +kernel) rfl (fun h9 => nomatch h9) rfl (Nat.le_of_ble_eq_true rfl) ?_
  rw [f_X8_reasonOf] at hf
  refine g_aload_n 0 (q := 1) dX8_reasonOf_0 rfl rfl ?_
  refine g_lload_n 1 (q := 2) dX8_reasonOf_1 rfl rfl ?_
  obtain ⟨r1, e2, hf⟩ := Option.bind_eq_some_iff.mp hf
  refine g_callV (a := 0) (k2 := 0) (n2 := 0) (q := 5) (as := [.long a0]) (st := []) (st1 := [.int r1]) tm_X8_violation ml_X8_144 ti_X8_violation rfl rfl dX8_reasonOf_2 rfl (ev_X8_violation e2) rfl rfl (Nat.le_of_ble_eq_true rfl) (by decide) rfl rfl (Or.inl rfl) rfl ?_
  refine g_iconst (q := 6) (v := (-1)) dX8_reasonOf_5 rfl rfl ?_
  refine g_icmp_eq (t := 11) (q := 9) dX8_reasonOf_6 (by decide) rfl (fun c3 => ?_) (fun c3 => ?_)
  · rw [if_pos c3] at hf
    refine g_aload_n 0 (q := 12) dX8_reasonOf_11 rfl rfl ?_
    refine g_lload_n 1 (q := 13) dX8_reasonOf_12 rfl rfl ?_
    obtain ⟨r4, e5, hf⟩ := Option.bind_eq_some_iff.mp hf
    refine g_callV (a := 0) (k2 := 0) (n2 := 0) (q := 16) (as := [.long a0]) (st := []) (st1 := []) tm_X8_graph ml_X8_166 ti_X8_graph rfl rfl dX8_reasonOf_13 rfl (ev_X8_graph e5) rfl rfl (Nat.le_of_ble_eq_true rfl) (by decide) rfl rfl (Or.inl (encM_len.trans encM_len.symm)) rfl ?_
    refine g_aload_n 0 (q := 17) dX8_reasonOf_16 rfl rfl ?_
    obtain ⟨r6, e7, hf⟩ := Option.bind_eq_some_iff.mp hf
    refine g_callV (a := 0) (k2 := 0) (n2 := 0) (q := 20) (as := []) (st := []) (st1 := [.int r6]) tm_X8_path ml_X8_176 ti_X8_path rfl rfl dX8_reasonOf_17 rfl (ev_X8_path e7) rfl rfl (Nat.le_of_ble_eq_true rfl) (by decide) rfl rfl (Or.inl rfl) rfl ?_
    refine g_iconst (q := 21) (v := (-1)) dX8_reasonOf_20 rfl rfl ?_
    refine g_icmp_eq (t := 28) (q := 24) dX8_reasonOf_21 (by decide) rfl (fun c8 => ?_) (fun c8 => ?_)
    · rw [if_pos c8] at hf
      refine g_aload_n 0 (q := 29) dX8_reasonOf_28 rfl rfl ?_
      refine g_lload_n 1 (q := 30) dX8_reasonOf_29 rfl rfl ?_
      obtain ⟨r9, e10, hf⟩ := Option.bind_eq_some_iff.mp hf
      refine g_callV (a := 0) (k2 := 0) (n2 := 0) (q := 33) (as := [.long a0]) (st := []) (st1 := [.int r9]) tm_X8_badCliqueOf ml_X8_185 ti_X8_badCliqueOf rfl rfl dX8_reasonOf_30 rfl (ev_X8_badCliqueOf e10) rfl rfl (Nat.le_of_ble_eq_true rfl) (by decide) rfl rfl (Or.inl rfl) rfl ?_
      refine g_iconst (q := 34) (v := (-1)) dX8_reasonOf_33 rfl rfl ?_
      refine g_icmp_eq (t := 41) (q := 37) dX8_reasonOf_34 (by decide) rfl (fun c11 => ?_) (fun c11 => ?_)
      · rw [if_pos c11] at hf
        refine g_iconst (q := 42) (v := 0) dX8_reasonOf_41 rfl rfl ?_
        have hf := Option.some.inj hf
        subst hf
        exact g_ireturn dX8_reasonOf_42 rfl ⟨rfl, rfl⟩
      · rw [if_neg c11] at hf
        refine g_iconst (q := 38) (v := 3) dX8_reasonOf_37 rfl rfl ?_
        refine g_goto (t := 42) dX8_reasonOf_38 (by decide) ?_
        have hf := Option.some.inj hf
        subst hf
        exact g_ireturn dX8_reasonOf_42 rfl ⟨rfl, rfl⟩
    · rw [if_neg c8] at hf
      refine g_iconst (q := 25) (v := 2) dX8_reasonOf_24 rfl rfl ?_
      refine g_goto (t := 42) dX8_reasonOf_25 (by decide) ?_
      have hf := Option.some.inj hf
      subst hf
      exact g_ireturn dX8_reasonOf_42 rfl ⟨rfl, rfl⟩
  · rw [if_neg c3] at hf
    refine g_iconst (q := 10) (v := 1) dX8_reasonOf_9 rfl rfl ?_
    have hf := Option.some.inj hf
    subst hf
    exact g_ireturn dX8_reasonOf_10 rfl ⟨rfl, rfl⟩
def f_X8_reason (a0 : Int32) (m_n : Int32) (m_pt : Int32) (m_ve : Int32) (m_t : List Int64) (m_f : List Int32) (m_nr : List Int32) : Option (Int32 × Int32 × List Int32) := (f_X8_wrong a0 m_f).bind fun r1 => (if r1 = 0 then (tld m_t a0).bind fun r4 => (f_X8_reasonOf r4 m_n m_pt m_ve m_nr).bind fun r6 => some (r6.1, r6.2.1, r6.2.2) else (f_X8_wrong a0 m_f).bind fun r8 => some (r8, m_ve, m_nr))
set_option maxRecDepth 20000 in
set_option maxHeartbeats 4000000 in
theorem ev_X8_reason {l : Launch} {E : tEn}  {m_n : Int32} {m_pt : Int32} {m_rc : Int32} {m_sa : Int64} {m_sb : Int64} {m_sc : Int32} {m_is : Int32} {m_os : Int32} {m_vn : Int32} {m_vc : Int32} {m_va : Int64} {m_vb : Int64} {m_ve : Int32} {m_no : Int32} {m_pl : Int32} {m_fa : Int32} {m_oc : Int32} {m_fu : Int32} {m_ke : Int32} {m_t : List Int64} {m_f : List Int32} {m_rs : List Int32} {m_rt : List Int64} {m_rf : List Int32} {m_st : List Int32} {m_ib : List Int32} {m_ob : List Int32} {m_al : List Int32} {m_el : List Int32} {m_vt : List Int64} {m_vf : List Int32} {m_vs : List Int32} {m_nr : List Int32} {m_ty : List Int32} {m_pa : List Int32} {m_fn : List Int64} {m_md : List Int64} {m_ms : List Int32} {m_mr : List Int32} {a0 : Int32} {res : Int32 × Int32 × List Int32} (hf : f_X8_reason a0 m_n m_pt m_ve m_t m_f m_nr = some res) : tEv l E yX8_reason cX8_reason 2 (some .int) 5 0 0 [.ref 0, .int a0] (encM m_n m_pt m_rc m_sa m_sb m_sc m_is m_os m_vn m_vc m_va m_vb m_ve m_no m_pl m_fa m_oc m_fu m_ke m_t m_f m_rs m_rt m_rf m_st m_ib m_ob m_al m_el m_vt m_vf m_vs m_nr m_ty m_pa m_fn m_md m_ms m_mr) (fun r h' => r = some (.int res.1) ∧ h' = encM m_n m_pt m_rc m_sa m_sb m_sc m_is m_os m_vn m_vc m_va m_vb (res.2.1) m_no m_pl m_fa m_oc m_fu m_ke m_t m_f m_rs m_rt m_rf m_st m_ib m_ob m_al m_el m_vt m_vf m_vs (res.2.2) m_ty m_pa m_fn m_md m_ms m_mr) := by
  refine tEv.of (own := RX8) (ini := false) (L := [(0, .ref 0), (1, .int a0)]) (by decide +kernel) rfl (fun h9 => nomatch h9) rfl (Nat.le_of_ble_eq_true rfl) ?_
  rw [f_X8_reason] at hf
  refine g_aload_n 0 (q := 1) dX8_reason_0 rfl rfl ?_
  refine g_iload_n 1 (q := 2) dX8_reason_1 rfl rfl ?_
  obtain ⟨r1, e2, hf⟩ := Option.bind_eq_some_iff.mp hf
  refine g_callV (a := 0) (k2 := 0) (n2 := 0) (q := 5) (as := [.int a0]) (st := []) (st1 := [.int r1]) tm_X8_wrong ml_X8_137 ti_X8_wrong rfl rfl dX8_reason_2 rfl (ev_X8_wrong e2) rfl rfl (Nat.le_of_ble_eq_true rfl) (by decide) rfl rfl (Or.inl rfl) rfl ?_
  refine g_if_eq (t := 16) (q := 8) dX8_reason_5 (by decide) rfl (fun c3 => ?_) (fun c3 => ?_)
  · rw [if_pos c3] at hf
    refine g_aload_n 0 (q := 17) dX8_reason_16 rfl rfl ?_
    refine g_aload_n 0 (q := 18) dX8_reason_17 rfl rfl ?_
    refine g_get (q := 21) fl_X8_16 dX8_reason_18 rfl rfl rfl ?_
    refine g_iload_n 1 (q := 22) dX8_reason_21 rfl rfl ?_
    obtain ⟨r4, e5, hf⟩ := Option.bind_eq_some_iff.mp hf
    refine g_laload (q := 23) dX8_reason_22 rfl rfl e5 ?_
    obtain ⟨r6, e7, hf⟩ := Option.bind_eq_some_iff.mp hf
    refine g_callV (a := 0) (k2 := 0) (n2 := 0) (q := 26) (as := [.long r4]) (st := []) (st1 := [.int r6.1]) tm_X8_reasonOf ml_X8_188 ti_X8_reasonOf rfl rfl dX8_reason_23 rfl (ev_X8_reasonOf e7) rfl rfl (Nat.le_of_ble_eq_true rfl) (by decide) rfl rfl (Or.inl (encM_len.trans encM_len.symm)) rfl ?_
    have hf := Option.some.inj hf
    subst hf
    exact g_ireturn dX8_reason_26 rfl ⟨rfl, rfl⟩
  · rw [if_neg c3] at hf
    refine g_aload_n 0 (q := 9) dX8_reason_8 rfl rfl ?_
    refine g_iload_n 1 (q := 10) dX8_reason_9 rfl rfl ?_
    obtain ⟨r8, e9, hf⟩ := Option.bind_eq_some_iff.mp hf
    refine g_callV (a := 0) (k2 := 0) (n2 := 0) (q := 13) (as := [.int a0]) (st := []) (st1 := [.int r8]) tm_X8_wrong ml_X8_137 ti_X8_wrong rfl rfl dX8_reason_10 rfl (ev_X8_wrong e9) rfl rfl (Nat.le_of_ble_eq_true rfl) (by decide) rfl rfl (Or.inl rfl) rfl ?_
    refine g_goto (t := 26) dX8_reason_13 (by decide) ?_
    have hf := Option.some.inj hf
    subst hf
    exact g_ireturn dX8_reason_26 rfl ⟨rfl, rfl⟩
def f_X8_component_L20 (w1 : Int32) (w3 : Int32) (m_n : Int32) (m_nr : List Int32) (K : Int32 → Option (Int32)) : Nat → Int32 → Int32 → Option (Int32)
  | 0, _, _ => none
  | fu + 1, v4, v6 => (if m_n ≤ v6 then K v4 else (if ((v4 >>> (v6 &&& 31)) &&& 1) = 0 then f_X8_component_L20 w1 w3 m_n m_nr K fu v4 (v6 + 1) else (if w3 = 0 then (tld m_nr v6).bind fun r5 => f_X8_component_L20 w1 w3 m_n m_nr K fu (v4 ||| (w1 &&& r5)) (v6 + 1) else (tld m_nr v6).bind fun r7 => f_X8_component_L20 w1 w3 m_n m_nr K fu (v4 ||| (w1 &&& (r7 ^^^ (-1)))) (v6 + 1))))
def f_X8_component_L8 (w1 : Int32) (w3 : Int32) (m_n : Int32) (m_nr : List Int32) (K : Int32 → Option (Int32)) : Nat → Int32 → Int32 → Option (Int32)
  | 0, _, _ => none
  | fu + 1, v4, v5 => (if m_n ≤ v5 then K v4 else f_X8_component_L20 w1 w3 m_n m_nr (fun y9 => f_X8_component_L8 w1 w3 m_n m_nr K fu y9 (v5 + 1)) tFU v4 0)
def f_X8_component (a0 : Int32) (a1 : Int32) (a2 : Int32) (m_n : Int32) (m_nr : List Int32) : Option (Int32) := f_X8_component_L8 a0 a2 m_n m_nr (fun y10 => some y10) tFU ((1 : Int32) <<< (a1 &&& 31)) 0
set_option maxRecDepth 20000 in
set_option maxHeartbeats 4000000 in
theorem ev_X8_component_L20 {l : Launch} {E : tEn}   {m_n : Int32} {m_pt : Int32} {m_rc : Int32} {m_sa : Int64} {m_sb : Int64} {m_sc : Int32} {m_is : Int32} {m_os : Int32} {m_vn : Int32} {m_vc : Int32} {m_va : Int64} {m_vb : Int64} {m_ve : Int32} {m_no : Int32} {m_pl : Int32} {m_fa : Int32} {m_oc : Int32} {m_fu : Int32} {m_ke : Int32} {m_t : List Int64} {m_f : List Int32} {m_rs : List Int32} {m_rt : List Int64} {m_rf : List Int32} {m_st : List Int32} {m_ib : List Int32} {m_ob : List Int32} {m_al : List Int32} {m_el : List Int32} {m_vt : List Int64} {m_vf : List Int32} {m_vs : List Int32} {m_nr : List Int32} {m_ty : List Int32} {m_pa : List Int32} {m_fn : List Int64} {m_md : List Int64} {m_ms : List Int32} {m_mr : List Int32} {w1 : Int32} {w3 : Int32} {w5 : Int32} {K : Int32 → Option (Int32)} (hK : ∀ (v4 : Int32)  (res : Int32), K v4 = some res → tG l E RX8 cX8_component 7 (some .int) false 1 (fun r h' => r = some (.int res) ∧ h' = encM m_n m_pt m_rc m_sa m_sb m_sc m_is m_os m_vn m_vc m_va m_vb m_ve m_no m_pl m_fa m_oc m_fu m_ke m_t m_f m_rs m_rt m_rf m_st m_ib m_ob m_al m_el m_vt m_vf m_vs m_nr m_ty m_pa m_fn m_md m_ms m_mr) 0 0 78 [(0, .ref 0), (1, .int w1), (3, .int w3), (4, .int v4), (5, .int w5)] [] (encM m_n m_pt m_rc m_sa m_sb m_sc m_is m_os m_vn m_vc m_va m_vb m_ve m_no m_pl m_fa m_oc m_fu m_ke m_t m_f m_rs m_rt m_rf m_st m_ib m_ob m_al m_el m_vt m_vf m_vs m_nr m_ty m_pa m_fn m_md m_ms m_mr)) :
    ∀ (fu : Nat) (v4 : Int32) (v6 : Int32) (res : Int32), f_X8_component_L20 w1 w3 m_n m_nr K fu v4 v6 = some res → tG l E RX8 cX8_component 7 (some .int) false 1 (fun r h' => r = some (.int res) ∧ h' = encM m_n m_pt m_rc m_sa m_sb m_sc m_is m_os m_vn m_vc m_va m_vb m_ve m_no m_pl m_fa m_oc m_fu m_ke m_t m_f m_rs m_rt m_rf m_st m_ib m_ob m_al m_el m_vt m_vf m_vs m_nr m_ty m_pa m_fn m_md m_ms m_mr) 0 0 20 [(0, .ref 0), (1, .int w1), (3, .int w3), (4, .int v4), (5, .int w5), (6, .int v6)] [] (encM m_n m_pt m_rc m_sa m_sb m_sc m_is m_os m_vn m_vc m_va m_vb m_ve m_no m_pl m_fa m_oc m_fu m_ke m_t m_f m_rs m_rt m_rf m_st m_ib m_ob m_al m_el m_vt m_vf m_vs m_nr m_ty m_pa m_fn m_md m_ms m_mr) := by
  intro fu
  induction fu with
  | zero => intro v4 v6 res hf; exact nomatch (show none = some res from hf)
  | succ fu ih =>
    intro v4 v6 res hf
    rw [f_X8_component_L20] at hf
    refine g_iload 5 (q := 22) dX8_component_20 rfl rfl ?_
    refine g_aload_n 0 (q := 23) dX8_component_22 rfl rfl ?_
    refine g_get (q := 26) fl_X8_7 dX8_component_23 rfl rfl rfl ?_
    refine g_icmp_ge (t := 78) (q := 29) dX8_component_26 (by decide) rfl (fun c2 => ?_) (fun c2 => ?_)
    · rw [if_pos c2] at hf
      refine g_ls [0, 1, 2, 3, 4] rfl ?_
      exact hK _ _ hf
    · rw [if_neg c2] at hf
      refine g_iload 3 (q := 31) dX8_component_29 rfl rfl ?_
      refine g_iload 5 (q := 33) dX8_component_31 rfl rfl ?_
      refine g_ishr (q := 34) dX8_component_33 rfl ?_
      refine g_iconst (q := 35) (v := 1) dX8_component_34 rfl rfl ?_
      refine g_iand (q := 36) dX8_component_35 rfl ?_
      refine g_if_ne (t := 42) (q := 39) dX8_component_36 (by decide) rfl (fun c3 => ?_) (fun c3 => ?_)
      · rw [if_neg c3] at hf
        refine g_iload 3 (q := 44) dX8_component_42 rfl rfl ?_
        refine g_iload_n 1 (q := 45) dX8_component_44 rfl rfl ?_
        refine g_iload_n 2 (q := 46) dX8_component_45 rfl rfl ?_
        refine g_if_eq (t := 61) (q := 49) dX8_component_46 (by decide) rfl (fun c4 => ?_) (fun c4 => ?_)
        · rw [if_pos c4] at hf
          refine g_aload_n 0 (q := 62) dX8_component_61 rfl rfl ?_
          refine g_get (q := 65) fl_X8_61 dX8_component_62 rfl rfl rfl ?_
          refine g_iload 5 (q := 67) dX8_component_65 rfl rfl ?_
          obtain ⟨r5, e6, hf⟩ := Option.bind_eq_some_iff.mp hf
          refine g_iaload (q := 68) dX8_component_67 rfl rfl e6 ?_
          refine g_iand (q := 69) dX8_component_68 rfl ?_
          refine g_ior (q := 70) dX8_component_69 rfl ?_
          refine g_istore (q := 72) (L' := [(0, .ref 0), (1, .int w1), (3, .int w3), (4, .int (v4 ||| (w1 &&& r5))), (5, .int w5), (6, .int v6)]) dX8_component_70 rfl (by decide) rfl ?_
          refine g_iinc 5 (q := 75) (v := (v6 + 1)) (L' := [(0, .ref 0), (1, .int w1), (3, .int w3), (4, .int (v4 ||| (w1 &&& r5))), (5, .int w5), (6, .int (v6 + 1))]) dX8_component_72 rfl rfl rfl (by decide) rfl ?_
          refine g_goto (t := 20) dX8_component_75 (by decide) ?_
          refine g_ls [0, 1, 2, 3, 4, 5] rfl ?_
          exact ih _ _ _ hf
        · rw [if_neg c4] at hf
          refine g_aload_n 0 (q := 50) dX8_component_49 rfl rfl ?_
          refine g_get (q := 53) fl_X8_61 dX8_component_50 rfl rfl rfl ?_
          refine g_iload 5 (q := 55) dX8_component_53 rfl rfl ?_
          obtain ⟨r7, e8, hf⟩ := Option.bind_eq_some_iff.mp hf
          refine g_iaload (q := 56) dX8_component_55 rfl rfl e8 ?_
          refine g_iconst (q := 57) (v := (-1)) dX8_component_56 rfl rfl ?_
          refine g_ixor (q := 58) dX8_component_57 rfl ?_
          refine g_goto (t := 68) dX8_component_58 (by decide) ?_
          refine g_iand (q := 69) dX8_component_68 rfl ?_
          refine g_ior (q := 70) dX8_component_69 rfl ?_
          refine g_istore (q := 72) (L' := [(0, .ref 0), (1, .int w1), (3, .int w3), (4, .int (v4 ||| (w1 &&& (r7 ^^^ (-1))))), (5, .int w5), (6, .int v6)]) dX8_component_70 rfl (by decide) rfl ?_
          refine g_iinc 5 (q := 75) (v := (v6 + 1)) (L' := [(0, .ref 0), (1, .int w1), (3, .int w3), (4, .int (v4 ||| (w1 &&& (r7 ^^^ (-1))))), (5, .int w5), (6, .int (v6 + 1))]) dX8_component_72 rfl rfl rfl (by decide) rfl ?_
          refine g_goto (t := 20) dX8_component_75 (by decide) ?_
          refine g_ls [0, 1, 2, 3, 4, 5] rfl ?_
          exact ih _ _ _ hf
      · rw [if_pos c3] at hf
        refine g_goto (t := 72) dX8_component_39 (by decide) ?_
        refine g_iinc 5 (q := 75) (v := (v6 + 1)) (L' := [(0, .ref 0), (1, .int w1), (3, .int w3), (4, .int v4), (5, .int w5), (6, .int (v6 + 1))]) dX8_component_72 rfl rfl rfl (by decide) rfl ?_
        refine g_goto (t := 20) dX8_component_75 (by decide) ?_
        refine g_ls [0, 1, 2, 3, 4, 5] rfl ?_
        exact ih _ _ _ hf
set_option maxRecDepth 20000 in
set_option maxHeartbeats 4000000 in
theorem ev_X8_component_L8 {l : Launch} {E : tEn}   {m_n : Int32} {m_pt : Int32} {m_rc : Int32} {m_sa : Int64} {m_sb : Int64} {m_sc : Int32} {m_is : Int32} {m_os : Int32} {m_vn : Int32} {m_vc : Int32} {m_va : Int64} {m_vb : Int64} {m_ve : Int32} {m_no : Int32} {m_pl : Int32} {m_fa : Int32} {m_oc : Int32} {m_fu : Int32} {m_ke : Int32} {m_t : List Int64} {m_f : List Int32} {m_rs : List Int32} {m_rt : List Int64} {m_rf : List Int32} {m_st : List Int32} {m_ib : List Int32} {m_ob : List Int32} {m_al : List Int32} {m_el : List Int32} {m_vt : List Int64} {m_vf : List Int32} {m_vs : List Int32} {m_nr : List Int32} {m_ty : List Int32} {m_pa : List Int32} {m_fn : List Int64} {m_md : List Int64} {m_ms : List Int32} {m_mr : List Int32} {w1 : Int32} {w3 : Int32} {K : Int32 → Option (Int32)} (hK : ∀ (v4 : Int32)  (res : Int32), K v4 = some res → tG l E RX8 cX8_component 7 (some .int) false 1 (fun r h' => r = some (.int res) ∧ h' = encM m_n m_pt m_rc m_sa m_sb m_sc m_is m_os m_vn m_vc m_va m_vb m_ve m_no m_pl m_fa m_oc m_fu m_ke m_t m_f m_rs m_rt m_rf m_st m_ib m_ob m_al m_el m_vt m_vf m_vs m_nr m_ty m_pa m_fn m_md m_ms m_mr) 0 0 84 [(4, .int v4)] [] (encM m_n m_pt m_rc m_sa m_sb m_sc m_is m_os m_vn m_vc m_va m_vb m_ve m_no m_pl m_fa m_oc m_fu m_ke m_t m_f m_rs m_rt m_rf m_st m_ib m_ob m_al m_el m_vt m_vf m_vs m_nr m_ty m_pa m_fn m_md m_ms m_mr)) :
    ∀ (fu : Nat) (v4 : Int32) (v5 : Int32) (res : Int32), f_X8_component_L8 w1 w3 m_n m_nr K fu v4 v5 = some res → tG l E RX8 cX8_component 7 (some .int) false 1 (fun r h' => r = some (.int res) ∧ h' = encM m_n m_pt m_rc m_sa m_sb m_sc m_is m_os m_vn m_vc m_va m_vb m_ve m_no m_pl m_fa m_oc m_fu m_ke m_t m_f m_rs m_rt m_rf m_st m_ib m_ob m_al m_el m_vt m_vf m_vs m_nr m_ty m_pa m_fn m_md m_ms m_mr) 0 0 8 [(0, .ref 0), (1, .int w1), (3, .int w3), (4, .int v4), (5, .int v5)] [] (encM m_n m_pt m_rc m_sa m_sb m_sc m_is m_os m_vn m_vc m_va m_vb m_ve m_no m_pl m_fa m_oc m_fu m_ke m_t m_f m_rs m_rt m_rf m_st m_ib m_ob m_al m_el m_vt m_vf m_vs m_nr m_ty m_pa m_fn m_md m_ms m_mr) := by
  intro fu
  induction fu with
  | zero => intro v4 v5 res hf; exact nomatch (show none = some res from hf)
  | succ fu ih =>
    intro v4 v5 res hf
    rw [f_X8_component_L8] at hf
    refine g_iload 4 (q := 10) dX8_component_8 rfl rfl ?_
    refine g_aload_n 0 (q := 11) dX8_component_10 rfl rfl ?_
    refine g_get (q := 14) fl_X8_7 dX8_component_11 rfl rfl rfl ?_
    refine g_icmp_ge (t := 84) (q := 17) dX8_component_14 (by decide) rfl (fun c1 => ?_) (fun c1 => ?_)
    · rw [if_pos c1] at hf
      refine g_ls [3] rfl ?_
      exact hK _ _ hf
    · rw [if_neg c1] at hf
      refine g_iconst (q := 18) (v := 0) dX8_component_17 rfl rfl ?_
      refine g_istore (q := 20) (L' := [(0, .ref 0), (1, .int w1), (3, .int w3), (4, .int v4), (5, .int v5), (6, .int 0)]) dX8_component_18 rfl (by decide) rfl ?_
      refine g_ls [0, 1, 2, 3, 4, 5] rfl ?_
      refine ev_X8_component_L20 (fun y9 res hf => ?_) tFU _ _ res hf
      refine g_iinc 4 (q := 81) (v := (v5 + 1)) (L' := [(0, .ref 0), (1, .int w1), (3, .int w3), (4, .int y9), (5, .int (v5 + 1))]) dX8_component_78 rfl rfl rfl (by decide) rfl ?_
      refine g_goto (t := 8) dX8_component_81 (by decide) ?_
      refine g_ls [0, 1, 2, 3, 4] rfl ?_
      exact ih _ _ _ hf
set_option maxRecDepth 20000 in
set_option maxHeartbeats 4000000 in
theorem ev_X8_component {l : Launch} {E : tEn}  {m_n : Int32} {m_pt : Int32} {m_rc : Int32} {m_sa : Int64} {m_sb : Int64} {m_sc : Int32} {m_is : Int32} {m_os : Int32} {m_vn : Int32} {m_vc : Int32} {m_va : Int64} {m_vb : Int64} {m_ve : Int32} {m_no : Int32} {m_pl : Int32} {m_fa : Int32} {m_oc : Int32} {m_fu : Int32} {m_ke : Int32} {m_t : List Int64} {m_f : List Int32} {m_rs : List Int32} {m_rt : List Int64} {m_rf : List Int32} {m_st : List Int32} {m_ib : List Int32} {m_ob : List Int32} {m_al : List Int32} {m_el : List Int32} {m_vt : List Int64} {m_vf : List Int32} {m_vs : List Int32} {m_nr : List Int32} {m_ty : List Int32} {m_pa : List Int32} {m_fn : List Int64} {m_md : List Int64} {m_ms : List Int32} {m_mr : List Int32} {a0 : Int32} {a1 : Int32} {a2 : Int32} {res : Int32} (hf : f_X8_component a0 a1 a2 m_n m_nr = some res) : tEv l E yX8_component cX8_component 7 (some .int) 1 0 0 [.ref 0, .int a0, .int a1, .int a2] (encM m_n m_pt m_rc m_sa m_sb m_sc m_is m_os m_vn m_vc m_va m_vb m_ve m_no m_pl m_fa m_oc m_fu m_ke m_t m_f m_rs m_rt m_rf m_st m_ib m_ob m_al m_el m_vt m_vf m_vs m_nr m_ty m_pa m_fn m_md m_ms m_mr) (fun r h' => r = some (.int res) ∧ h' = encM m_n m_pt m_rc m_sa m_sb m_sc m_is m_os m_vn m_vc m_va m_vb m_ve m_no m_pl m_fa m_oc m_fu m_ke m_t m_f m_rs m_rt m_rf m_st m_ib m_ob m_al m_el m_vt m_vf m_vs m_nr m_ty m_pa m_fn m_md m_ms m_mr) := by
  refine tEv.of (own := RX8) (ini := false) (L := [(0, .ref 0), (1, .int a0), (2, .int a1), (3, .int a2)]) (by decide +kernel) rfl (fun h9 => nomatch h9) rfl (Nat.le_of_ble_eq_true rfl) ?_
  rw [f_X8_component] at hf
  refine g_iconst (q := 1) (v := 1) dX8_component_0 rfl rfl ?_
  refine g_iload_n 2 (q := 2) dX8_component_1 rfl rfl ?_
  refine g_ishl (q := 3) dX8_component_2 rfl ?_
  refine g_istore (q := 5) (L' := [(0, .ref 0), (1, .int a0), (2, .int a1), (3, .int a2), (4, .int ((1 : Int32) <<< (a1 &&& 31)))]) dX8_component_3 rfl (by decide) rfl ?_
  refine g_iconst (q := 6) (v := 0) dX8_component_5 rfl rfl ?_
  refine g_istore (q := 8) (L' := [(0, .ref 0), (1, .int a0), (2, .int a1), (3, .int a2), (4, .int ((1 : Int32) <<< (a1 &&& 31))), (5, .int 0)]) dX8_component_6 rfl (by decide) rfl ?_
  refine g_ls [0, 1, 3, 4, 5] rfl ?_
  refine ev_X8_component_L8 (fun y10 res hf => ?_) tFU _ _ res hf
  refine g_iload 0 (q := 86) dX8_component_84 rfl rfl ?_
  have hf := Option.some.inj hf
  subst hf
  exact g_ireturn dX8_component_86 rfl ⟨rfl, rfl⟩
def f_X8_grow_L83 (rc : Int32 → Int32 → Int32 → Int32 → List Int32 → List Int32 → List Int32 → Option (Int32 × List Int32 × List Int32)) (w1 : Int32) (w3 : Int32) (w4 : Int32) (m_n : Int32) (m_nr : List Int32) (K : Int32 → List Int32 → List Int32 → Option (Int32 × List Int32 × List Int32)) : Nat → Int32 → Int32 → List Int32 → List Int32 → Option (Int32 × List Int32 × List Int32)
  | 0, _, _, _, _ => none
  | fu + 1, v5, m_no, m_ty, m_pa => (if v5 = 0 then K  m_no m_ty m_pa else (f_X8_lowest v5).bind fun r14 => (f_X8_component w1 r14 w4 m_n m_nr).bind fun r16 => (rc r16 w3 m_n m_no m_nr m_ty m_pa).bind fun r18 => f_X8_grow_L83 rc w1 w3 w4 m_n m_nr K fu (v5 &&& (r16 ^^^ (-1))) (r18.1) (r18.2.1) (r18.2.2))
def f_X8_grow : Nat → (Int32 → Int32 → Int32 → Int32 → List Int32 → List Int32 → List Int32 → Option (Int32 × List Int32 × List Int32))
  | 0 => fun _ _ _ _ _ _ _ => none
  | D + 1 => fun a0 a1 m_n m_no m_nr m_ty m_pa => (tst m_pa m_no a1).bind fun z1 => (f_X8_bits a0).bind fun r3 => (if r3 = 1 then (f_X8_lowest a0).bind fun r28 => (tst m_ty m_no r28).bind fun z30 => some ((m_no + 1), z30, z1) else (f_X8_lowest a0).bind fun r6 => (f_X8_component a0 r6 0 m_n m_nr).bind fun r8 => (if r8 = a0 then (tst m_ty m_no 10).bind fun z23 => f_X8_grow_L83 (f_X8_grow D) a0 m_no 1 m_n m_nr (fun k25 k26 k27 => some (k25, k26, k27)) tFU a0 (m_no + 1) z23 z1 else (tst m_ty m_no 11).bind fun z11 => f_X8_grow_L83 (f_X8_grow D) a0 m_no 0 m_n m_nr (fun k20 k21 k22 => some (k20, k21, k22)) tFU a0 (m_no + 1) z11 z1))
set_option maxRecDepth 20000 in
set_option maxHeartbeats 4000000 in
theorem ev_X8_grow_L83 {l : Launch} {E : tEn}  {rc : Int32 → Int32 → Int32 → Int32 → List Int32 → List Int32 → List Int32 → Option (Int32 × List Int32 × List Int32)} {dd dq : Nat} (hdd : 2 ≤ dd) (hdq : dd + 1 ≤ dq) (hrc : ∀ {m_n : Int32} {m_pt : Int32} {m_rc : Int32} {m_sa : Int64} {m_sb : Int64} {m_sc : Int32} {m_is : Int32} {m_os : Int32} {m_vn : Int32} {m_vc : Int32} {m_va : Int64} {m_vb : Int64} {m_ve : Int32} {m_no : Int32} {m_pl : Int32} {m_fa : Int32} {m_oc : Int32} {m_fu : Int32} {m_ke : Int32} {m_t : List Int64} {m_f : List Int32} {m_rs : List Int32} {m_rt : List Int64} {m_rf : List Int32} {m_st : List Int32} {m_ib : List Int32} {m_ob : List Int32} {m_al : List Int32} {m_el : List Int32} {m_vt : List Int64} {m_vf : List Int32} {m_vs : List Int32} {m_nr : List Int32} {m_ty : List Int32} {m_pa : List Int32} {m_fn : List Int64} {m_md : List Int64} {m_ms : List Int32} {m_mr : List Int32} {a0 : Int32} {a1 : Int32} {res : Int32 × List Int32 × List Int32}, rc a0 a1 m_n m_no m_nr m_ty m_pa = some res → tEv l E yX8_grow cX8_grow 7 none dd 0 0 [.ref 0, .int a0, .int a1] (encM m_n m_pt m_rc m_sa m_sb m_sc m_is m_os m_vn m_vc m_va m_vb m_ve m_no m_pl m_fa m_oc m_fu m_ke m_t m_f m_rs m_rt m_rf m_st m_ib m_ob m_al m_el m_vt m_vf m_vs m_nr m_ty m_pa m_fn m_md m_ms m_mr) (fun r h' => r = none ∧ h' = encM m_n m_pt m_rc m_sa m_sb m_sc m_is m_os m_vn m_vc m_va m_vb m_ve (res.1) m_pl m_fa m_oc m_fu m_ke m_t m_f m_rs m_rt m_rf m_st m_ib m_ob m_al m_el m_vt m_vf m_vs m_nr (res.2.1) (res.2.2) m_fn m_md m_ms m_mr)) {m_n : Int32} {m_pt : Int32} {m_rc : Int32} {m_sa : Int64} {m_sb : Int64} {m_sc : Int32} {m_is : Int32} {m_os : Int32} {m_vn : Int32} {m_vc : Int32} {m_va : Int64} {m_vb : Int64} {m_ve : Int32} {m_pl : Int32} {m_fa : Int32} {m_oc : Int32} {m_fu : Int32} {m_ke : Int32} {m_t : List Int64} {m_f : List Int32} {m_rs : List Int32} {m_rt : List Int64} {m_rf : List Int32} {m_st : List Int32} {m_ib : List Int32} {m_ob : List Int32} {m_al : List Int32} {m_el : List Int32} {m_vt : List Int64} {m_vf : List Int32} {m_vs : List Int32} {m_nr : List Int32} {m_fn : List Int64} {m_md : List Int64} {m_ms : List Int32} {m_mr : List Int32} {w1 : Int32} {w3 : Int32} {w4 : Int32} {K : Int32 → List Int32 → List Int32 → Option (Int32 × List Int32 × List Int32)} (hK : ∀  (m_no : Int32) (m_ty : List Int32) (m_pa : List Int32) (res : Int32 × List Int32 × List Int32), K m_no m_ty m_pa = some res → tG l E RX8 cX8_grow 7 none false dq (fun r h' => r = none ∧ h' = encM m_n m_pt m_rc m_sa m_sb m_sc m_is m_os m_vn m_vc m_va m_vb m_ve (res.1) m_pl m_fa m_oc m_fu m_ke m_t m_f m_rs m_rt m_rf m_st m_ib m_ob m_al m_el m_vt m_vf m_vs m_nr (res.2.1) (res.2.2) m_fn m_md m_ms m_mr) 0 0 121 [] [] (encM m_n m_pt m_rc m_sa m_sb m_sc m_is m_os m_vn m_vc m_va m_vb m_ve m_no m_pl m_fa m_oc m_fu m_ke m_t m_f m_rs m_rt m_rf m_st m_ib m_ob m_al m_el m_vt m_vf m_vs m_nr m_ty m_pa m_fn m_md m_ms m_mr)) :
    ∀ (fu : Nat) (v5 : Int32) (m_no : Int32) (m_ty : List Int32) (m_pa : List Int32) (res : Int32 × List Int32 × List Int32), f_X8_grow_L83 rc w1 w3 w4 m_n m_nr K fu v5 m_no m_ty m_pa = some res → tG l E RX8 cX8_grow 7 none false dq (fun r h' => r = none ∧ h' = encM m_n m_pt m_rc m_sa m_sb m_sc m_is m_os m_vn m_vc m_va m_vb m_ve (res.1) m_pl m_fa m_oc m_fu m_ke m_t m_f m_rs m_rt m_rf m_st m_ib m_ob m_al m_el m_vt m_vf m_vs m_nr (res.2.1) (res.2.2) m_fn m_md m_ms m_mr) 0 0 83 [(0, .ref 0), (1, .int w1), (3, .int w3), (4, .int w4), (5, .int v5)] [] (encM m_n m_pt m_rc m_sa m_sb m_sc m_is m_os m_vn m_vc m_va m_vb m_ve m_no m_pl m_fa m_oc m_fu m_ke m_t m_f m_rs m_rt m_rf m_st m_ib m_ob m_al m_el m_vt m_vf m_vs m_nr m_ty m_pa m_fn m_md m_ms m_mr) := by
  intro fu
  induction fu with
  | zero => intro v5 m_no m_ty m_pa res hf; exact nomatch (show none = some res from hf)
  | succ fu ih =>
    intro v5 m_no m_ty m_pa res hf
    rw [f_X8_grow_L83] at hf
    refine g_iload 4 (q := 85) dX8_grow_83 rfl rfl ?_
    refine g_if_eq (t := 121) (q := 88) dX8_grow_85 (by decide) rfl (fun c13 => ?_) (fun c13 => ?_)
    · rw [if_pos c13] at hf
      refine g_ls [] rfl ?_
      exact hK _ _ _ _ hf
    · rw [if_neg c13] at hf
      refine g_aload_n 0 (q := 89) dX8_grow_88 rfl rfl ?_
      refine g_iload_n 1 (q := 90) dX8_grow_89 rfl rfl ?_
      refine g_iload 4 (q := 92) dX8_grow_90 rfl rfl ?_
      obtain ⟨r14, e15, hf⟩ := Option.bind_eq_some_iff.mp hf
      refine g_callS (k2 := 0) (n2 := 0) (q := 95) (as := [.int v5]) (st := [.int w1, .ref 0]) (st1 := [.int r14, .int w1, .ref 0]) tm_X8_lowest ml_X8_197 ts_X8_lowest dX8_grow_92 rfl (ev_X8_lowest e15) rfl rfl (Nat.le_of_ble_eq_true rfl) (by omega) rfl rfl (Or.inl rfl) rfl ?_
      refine g_iload 3 (q := 97) dX8_grow_95 rfl rfl ?_
      obtain ⟨r16, e17, hf⟩ := Option.bind_eq_some_iff.mp hf
      refine g_callV (a := 0) (k2 := 0) (n2 := 0) (q := 100) (as := [.int w1, .int r14, .int w4]) (st := []) (st1 := [.int r16]) tm_X8_component ml_X8_200 ti_X8_component rfl rfl dX8_grow_97 rfl (ev_X8_component e17) rfl rfl (Nat.le_of_ble_eq_true rfl) (by omega) rfl rfl (Or.inl rfl) rfl ?_
      refine g_istore (q := 102) (L' := [(0, .ref 0), (1, .int w1), (3, .int w3), (4, .int w4), (5, .int v5), (6, .int r16)]) dX8_grow_100 rfl (by decide) rfl ?_
      refine g_aload_n 0 (q := 103) dX8_grow_102 rfl rfl ?_
      refine g_iload 5 (q := 105) dX8_grow_103 rfl rfl ?_
      refine g_iload_n 2 (q := 106) dX8_grow_105 rfl rfl ?_
      obtain ⟨r18, e19, hf⟩ := Option.bind_eq_some_iff.mp hf
      refine g_callV (a := 0) (k2 := 0) (n2 := 0) (q := 109) (as := [.int r16, .int w3]) (st := []) (st1 := []) tm_X8_grow ml_X8_204 ti_X8_grow rfl rfl dX8_grow_106 rfl (hrc e19) rfl rfl (Nat.le_of_ble_eq_true rfl) (by omega) rfl rfl (Or.inl (encM_len.trans encM_len.symm)) rfl ?_
      refine g_iload 4 (q := 111) dX8_grow_109 rfl rfl ?_
      refine g_iload 5 (q := 113) dX8_grow_111 rfl rfl ?_
      refine g_iconst (q := 114) (v := (-1)) dX8_grow_113 rfl rfl ?_
      refine g_ixor (q := 115) dX8_grow_114 rfl ?_
      refine g_iand (q := 116) dX8_grow_115 rfl ?_
      refine g_istore (q := 118) (L' := [(0, .ref 0), (1, .int w1), (3, .int w3), (4, .int w4), (5, .int (v5 &&& (r16 ^^^ (-1)))), (6, .int r16)]) dX8_grow_116 rfl (by decide) rfl ?_
      refine g_goto (t := 83) dX8_grow_118 (by decide) ?_
      refine g_ls [0, 1, 2, 3, 4] rfl ?_
      exact ih _ _ _ _ _ hf
set_option maxRecDepth 20000 in
set_option maxHeartbeats 4000000 in
theorem ev_X8_grow {l : Launch} {E : tEn}  : ∀ (D : Nat) {m_n : Int32} {m_pt : Int32} {m_rc : Int32} {m_sa : Int64} {m_sb : Int64} {m_sc : Int32} {m_is : Int32} {m_os : Int32} {m_vn : Int32} {m_vc : Int32} {m_va : Int64} {m_vb : Int64} {m_ve : Int32} {m_no : Int32} {m_pl : Int32} {m_fa : Int32} {m_oc : Int32} {m_fu : Int32} {m_ke : Int32} {m_t : List Int64} {m_f : List Int32} {m_rs : List Int32} {m_rt : List Int64} {m_rf : List Int32} {m_st : List Int32} {m_ib : List Int32} {m_ob : List Int32} {m_al : List Int32} {m_el : List Int32} {m_vt : List Int64} {m_vf : List Int32} {m_vs : List Int32} {m_nr : List Int32} {m_ty : List Int32} {m_pa : List Int32} {m_fn : List Int64} {m_md : List Int64} {m_ms : List Int32} {m_mr : List Int32} {a0 : Int32} {a1 : Int32} {res : Int32 × List Int32 × List Int32}, f_X8_grow D a0 a1 m_n m_no m_nr m_ty m_pa = some res → tEv l E yX8_grow cX8_grow 7 none (1 * D + 2) 0 0 [.ref 0, .int a0, .int a1] (encM m_n m_pt m_rc m_sa m_sb m_sc m_is m_os m_vn m_vc m_va m_vb m_ve m_no m_pl m_fa m_oc m_fu m_ke m_t m_f m_rs m_rt m_rf m_st m_ib m_ob m_al m_el m_vt m_vf m_vs m_nr m_ty m_pa m_fn m_md m_ms m_mr) (fun r h' => r = none ∧ h' = encM m_n m_pt m_rc m_sa m_sb m_sc m_is m_os m_vn m_vc m_va m_vb m_ve (res.1) m_pl m_fa m_oc m_fu m_ke m_t m_f m_rs m_rt m_rf m_st m_ib m_ob m_al m_el m_vt m_vf m_vs m_nr (res.2.1) (res.2.2) m_fn m_md m_ms m_mr) := by
  intro D
  induction D with
  | zero => intro m_n m_pt m_rc m_sa m_sb m_sc m_is m_os m_vn m_vc m_va m_vb m_ve m_no m_pl m_fa m_oc m_fu m_ke m_t m_f m_rs m_rt m_rf m_st m_ib m_ob m_al m_el m_vt m_vf m_vs m_nr m_ty m_pa m_fn m_md m_ms m_mr a0 a1 res hf; exact nomatch (show none = some res from hf)
  | succ D ih =>
    intro m_n m_pt m_rc m_sa m_sb m_sc m_is m_os m_vn m_vc m_va m_vb m_ve m_no m_pl m_fa m_oc m_fu m_ke m_t m_f m_rs m_rt m_rf m_st m_ib m_ob m_al m_el m_vt m_vf m_vs m_nr m_ty m_pa m_fn m_md m_ms m_mr a0 a1 res hf
    have hrc := @ih
    have hdd : 2 ≤ 1 * D + 2 := by omega
    have hdq : 1 * D + 2 + 1 ≤ 1 * (D + 1) + 2 := by omega
    refine tEv.of (own := RX8) (ini := false) (L := [(0, .ref 0), (1, .int a0), (2, .int a1)]) (by decide +kernel) rfl (fun h9 => nomatch h9) rfl (Nat.le_of_ble_eq_true rfl) ?_
    rw [f_X8_grow] at hf
    dsimp only at hf
    refine g_aload_n 0 (q := 1) dX8_grow_0 rfl rfl ?_
    refine g_get (q := 4) fl_X8_191 dX8_grow_1 rfl rfl rfl ?_
    refine g_istore_n (q := 5) (L' := [(0, .ref 0), (1, .int a0), (2, .int a1), (3, .int m_no)]) dX8_grow_4 rfl (by decide) rfl ?_
    refine g_aload_n 0 (q := 6) dX8_grow_5 rfl rfl ?_
    refine g_get (q := 9) fl_X8_67 dX8_grow_6 rfl rfl rfl ?_
    refine g_iload_n 3 (q := 10) dX8_grow_9 rfl rfl ?_
    refine g_iload_n 2 (q := 11) dX8_grow_10 rfl rfl ?_
    obtain ⟨z1, e2, hf⟩ := Option.bind_eq_some_iff.mp hf
    refine g_iastore (q := 12) (h' := encM m_n m_pt m_rc m_sa m_sb m_sc m_is m_os m_vn m_vc m_va m_vb m_ve m_no m_pl m_fa m_oc m_fu m_ke m_t m_f m_rs m_rt m_rf m_st m_ib m_ob m_al m_el m_vt m_vf m_vs m_nr m_ty z1 m_fn m_md m_ms m_mr) dX8_grow_11 rfl rfl e2 rfl ?_
    refine g_aload_n 0 (q := 13) dX8_grow_12 rfl rfl ?_
    refine g_dup (q := 14) dX8_grow_13 rfl rfl ?_
    refine g_get (q := 17) fl_X8_191 dX8_grow_14 rfl rfl rfl ?_
    refine g_iconst (q := 18) (v := 1) dX8_grow_17 rfl rfl ?_
    refine g_iadd (q := 19) dX8_grow_18 rfl ?_
    refine g_put (q := 22) (h' := encM m_n m_pt m_rc m_sa m_sb m_sc m_is m_os m_vn m_vc m_va m_vb m_ve (m_no + 1) m_pl m_fa m_oc m_fu m_ke m_t m_f m_rs m_rt m_rf m_st m_ib m_ob m_al m_el m_vt m_vf m_vs m_nr m_ty z1 m_fn m_md m_ms m_mr) fp_X8_191 dX8_grow_19 rfl rfl (Nat.le_of_ble_eq_true rfl) (fun _ => ⟨rfl, rfl⟩) rfl ?_
    refine g_iload_n 1 (q := 23) dX8_grow_22 rfl rfl ?_
    obtain ⟨r3, e4, hf⟩ := Option.bind_eq_some_iff.mp hf
    refine g_callS (k2 := 0) (n2 := 0) (q := 26) (as := [.int a0]) (st := []) (st1 := [.int r3]) tm_X8_bits ml_X8_194 ts_X8_bits dX8_grow_23 rfl (ev_X8_bits e4) rfl rfl (Nat.le_of_ble_eq_true rfl) (by omega) rfl rfl (Or.inl rfl) rfl ?_
    refine g_iconst (q := 27) (v := 1) dX8_grow_26 rfl rfl ?_
    refine g_icmp_ne (t := 41) (q := 30) dX8_grow_27 (by decide) rfl (fun c5 => ?_) (fun c5 => ?_)
    · rw [if_neg c5] at hf
      refine g_aload_n 0 (q := 42) dX8_grow_41 rfl rfl ?_
      refine g_iload_n 1 (q := 43) dX8_grow_42 rfl rfl ?_
      refine g_iload_n 1 (q := 44) dX8_grow_43 rfl rfl ?_
      obtain ⟨r6, e7, hf⟩ := Option.bind_eq_some_iff.mp hf
      refine g_callS (k2 := 0) (n2 := 0) (q := 47) (as := [.int a0]) (st := [.int a0, .ref 0]) (st1 := [.int r6, .int a0, .ref 0]) tm_X8_lowest ml_X8_197 ts_X8_lowest dX8_grow_44 rfl (ev_X8_lowest e7) rfl rfl (Nat.le_of_ble_eq_true rfl) (by omega) rfl rfl (Or.inl rfl) rfl ?_
      refine g_iconst (q := 48) (v := 0) dX8_grow_47 rfl rfl ?_
      obtain ⟨r8, e9, hf⟩ := Option.bind_eq_some_iff.mp hf
      refine g_callV (a := 0) (k2 := 0) (n2 := 0) (q := 51) (as := [.int a0, .int r6, .int 0]) (st := []) (st1 := [.int r8]) tm_X8_component ml_X8_200 ti_X8_component rfl rfl dX8_grow_48 rfl (ev_X8_component e9) rfl rfl (Nat.le_of_ble_eq_true rfl) (by omega) rfl rfl (Or.inl rfl) rfl ?_
      refine g_iload_n 1 (q := 52) dX8_grow_51 rfl rfl ?_
      refine g_icmp_ne (t := 59) (q := 55) dX8_grow_52 (by decide) rfl (fun c10 => ?_) (fun c10 => ?_)
      · rw [if_neg c10] at hf
        refine g_iconst (q := 60) (v := 0) dX8_grow_59 rfl rfl ?_
        refine g_istore (q := 62) (L' := [(0, .ref 0), (1, .int a0), (2, .int a1), (3, .int m_no), (4, .int 0)]) dX8_grow_60 rfl (by decide) rfl ?_
        refine g_aload_n 0 (q := 63) dX8_grow_62 rfl rfl ?_
        refine g_get (q := 66) fl_X8_64 dX8_grow_63 rfl rfl rfl ?_
        refine g_iload_n 3 (q := 67) dX8_grow_66 rfl rfl ?_
        refine g_iload 4 (q := 69) dX8_grow_67 rfl rfl ?_
        refine g_if_eq (t := 77) (q := 72) dX8_grow_69 (by decide) rfl (fun _ => ?_) (fun c => absurd c (by decide))
        refine g_bipush (q := 79) (v := 11) dX8_grow_77 rfl rfl ?_
        obtain ⟨z11, e12, hf⟩ := Option.bind_eq_some_iff.mp hf
        refine g_iastore (q := 80) (h' := encM m_n m_pt m_rc m_sa m_sb m_sc m_is m_os m_vn m_vc m_va m_vb m_ve (m_no + 1) m_pl m_fa m_oc m_fu m_ke m_t m_f m_rs m_rt m_rf m_st m_ib m_ob m_al m_el m_vt m_vf m_vs m_nr z11 z1 m_fn m_md m_ms m_mr) dX8_grow_79 rfl rfl e12 rfl ?_
        refine g_iload_n 1 (q := 81) dX8_grow_80 rfl rfl ?_
        refine g_istore (q := 83) (L' := [(0, .ref 0), (1, .int a0), (2, .int a1), (3, .int m_no), (4, .int 0), (5, .int a0)]) dX8_grow_81 rfl (by decide) rfl ?_
        refine g_ls [0, 1, 3, 4, 5] rfl ?_
        refine ev_X8_grow_L83 hdd hdq hrc (fun k20 k21 k22 res hf => ?_) tFU _ _ _ _ res hf
        have hf := Option.some.inj hf
        subst hf
        exact g_return dX8_grow_121 rfl ⟨rfl, rfl⟩
      · rw [if_pos c10] at hf
        refine g_iconst (q := 56) (v := 1) dX8_grow_55 rfl rfl ?_
        refine g_goto (t := 60) dX8_grow_56 (by decide) ?_
        refine g_istore (q := 62) (L' := [(0, .ref 0), (1, .int a0), (2, .int a1), (3, .int m_no), (4, .int 1)]) dX8_grow_60 rfl (by decide) rfl ?_
        refine g_aload_n 0 (q := 63) dX8_grow_62 rfl rfl ?_
        refine g_get (q := 66) fl_X8_64 dX8_grow_63 rfl rfl rfl ?_
        refine g_iload_n 3 (q := 67) dX8_grow_66 rfl rfl ?_
        refine g_iload 4 (q := 69) dX8_grow_67 rfl rfl ?_
        refine g_if_eq (t := 77) (q := 72) dX8_grow_69 (by decide) rfl (fun c => absurd c (by decide)) (fun _ => ?_)
        refine g_bipush (q := 74) (v := 10) dX8_grow_72 rfl rfl ?_
        refine g_goto (t := 79) dX8_grow_74 (by decide) ?_
        obtain ⟨z23, e24, hf⟩ := Option.bind_eq_some_iff.mp hf
        refine g_iastore (q := 80) (h' := encM m_n m_pt m_rc m_sa m_sb m_sc m_is m_os m_vn m_vc m_va m_vb m_ve (m_no + 1) m_pl m_fa m_oc m_fu m_ke m_t m_f m_rs m_rt m_rf m_st m_ib m_ob m_al m_el m_vt m_vf m_vs m_nr z23 z1 m_fn m_md m_ms m_mr) dX8_grow_79 rfl rfl e24 rfl ?_
        refine g_iload_n 1 (q := 81) dX8_grow_80 rfl rfl ?_
        refine g_istore (q := 83) (L' := [(0, .ref 0), (1, .int a0), (2, .int a1), (3, .int m_no), (4, .int 1), (5, .int a0)]) dX8_grow_81 rfl (by decide) rfl ?_
        refine g_ls [0, 1, 3, 4, 5] rfl ?_
        refine ev_X8_grow_L83 hdd hdq hrc (fun k25 k26 k27 res hf => ?_) tFU _ _ _ _ res hf
        have hf := Option.some.inj hf
        subst hf
        exact g_return dX8_grow_121 rfl ⟨rfl, rfl⟩
    · rw [if_pos c5] at hf
      refine g_aload_n 0 (q := 31) dX8_grow_30 rfl rfl ?_
      refine g_get (q := 34) fl_X8_64 dX8_grow_31 rfl rfl rfl ?_
      refine g_iload_n 3 (q := 35) dX8_grow_34 rfl rfl ?_
      refine g_iload_n 1 (q := 36) dX8_grow_35 rfl rfl ?_
      obtain ⟨r28, e29, hf⟩ := Option.bind_eq_some_iff.mp hf
      refine g_callS (k2 := 0) (n2 := 0) (q := 39) (as := [.int a0]) (st := [.int m_no, .ref 15]) (st1 := [.int r28, .int m_no, .ref 15]) tm_X8_lowest ml_X8_197 ts_X8_lowest dX8_grow_36 rfl (ev_X8_lowest e29) rfl rfl (Nat.le_of_ble_eq_true rfl) (by omega) rfl rfl (Or.inl rfl) rfl ?_
      obtain ⟨z30, e31, hf⟩ := Option.bind_eq_some_iff.mp hf
      refine g_iastore (q := 40) (h' := encM m_n m_pt m_rc m_sa m_sb m_sc m_is m_os m_vn m_vc m_va m_vb m_ve (m_no + 1) m_pl m_fa m_oc m_fu m_ke m_t m_f m_rs m_rt m_rf m_st m_ib m_ob m_al m_el m_vt m_vf m_vs m_nr z30 z1 m_fn m_md m_ms m_mr) dX8_grow_39 rfl rfl e31 rfl ?_
      have hf := Option.some.inj hf
      subst hf
      exact g_return dX8_grow_40 rfl ⟨rfl, rfl⟩
def f_X8_tree (a0 : Int32) (m_n : Int32) (m_pt : Int32) (m_ve : Int32) (m_no : Int32) (m_t : List Int64) (m_f : List Int32) (m_nr : List Int32) (m_ty : List Int32) (m_pa : List Int32) : Option (Int32 × Int32 × Int32 × List Int32 × List Int32 × List Int32) := (f_X8_wrong a0 m_f).bind fun r1 => (if r1 = 0 then (tld m_t a0).bind fun r4 => (f_X8_reasonOf r4 m_n m_pt m_ve m_nr).bind fun r6 => (if r6.1 = 0 then (tld m_t a0).bind fun r9 => (f_X8_graph r9 m_n m_pt (r6.2.1) (r6.2.2)).bind fun r11 => (if (r11.1) = 0 then some (0, r11.1, 0, r11.2, m_ty, m_pa) else (f_X8_grow tDP (r11.1) (-1) m_n 0 (r11.2) m_ty m_pa).bind fun r14 => some (0, r11.1, r14.1, r11.2, r14.2.1, r14.2.2)) else some ((-5), r6.2.1, m_no, r6.2.2, m_ty, m_pa)) else (f_X8_wrong a0 m_f).bind fun r16 => some (r16, m_ve, m_no, m_nr, m_ty, m_pa))
set_option maxRecDepth 20000 in
set_option maxHeartbeats 4000000 in
theorem ev_X8_tree {l : Launch} {E : tEn}  {m_n : Int32} {m_pt : Int32} {m_rc : Int32} {m_sa : Int64} {m_sb : Int64} {m_sc : Int32} {m_is : Int32} {m_os : Int32} {m_vn : Int32} {m_vc : Int32} {m_va : Int64} {m_vb : Int64} {m_ve : Int32} {m_no : Int32} {m_pl : Int32} {m_fa : Int32} {m_oc : Int32} {m_fu : Int32} {m_ke : Int32} {m_t : List Int64} {m_f : List Int32} {m_rs : List Int32} {m_rt : List Int64} {m_rf : List Int32} {m_st : List Int32} {m_ib : List Int32} {m_ob : List Int32} {m_al : List Int32} {m_el : List Int32} {m_vt : List Int64} {m_vf : List Int32} {m_vs : List Int32} {m_nr : List Int32} {m_ty : List Int32} {m_pa : List Int32} {m_fn : List Int64} {m_md : List Int64} {m_ms : List Int32} {m_mr : List Int32} {a0 : Int32} {res : Int32 × Int32 × Int32 × List Int32 × List Int32 × List Int32} (hf : f_X8_tree a0 m_n m_pt m_ve m_no m_t m_f m_nr m_ty m_pa = some res) : tEv l E yX8_tree cX8_tree 2 (some .int) 13 0 0 [.ref 0, .int a0] (encM m_n m_pt m_rc m_sa m_sb m_sc m_is m_os m_vn m_vc m_va m_vb m_ve m_no m_pl m_fa m_oc m_fu m_ke m_t m_f m_rs m_rt m_rf m_st m_ib m_ob m_al m_el m_vt m_vf m_vs m_nr m_ty m_pa m_fn m_md m_ms m_mr) (fun r h' => r = some (.int res.1) ∧ h' = encM m_n m_pt m_rc m_sa m_sb m_sc m_is m_os m_vn m_vc m_va m_vb (res.2.1) (res.2.2.1) m_pl m_fa m_oc m_fu m_ke m_t m_f m_rs m_rt m_rf m_st m_ib m_ob m_al m_el m_vt m_vf m_vs (res.2.2.2.1) (res.2.2.2.2.1) (res.2.2.2.2.2) m_fn m_md m_ms m_mr) := by
  refine tEv.of (own := RX8) (ini := false) (L := [(0, .ref 0), (1, .int a0)]) (by decide +kernel) rfl (fun h9 => nomatch h9) rfl (Nat.le_of_ble_eq_true rfl) ?_
  rw [f_X8_tree] at hf
  refine g_aload_n 0 (q := 1) dX8_tree_0 rfl rfl ?_
  refine g_iload_n 1 (q := 2) dX8_tree_1 rfl rfl ?_
  obtain ⟨r1, e2, hf⟩ := Option.bind_eq_some_iff.mp hf
  refine g_callV (a := 0) (k2 := 0) (n2 := 0) (q := 5) (as := [.int a0]) (st := []) (st1 := [.int r1]) tm_X8_wrong ml_X8_137 ti_X8_wrong rfl rfl dX8_tree_2 rfl (ev_X8_wrong e2) rfl rfl (Nat.le_of_ble_eq_true rfl) (by decide) rfl rfl (Or.inl rfl) rfl ?_
  refine g_if_eq (t := 14) (q := 8) dX8_tree_5 (by decide) rfl (fun c3 => ?_) (fun c3 => ?_)
  · rw [if_pos c3] at hf
    refine g_aload_n 0 (q := 15) dX8_tree_14 rfl rfl ?_
    refine g_aload_n 0 (q := 16) dX8_tree_15 rfl rfl ?_
    refine g_get (q := 19) fl_X8_16 dX8_tree_16 rfl rfl rfl ?_
    refine g_iload_n 1 (q := 20) dX8_tree_19 rfl rfl ?_
    obtain ⟨r4, e5, hf⟩ := Option.bind_eq_some_iff.mp hf
    refine g_laload (q := 21) dX8_tree_20 rfl rfl e5 ?_
    obtain ⟨r6, e7, hf⟩ := Option.bind_eq_some_iff.mp hf
    refine g_callV (a := 0) (k2 := 0) (n2 := 0) (q := 24) (as := [.long r4]) (st := []) (st1 := [.int r6.1]) tm_X8_reasonOf ml_X8_188 ti_X8_reasonOf rfl rfl dX8_tree_21 rfl (ev_X8_reasonOf e7) rfl rfl (Nat.le_of_ble_eq_true rfl) (by decide) rfl rfl (Or.inl (encM_len.trans encM_len.symm)) rfl ?_
    refine g_if_eq (t := 30) (q := 27) dX8_tree_24 (by decide) rfl (fun c8 => ?_) (fun c8 => ?_)
    · rw [if_pos c8] at hf
      refine g_aload_n 0 (q := 31) dX8_tree_30 rfl rfl ?_
      refine g_iconst (q := 32) (v := 0) dX8_tree_31 rfl rfl ?_
      refine g_put (q := 35) (h' := encM m_n m_pt m_rc m_sa m_sb m_sc m_is m_os m_vn m_vc m_va m_vb (r6.2.1) 0 m_pl m_fa m_oc m_fu m_ke m_t m_f m_rs m_rt m_rf m_st m_ib m_ob m_al m_el m_vt m_vf m_vs (r6.2.2) m_ty m_pa m_fn m_md m_ms m_mr) fp_X8_191 dX8_tree_32 rfl rfl (Nat.le_of_ble_eq_true rfl) (fun _ => ⟨rfl, rfl⟩) rfl ?_
      refine g_aload_n 0 (q := 36) dX8_tree_35 rfl rfl ?_
      refine g_aload_n 0 (q := 37) dX8_tree_36 rfl rfl ?_
      refine g_get (q := 40) fl_X8_16 dX8_tree_37 rfl rfl rfl ?_
      refine g_iload_n 1 (q := 41) dX8_tree_40 rfl rfl ?_
      obtain ⟨r9, e10, hf⟩ := Option.bind_eq_some_iff.mp hf
      refine g_laload (q := 42) dX8_tree_41 rfl rfl e10 ?_
      obtain ⟨r11, e12, hf⟩ := Option.bind_eq_some_iff.mp hf
      refine g_callV (a := 0) (k2 := 0) (n2 := 0) (q := 45) (as := [.long r9]) (st := []) (st1 := []) tm_X8_graph ml_X8_166 ti_X8_graph rfl rfl dX8_tree_42 rfl (ev_X8_graph e12) rfl rfl (Nat.le_of_ble_eq_true rfl) (by decide) rfl rfl (Or.inl (encM_len.trans encM_len.symm)) rfl ?_
      refine g_aload_n 0 (q := 46) dX8_tree_45 rfl rfl ?_
      refine g_get (q := 49) fl_X8_160 dX8_tree_46 rfl rfl rfl ?_
      refine g_if_eq (t := 61) (q := 52) dX8_tree_49 (by decide) rfl (fun c13 => ?_) (fun c13 => ?_)
      · rw [if_pos c13] at hf
        refine g_iconst (q := 62) (v := 0) dX8_tree_61 rfl rfl ?_
        have hf := Option.some.inj hf
        subst hf
        exact g_ireturn dX8_tree_62 rfl ⟨rfl, rfl⟩
      · rw [if_neg c13] at hf
        refine g_aload_n 0 (q := 53) dX8_tree_52 rfl rfl ?_
        refine g_aload_n 0 (q := 54) dX8_tree_53 rfl rfl ?_
        refine g_get (q := 57) fl_X8_160 dX8_tree_54 rfl rfl rfl ?_
        refine g_iconst (q := 58) (v := (-1)) dX8_tree_57 rfl rfl ?_
        obtain ⟨r14, e15, hf⟩ := Option.bind_eq_some_iff.mp hf
        refine g_callV (a := 0) (k2 := 0) (n2 := 0) (q := 61) (as := [.int (r11.1), .int (-1)]) (st := []) (st1 := []) tm_X8_grow ml_X8_204 ti_X8_grow rfl rfl dX8_tree_58 rfl (ev_X8_grow tDP e15) rfl rfl (Nat.le_of_ble_eq_true rfl) (by decide) rfl rfl (Or.inl (encM_len.trans encM_len.symm)) rfl ?_
        refine g_iconst (q := 62) (v := 0) dX8_tree_61 rfl rfl ?_
        have hf := Option.some.inj hf
        subst hf
        exact g_ireturn dX8_tree_62 rfl ⟨rfl, rfl⟩
    · rw [if_neg c8] at hf
      refine g_bipush (q := 29) (v := (-5)) dX8_tree_27 rfl rfl ?_
      have hf := Option.some.inj hf
      subst hf
      exact g_ireturn dX8_tree_29 rfl ⟨rfl, rfl⟩
  · rw [if_neg c3] at hf
    refine g_aload_n 0 (q := 9) dX8_tree_8 rfl rfl ?_
    refine g_iload_n 1 (q := 10) dX8_tree_9 rfl rfl ?_
    obtain ⟨r16, e17, hf⟩ := Option.bind_eq_some_iff.mp hf
    refine g_callV (a := 0) (k2 := 0) (n2 := 0) (q := 13) (as := [.int a0]) (st := []) (st1 := [.int r16]) tm_X8_wrong ml_X8_137 ti_X8_wrong rfl rfl dX8_tree_10 rfl (ev_X8_wrong e17) rfl rfl (Nat.le_of_ble_eq_true rfl) (by decide) rfl rfl (Or.inl rfl) rfl ?_
    have hf := Option.some.inj hf
    subst hf
    exact g_ireturn dX8_tree_13 rfl ⟨rfl, rfl⟩
def f_X8_nodes (a0 : Int32) (m_n : Int32) (m_pt : Int32) (m_ve : Int32) (m_no : Int32) (m_t : List Int64) (m_f : List Int32) (m_nr : List Int32) (m_ty : List Int32) (m_pa : List Int32) : Option (Int32 × Int32 × Int32 × List Int32 × List Int32 × List Int32) := (f_X8_tree a0 m_n m_pt m_ve m_no m_t m_f m_nr m_ty m_pa).bind fun r1 => (if r1.1 = 0 then some ((r1.2.2.1), r1.2.1, r1.2.2.1, r1.2.2.2.1, r1.2.2.2.2.1, r1.2.2.2.2.2) else some (r1.1, r1.2.1, r1.2.2.1, r1.2.2.2.1, r1.2.2.2.2.1, r1.2.2.2.2.2))
set_option maxRecDepth 20000 in
set_option maxHeartbeats 4000000 in
theorem ev_X8_nodes {l : Launch} {E : tEn}  {m_n : Int32} {m_pt : Int32} {m_rc : Int32} {m_sa : Int64} {m_sb : Int64} {m_sc : Int32} {m_is : Int32} {m_os : Int32} {m_vn : Int32} {m_vc : Int32} {m_va : Int64} {m_vb : Int64} {m_ve : Int32} {m_no : Int32} {m_pl : Int32} {m_fa : Int32} {m_oc : Int32} {m_fu : Int32} {m_ke : Int32} {m_t : List Int64} {m_f : List Int32} {m_rs : List Int32} {m_rt : List Int64} {m_rf : List Int32} {m_st : List Int32} {m_ib : List Int32} {m_ob : List Int32} {m_al : List Int32} {m_el : List Int32} {m_vt : List Int64} {m_vf : List Int32} {m_vs : List Int32} {m_nr : List Int32} {m_ty : List Int32} {m_pa : List Int32} {m_fn : List Int64} {m_md : List Int64} {m_ms : List Int32} {m_mr : List Int32} {a0 : Int32} {res : Int32 × Int32 × Int32 × List Int32 × List Int32 × List Int32} (hf : f_X8_nodes a0 m_n m_pt m_ve m_no m_t m_f m_nr m_ty m_pa = some res) : tEv l E yX8_nodes cX8_nodes 3 (some .int) 14 0 0 [.ref 0, .int a0] (encM m_n m_pt m_rc m_sa m_sb m_sc m_is m_os m_vn m_vc m_va m_vb m_ve m_no m_pl m_fa m_oc m_fu m_ke m_t m_f m_rs m_rt m_rf m_st m_ib m_ob m_al m_el m_vt m_vf m_vs m_nr m_ty m_pa m_fn m_md m_ms m_mr) (fun r h' => r = some (.int res.1) ∧ h' = encM m_n m_pt m_rc m_sa m_sb m_sc m_is m_os m_vn m_vc m_va m_vb (res.2.1) (res.2.2.1) m_pl m_fa m_oc m_fu m_ke m_t m_f m_rs m_rt m_rf m_st m_ib m_ob m_al m_el m_vt m_vf m_vs (res.2.2.2.1) (res.2.2.2.2.1) (res.2.2.2.2.2) m_fn m_md m_ms m_mr) := by
  refine tEv.of (own := RX8) (ini := false) (L := [(0, .ref 0), (1, .int a0)]) (by decide +kernel) rfl (fun h9 => nomatch h9) rfl (Nat.le_of_ble_eq_true rfl) ?_
  rw [f_X8_nodes] at hf
  refine g_aload_n 0 (q := 1) dX8_nodes_0 rfl rfl ?_
  refine g_iload_n 1 (q := 2) dX8_nodes_1 rfl rfl ?_
  obtain ⟨r1, e2, hf⟩ := Option.bind_eq_some_iff.mp hf
  refine g_callV (a := 0) (k2 := 0) (n2 := 0) (q := 5) (as := [.int a0]) (st := []) (st1 := [.int r1.1]) tm_X8_tree ml_X8_208 ti_X8_tree rfl rfl dX8_nodes_2 rfl (ev_X8_tree e2) rfl rfl (Nat.le_of_ble_eq_true rfl) (by decide) rfl rfl (Or.inl (encM_len.trans encM_len.symm)) rfl ?_
  refine g_istore_n (q := 6) (L' := [(0, .ref 0), (1, .int a0), (2, .int r1.1)]) dX8_nodes_5 rfl (by decide) rfl ?_
  refine g_iload_n 2 (q := 7) dX8_nodes_6 rfl rfl ?_
  refine g_if_eq (t := 14) (q := 10) dX8_nodes_7 (by decide) rfl (fun c3 => ?_) (fun c3 => ?_)
  · rw [if_pos c3] at hf
    refine g_aload_n 0 (q := 15) dX8_nodes_14 rfl rfl ?_
    refine g_get (q := 18) fl_X8_191 dX8_nodes_15 rfl rfl rfl ?_
    have hf := Option.some.inj hf
    subst hf
    exact g_ireturn dX8_nodes_18 rfl ⟨rfl, rfl⟩
  · rw [if_neg c3] at hf
    refine g_iload_n 2 (q := 11) dX8_nodes_10 rfl rfl ?_
    refine g_goto (t := 18) dX8_nodes_11 (by decide) ?_
    have hf := Option.some.inj hf
    subst hf
    exact g_ireturn dX8_nodes_18 rfl ⟨rfl, rfl⟩
def f_X8_isNode (a0 : Int32) (m_no : Int32) : Int32 := (f_X8_isIn (Int32.toInt64 a0) 0 (Int32.toInt64 (m_no - 1)))
theorem bl_X8_isNode (a0 : Int32) (m_no : Int32) : f_X8_isNode a0 m_no = 0 ∨ f_X8_isNode a0 m_no = 1 := by
  unfold f_X8_isNode
  repeat' split
  all_goals first | exact Or.inl rfl | exact Or.inr rfl | exact bl_X8_isIn _ _ _
set_option maxRecDepth 20000 in
set_option maxHeartbeats 4000000 in
theorem ev_X8_isNode {l : Launch} {E : tEn}  {m_n : Int32} {m_pt : Int32} {m_rc : Int32} {m_sa : Int64} {m_sb : Int64} {m_sc : Int32} {m_is : Int32} {m_os : Int32} {m_vn : Int32} {m_vc : Int32} {m_va : Int64} {m_vb : Int64} {m_ve : Int32} {m_no : Int32} {m_pl : Int32} {m_fa : Int32} {m_oc : Int32} {m_fu : Int32} {m_ke : Int32} {m_t : List Int64} {m_f : List Int32} {m_rs : List Int32} {m_rt : List Int64} {m_rf : List Int32} {m_st : List Int32} {m_ib : List Int32} {m_ob : List Int32} {m_al : List Int32} {m_el : List Int32} {m_vt : List Int64} {m_vf : List Int32} {m_vs : List Int32} {m_nr : List Int32} {m_ty : List Int32} {m_pa : List Int32} {m_fn : List Int64} {m_md : List Int64} {m_ms : List Int32} {m_mr : List Int32} {a0 : Int32} : tEv l E yX8_isNode cX8_isNode 2 (some .boolean) 2 0 0 [.ref 0, .int a0] (encM m_n m_pt m_rc m_sa m_sb m_sc m_is m_os m_vn m_vc m_va m_vb m_ve m_no m_pl m_fa m_oc m_fu m_ke m_t m_f m_rs m_rt m_rf m_st m_ib m_ob m_al m_el m_vt m_vf m_vs m_nr m_ty m_pa m_fn m_md m_ms m_mr) (fun r h' => r = some (.int (f_X8_isNode a0 m_no)) ∧ h' = encM m_n m_pt m_rc m_sa m_sb m_sc m_is m_os m_vn m_vc m_va m_vb m_ve m_no m_pl m_fa m_oc m_fu m_ke m_t m_f m_rs m_rt m_rf m_st m_ib m_ob m_al m_el m_vt m_vf m_vs m_nr m_ty m_pa m_fn m_md m_ms m_mr) := by
  refine tEv.of (own := RX8) (ini := false) (L := [(0, .ref 0), (1, .int a0)]) (by decide +kernel) rfl (fun h9 => nomatch h9) rfl (Nat.le_of_ble_eq_true rfl) ?_
  obtain ⟨res, hf⟩ : ∃ z, f_X8_isNode a0 m_no = z := ⟨_, rfl⟩
  rw [hf]
  rw [f_X8_isNode] at hf
  refine g_iload_n 1 (q := 1) dX8_isNode_0 rfl rfl ?_
  refine g_i2l (q := 2) dX8_isNode_1 rfl ?_
  refine g_lconst (q := 3) (v := 0) dX8_isNode_2 rfl rfl ?_
  refine g_aload_n 0 (q := 4) dX8_isNode_3 rfl rfl ?_
  refine g_get (q := 7) fl_X8_191 dX8_isNode_4 rfl rfl rfl ?_
  refine g_iconst (q := 8) (v := 1) dX8_isNode_7 rfl rfl ?_
  refine g_isub (q := 9) dX8_isNode_8 rfl ?_
  refine g_i2l (q := 10) dX8_isNode_9 rfl ?_
  refine g_callS (k2 := 0) (n2 := 0) (q := 13) (as := [.long (Int32.toInt64 a0), .long 0, .long (Int32.toInt64 (m_no - 1))]) (st := []) (st1 := [.int (f_X8_isIn (Int32.toInt64 a0) 0 (Int32.toInt64 (m_no - 1)))]) tm_X8_isIn ml_X8_87 ts_X8_isIn dX8_isNode_10 rfl ev_X8_isIn rfl rfl (Nat.le_of_ble_eq_true rfl) (by decide) rfl rfl (Or.inl rfl) rfl ?_
  subst hf
  exact g_zreturn (bl_X8_isIn (Int32.toInt64 a0) 0 (Int32.toInt64 (m_no - 1))) dX8_isNode_13 rfl ⟨rfl, rfl⟩
def f_X8_nodeType (a0 : Int32) (a1 : Int32) (m_n : Int32) (m_pt : Int32) (m_ve : Int32) (m_no : Int32) (m_t : List Int64) (m_f : List Int32) (m_nr : List Int32) (m_ty : List Int32) (m_pa : List Int32) : Option (Int32 × Int32 × Int32 × List Int32 × List Int32 × List Int32) := (f_X8_tree a0 m_n m_pt m_ve m_no m_t m_f m_nr m_ty m_pa).bind fun r1 => (if r1.1 = 0 then (if (f_X8_isNode a1 (r1.2.2.1)) = 0 then some ((-1), r1.2.1, r1.2.2.1, r1.2.2.2.1, r1.2.2.2.2.1, r1.2.2.2.2.2) else (tld (r1.2.2.2.2.1) a1).bind fun r5 => some (r5, r1.2.1, r1.2.2.1, r1.2.2.2.1, r1.2.2.2.2.1, r1.2.2.2.2.2)) else some (r1.1, r1.2.1, r1.2.2.1, r1.2.2.2.1, r1.2.2.2.2.1, r1.2.2.2.2.2))
set_option maxRecDepth 20000 in
set_option maxHeartbeats 4000000 in
theorem ev_X8_nodeType {l : Launch} {E : tEn}  {m_n : Int32} {m_pt : Int32} {m_rc : Int32} {m_sa : Int64} {m_sb : Int64} {m_sc : Int32} {m_is : Int32} {m_os : Int32} {m_vn : Int32} {m_vc : Int32} {m_va : Int64} {m_vb : Int64} {m_ve : Int32} {m_no : Int32} {m_pl : Int32} {m_fa : Int32} {m_oc : Int32} {m_fu : Int32} {m_ke : Int32} {m_t : List Int64} {m_f : List Int32} {m_rs : List Int32} {m_rt : List Int64} {m_rf : List Int32} {m_st : List Int32} {m_ib : List Int32} {m_ob : List Int32} {m_al : List Int32} {m_el : List Int32} {m_vt : List Int64} {m_vf : List Int32} {m_vs : List Int32} {m_nr : List Int32} {m_ty : List Int32} {m_pa : List Int32} {m_fn : List Int64} {m_md : List Int64} {m_ms : List Int32} {m_mr : List Int32} {a0 : Int32} {a1 : Int32} {res : Int32 × Int32 × Int32 × List Int32 × List Int32 × List Int32} (hf : f_X8_nodeType a0 a1 m_n m_pt m_ve m_no m_t m_f m_nr m_ty m_pa = some res) : tEv l E yX8_nodeType cX8_nodeType 4 (some .int) 14 0 0 [.ref 0, .int a0, .int a1] (encM m_n m_pt m_rc m_sa m_sb m_sc m_is m_os m_vn m_vc m_va m_vb m_ve m_no m_pl m_fa m_oc m_fu m_ke m_t m_f m_rs m_rt m_rf m_st m_ib m_ob m_al m_el m_vt m_vf m_vs m_nr m_ty m_pa m_fn m_md m_ms m_mr) (fun r h' => r = some (.int res.1) ∧ h' = encM m_n m_pt m_rc m_sa m_sb m_sc m_is m_os m_vn m_vc m_va m_vb (res.2.1) (res.2.2.1) m_pl m_fa m_oc m_fu m_ke m_t m_f m_rs m_rt m_rf m_st m_ib m_ob m_al m_el m_vt m_vf m_vs (res.2.2.2.1) (res.2.2.2.2.1) (res.2.2.2.2.2) m_fn m_md m_ms m_mr) := by
  refine tEv.of (own := RX8) (ini := false) (L := [(0, .ref 0), (1, .int a0), (2, .int a1)]) (by decide +kernel) rfl (fun h9 => nomatch h9) rfl (Nat.le_of_ble_eq_true rfl) ?_
  rw [f_X8_nodeType] at hf
  refine g_aload_n 0 (q := 1) dX8_nodeType_0 rfl rfl ?_
  refine g_iload_n 1 (q := 2) dX8_nodeType_1 rfl rfl ?_
  obtain ⟨r1, e2, hf⟩ := Option.bind_eq_some_iff.mp hf
  refine g_callV (a := 0) (k2 := 0) (n2 := 0) (q := 5) (as := [.int a0]) (st := []) (st1 := [.int r1.1]) tm_X8_tree ml_X8_208 ti_X8_tree rfl rfl dX8_nodeType_2 rfl (ev_X8_tree e2) rfl rfl (Nat.le_of_ble_eq_true rfl) (by decide) rfl rfl (Or.inl (encM_len.trans encM_len.symm)) rfl ?_
  refine g_istore_n (q := 6) (L' := [(0, .ref 0), (1, .int a0), (2, .int a1), (3, .int r1.1)]) dX8_nodeType_5 rfl (by decide) rfl ?_
  refine g_iload_n 3 (q := 7) dX8_nodeType_6 rfl rfl ?_
  refine g_if_eq (t := 14) (q := 10) dX8_nodeType_7 (by decide) rfl (fun c3 => ?_) (fun c3 => ?_)
  · rw [if_pos c3] at hf
    refine g_aload_n 0 (q := 15) dX8_nodeType_14 rfl rfl ?_
    refine g_iload_n 2 (q := 16) dX8_nodeType_15 rfl rfl ?_
    refine g_callV (a := 0) (k2 := 0) (n2 := 0) (q := 19) (as := [.int a1]) (st := []) (st1 := [.int (f_X8_isNode a1 (r1.2.2.1))]) tm_X8_isNode ml_X8_211 ti_X8_isNode rfl rfl dX8_nodeType_16 rfl ev_X8_isNode rfl rfl (Nat.le_of_ble_eq_true rfl) (by decide) rfl rfl (Or.inl rfl) rfl ?_
    refine g_if_eq (t := 31) (q := 22) dX8_nodeType_19 (by decide) rfl (fun c4 => ?_) (fun c4 => ?_)
    · rw [if_pos c4] at hf
      refine g_iconst (q := 32) (v := (-1)) dX8_nodeType_31 rfl rfl ?_
      have hf := Option.some.inj hf
      subst hf
      exact g_ireturn dX8_nodeType_32 rfl ⟨rfl, rfl⟩
    · rw [if_neg c4] at hf
      refine g_aload_n 0 (q := 23) dX8_nodeType_22 rfl rfl ?_
      refine g_get (q := 26) fl_X8_64 dX8_nodeType_23 rfl rfl rfl ?_
      refine g_iload_n 2 (q := 27) dX8_nodeType_26 rfl rfl ?_
      obtain ⟨r5, e6, hf⟩ := Option.bind_eq_some_iff.mp hf
      refine g_iaload (q := 28) dX8_nodeType_27 rfl rfl e6 ?_
      refine g_goto (t := 32) dX8_nodeType_28 (by decide) ?_
      have hf := Option.some.inj hf
      subst hf
      exact g_ireturn dX8_nodeType_32 rfl ⟨rfl, rfl⟩
  · rw [if_neg c3] at hf
    refine g_iload_n 3 (q := 11) dX8_nodeType_10 rfl rfl ?_
    refine g_goto (t := 32) dX8_nodeType_11 (by decide) ?_
    have hf := Option.some.inj hf
    subst hf
    exact g_ireturn dX8_nodeType_32 rfl ⟨rfl, rfl⟩
def f_X8_parent (a0 : Int32) (a1 : Int32) (m_n : Int32) (m_pt : Int32) (m_ve : Int32) (m_no : Int32) (m_t : List Int64) (m_f : List Int32) (m_nr : List Int32) (m_ty : List Int32) (m_pa : List Int32) : Option (Int32 × Int32 × Int32 × List Int32 × List Int32 × List Int32) := (f_X8_tree a0 m_n m_pt m_ve m_no m_t m_f m_nr m_ty m_pa).bind fun r1 => (if r1.1 = 0 then (if (f_X8_isNode a1 (r1.2.2.1)) = 0 then some ((-1), r1.2.1, r1.2.2.1, r1.2.2.2.1, r1.2.2.2.2.1, r1.2.2.2.2.2) else (tld (r1.2.2.2.2.2) a1).bind fun r5 => some (r5, r1.2.1, r1.2.2.1, r1.2.2.2.1, r1.2.2.2.2.1, r1.2.2.2.2.2)) else some (r1.1, r1.2.1, r1.2.2.1, r1.2.2.2.1, r1.2.2.2.2.1, r1.2.2.2.2.2))
set_option maxRecDepth 20000 in
set_option maxHeartbeats 4000000 in
theorem ev_X8_parent {l : Launch} {E : tEn}  {m_n : Int32} {m_pt : Int32} {m_rc : Int32} {m_sa : Int64} {m_sb : Int64} {m_sc : Int32} {m_is : Int32} {m_os : Int32} {m_vn : Int32} {m_vc : Int32} {m_va : Int64} {m_vb : Int64} {m_ve : Int32} {m_no : Int32} {m_pl : Int32} {m_fa : Int32} {m_oc : Int32} {m_fu : Int32} {m_ke : Int32} {m_t : List Int64} {m_f : List Int32} {m_rs : List Int32} {m_rt : List Int64} {m_rf : List Int32} {m_st : List Int32} {m_ib : List Int32} {m_ob : List Int32} {m_al : List Int32} {m_el : List Int32} {m_vt : List Int64} {m_vf : List Int32} {m_vs : List Int32} {m_nr : List Int32} {m_ty : List Int32} {m_pa : List Int32} {m_fn : List Int64} {m_md : List Int64} {m_ms : List Int32} {m_mr : List Int32} {a0 : Int32} {a1 : Int32} {res : Int32 × Int32 × Int32 × List Int32 × List Int32 × List Int32} (hf : f_X8_parent a0 a1 m_n m_pt m_ve m_no m_t m_f m_nr m_ty m_pa = some res) : tEv l E yX8_parent cX8_parent 4 (some .int) 14 0 0 [.ref 0, .int a0, .int a1] (encM m_n m_pt m_rc m_sa m_sb m_sc m_is m_os m_vn m_vc m_va m_vb m_ve m_no m_pl m_fa m_oc m_fu m_ke m_t m_f m_rs m_rt m_rf m_st m_ib m_ob m_al m_el m_vt m_vf m_vs m_nr m_ty m_pa m_fn m_md m_ms m_mr) (fun r h' => r = some (.int res.1) ∧ h' = encM m_n m_pt m_rc m_sa m_sb m_sc m_is m_os m_vn m_vc m_va m_vb (res.2.1) (res.2.2.1) m_pl m_fa m_oc m_fu m_ke m_t m_f m_rs m_rt m_rf m_st m_ib m_ob m_al m_el m_vt m_vf m_vs (res.2.2.2.1) (res.2.2.2.2.1) (res.2.2.2.2.2) m_fn m_md m_ms m_mr) := by
  refine tEv.of (own := RX8) (ini := false) (L := [(0, .ref 0), (1, .int a0), (2, .int a1)]) (by decide +kernel) rfl (fun h9 => nomatch h9) rfl (Nat.le_of_ble_eq_true rfl) ?_
  rw [f_X8_parent] at hf
  refine g_aload_n 0 (q := 1) dX8_parent_0 rfl rfl ?_
  refine g_iload_n 1 (q := 2) dX8_parent_1 rfl rfl ?_
  obtain ⟨r1, e2, hf⟩ := Option.bind_eq_some_iff.mp hf
  refine g_callV (a := 0) (k2 := 0) (n2 := 0) (q := 5) (as := [.int a0]) (st := []) (st1 := [.int r1.1]) tm_X8_tree ml_X8_208 ti_X8_tree rfl rfl dX8_parent_2 rfl (ev_X8_tree e2) rfl rfl (Nat.le_of_ble_eq_true rfl) (by decide) rfl rfl (Or.inl (encM_len.trans encM_len.symm)) rfl ?_
  refine g_istore_n (q := 6) (L' := [(0, .ref 0), (1, .int a0), (2, .int a1), (3, .int r1.1)]) dX8_parent_5 rfl (by decide) rfl ?_
  refine g_iload_n 3 (q := 7) dX8_parent_6 rfl rfl ?_
  refine g_if_eq (t := 14) (q := 10) dX8_parent_7 (by decide) rfl (fun c3 => ?_) (fun c3 => ?_)
  · rw [if_pos c3] at hf
    refine g_aload_n 0 (q := 15) dX8_parent_14 rfl rfl ?_
    refine g_iload_n 2 (q := 16) dX8_parent_15 rfl rfl ?_
    refine g_callV (a := 0) (k2 := 0) (n2 := 0) (q := 19) (as := [.int a1]) (st := []) (st1 := [.int (f_X8_isNode a1 (r1.2.2.1))]) tm_X8_isNode ml_X8_211 ti_X8_isNode rfl rfl dX8_parent_16 rfl ev_X8_isNode rfl rfl (Nat.le_of_ble_eq_true rfl) (by decide) rfl rfl (Or.inl rfl) rfl ?_
    refine g_if_eq (t := 31) (q := 22) dX8_parent_19 (by decide) rfl (fun c4 => ?_) (fun c4 => ?_)
    · rw [if_pos c4] at hf
      refine g_iconst (q := 32) (v := (-1)) dX8_parent_31 rfl rfl ?_
      have hf := Option.some.inj hf
      subst hf
      exact g_ireturn dX8_parent_32 rfl ⟨rfl, rfl⟩
    · rw [if_neg c4] at hf
      refine g_aload_n 0 (q := 23) dX8_parent_22 rfl rfl ?_
      refine g_get (q := 26) fl_X8_67 dX8_parent_23 rfl rfl rfl ?_
      refine g_iload_n 2 (q := 27) dX8_parent_26 rfl rfl ?_
      obtain ⟨r5, e6, hf⟩ := Option.bind_eq_some_iff.mp hf
      refine g_iaload (q := 28) dX8_parent_27 rfl rfl e6 ?_
      refine g_goto (t := 32) dX8_parent_28 (by decide) ?_
      have hf := Option.some.inj hf
      subst hf
      exact g_ireturn dX8_parent_32 rfl ⟨rfl, rfl⟩
  · rw [if_neg c3] at hf
    refine g_iload_n 3 (q := 11) dX8_parent_10 rfl rfl ?_
    refine g_goto (t := 32) dX8_parent_11 (by decide) ?_
    have hf := Option.some.inj hf
    subst hf
    exact g_ireturn dX8_parent_32 rfl ⟨rfl, rfl⟩
def f_X8_depth_L63 (m_pa : List Int32) (K : Int32 → Option (Int32 × Int32 × Int32 × List Int32 × List Int32 × List Int32)) : Nat → Int32 → Int32 → Option (Int32 × Int32 × Int32 × List Int32 × List Int32 × List Int32)
  | 0, _, _ => none
  | fu + 1, v5, v6 => (if v6 = (-1) then K v5 else (tld m_pa v6).bind fun r11 => f_X8_depth_L63 m_pa K fu (v5 + 1) r11)
def f_X8_depth_L33 (w2 : Int32) (m_ve : Int32) (m_no : Int32) (m_nr : List Int32) (m_ty : List Int32) (m_pa : List Int32) (K : Option (Int32 × Int32 × Int32 × List Int32 × List Int32 × List Int32)) : Nat → Int32 → Option (Int32 × Int32 × Int32 × List Int32 × List Int32 × List Int32)
  | 0, _ => none
  | fu + 1, v4 => (if m_no ≤ v4 then K else (tld m_ty v4).bind fun r7 => (if r7 = w2 then f_X8_depth_L63 m_pa (fun y13 => some (y13, m_ve, m_no, m_nr, m_ty, m_pa)) tFU 0 v4 else f_X8_depth_L33 w2 m_ve m_no m_nr m_ty m_pa K fu (v4 + 1)))
def f_X8_depth (a0 : Int32) (a1 : Int32) (m_n : Int32) (m_pt : Int32) (m_ve : Int32) (m_no : Int32) (m_t : List Int64) (m_f : List Int32) (m_nr : List Int32) (m_ty : List Int32) (m_pa : List Int32) : Option (Int32 × Int32 × Int32 × List Int32 × List Int32 × List Int32) := (if (f_X8_isSlot a0) = 0 then some ((-2), m_ve, m_no, m_nr, m_ty, m_pa) else (if (f_X8_isVariable a1 m_n) = 0 then some ((-2), m_ve, m_no, m_nr, m_ty, m_pa) else (f_X8_tree a0 m_n m_pt m_ve m_no m_t m_f m_nr m_ty m_pa).bind fun r3 => (if r3.1 = 0 then f_X8_depth_L33 a1 (r3.2.1) (r3.2.2.1) (r3.2.2.2.1) (r3.2.2.2.2.1) (r3.2.2.2.2.2) (some ((-1), r3.2.1, r3.2.2.1, r3.2.2.2.1, r3.2.2.2.2.1, r3.2.2.2.2.2)) tFU 0 else some (r3.1, r3.2.1, r3.2.2.1, r3.2.2.2.1, r3.2.2.2.2.1, r3.2.2.2.2.2))))
set_option maxRecDepth 20000 in
set_option maxHeartbeats 4000000 in
theorem ev_X8_depth_L63 {l : Launch} {E : tEn}   {m_n : Int32} {m_pt : Int32} {m_rc : Int32} {m_sa : Int64} {m_sb : Int64} {m_sc : Int32} {m_is : Int32} {m_os : Int32} {m_vn : Int32} {m_vc : Int32} {m_va : Int64} {m_vb : Int64} {m_ve : Int32} {m_no : Int32} {m_pl : Int32} {m_fa : Int32} {m_oc : Int32} {m_fu : Int32} {m_ke : Int32} {m_t : List Int64} {m_f : List Int32} {m_rs : List Int32} {m_rt : List Int64} {m_rf : List Int32} {m_st : List Int32} {m_ib : List Int32} {m_ob : List Int32} {m_al : List Int32} {m_el : List Int32} {m_vt : List Int64} {m_vf : List Int32} {m_vs : List Int32} {m_nr : List Int32} {m_ty : List Int32} {m_pa : List Int32} {m_fn : List Int64} {m_md : List Int64} {m_ms : List Int32} {m_mr : List Int32}  {K : Int32 → Option (Int32 × Int32 × Int32 × List Int32 × List Int32 × List Int32)} (hK : ∀ (v5 : Int32)  (res : Int32 × Int32 × Int32 × List Int32 × List Int32 × List Int32), K v5 = some res → tG l E RX8 cX8_depth 7 (some .int) false 14 (fun r h' => r = some (.int res.1) ∧ h' = encM m_n m_pt m_rc m_sa m_sb m_sc m_is m_os m_vn m_vc m_va m_vb (res.2.1) (res.2.2.1) m_pl m_fa m_oc m_fu m_ke m_t m_f m_rs m_rt m_rf m_st m_ib m_ob m_al m_el m_vt m_vf m_vs (res.2.2.2.1) (res.2.2.2.2.1) (res.2.2.2.2.2) m_fn m_md m_ms m_mr) 0 0 84 [(5, .int v5)] [] (encM m_n m_pt m_rc m_sa m_sb m_sc m_is m_os m_vn m_vc m_va m_vb m_ve m_no m_pl m_fa m_oc m_fu m_ke m_t m_f m_rs m_rt m_rf m_st m_ib m_ob m_al m_el m_vt m_vf m_vs m_nr m_ty m_pa m_fn m_md m_ms m_mr)) :
    ∀ (fu : Nat) (v5 : Int32) (v6 : Int32) (res : Int32 × Int32 × Int32 × List Int32 × List Int32 × List Int32), f_X8_depth_L63 m_pa K fu v5 v6 = some res → tG l E RX8 cX8_depth 7 (some .int) false 14 (fun r h' => r = some (.int res.1) ∧ h' = encM m_n m_pt m_rc m_sa m_sb m_sc m_is m_os m_vn m_vc m_va m_vb (res.2.1) (res.2.2.1) m_pl m_fa m_oc m_fu m_ke m_t m_f m_rs m_rt m_rf m_st m_ib m_ob m_al m_el m_vt m_vf m_vs (res.2.2.2.1) (res.2.2.2.2.1) (res.2.2.2.2.2) m_fn m_md m_ms m_mr) 0 0 63 [(0, .ref 0), (5, .int v5), (6, .int v6)] [] (encM m_n m_pt m_rc m_sa m_sb m_sc m_is m_os m_vn m_vc m_va m_vb m_ve m_no m_pl m_fa m_oc m_fu m_ke m_t m_f m_rs m_rt m_rf m_st m_ib m_ob m_al m_el m_vt m_vf m_vs m_nr m_ty m_pa m_fn m_md m_ms m_mr) := by
  intro fu
  induction fu with
  | zero => intro v5 v6 res hf; exact nomatch (show none = some res from hf)
  | succ fu ih =>
    intro v5 v6 res hf
    rw [f_X8_depth_L63] at hf
    refine g_iload 2 (q := 65) dX8_depth_63 rfl rfl ?_
    refine g_iconst (q := 66) (v := (-1)) dX8_depth_65 rfl rfl ?_
    refine g_icmp_eq (t := 84) (q := 69) dX8_depth_66 (by decide) rfl (fun c10 => ?_) (fun c10 => ?_)
    · rw [if_pos c10] at hf
      refine g_ls [1] rfl ?_
      exact hK _ _ hf
    · rw [if_neg c10] at hf
      refine g_iinc 1 (q := 72) (v := (v5 + 1)) (L' := [(0, .ref 0), (5, .int (v5 + 1)), (6, .int v6)]) dX8_depth_69 rfl rfl rfl (by decide) rfl ?_
      refine g_aload_n 0 (q := 73) dX8_depth_72 rfl rfl ?_
      refine g_get (q := 76) fl_X8_67 dX8_depth_73 rfl rfl rfl ?_
      refine g_iload 2 (q := 78) dX8_depth_76 rfl rfl ?_
      obtain ⟨r11, e12, hf⟩ := Option.bind_eq_some_iff.mp hf
      refine g_iaload (q := 79) dX8_depth_78 rfl rfl e12 ?_
      refine g_istore (q := 81) (L' := [(0, .ref 0), (5, .int (v5 + 1)), (6, .int r11)]) dX8_depth_79 rfl (by decide) rfl ?_
      refine g_goto (t := 63) dX8_depth_81 (by decide) ?_
      refine g_ls [0, 1, 2] rfl ?_
      exact ih _ _ _ hf
set_option maxRecDepth 20000 in
set_option maxHeartbeats 4000000 in
theorem ev_X8_depth_L33 {l : Launch} {E : tEn}   {m_n : Int32} {m_pt : Int32} {m_rc : Int32} {m_sa : Int64} {m_sb : Int64} {m_sc : Int32} {m_is : Int32} {m_os : Int32} {m_vn : Int32} {m_vc : Int32} {m_va : Int64} {m_vb : Int64} {m_ve : Int32} {m_no : Int32} {m_pl : Int32} {m_fa : Int32} {m_oc : Int32} {m_fu : Int32} {m_ke : Int32} {m_t : List Int64} {m_f : List Int32} {m_rs : List Int32} {m_rt : List Int64} {m_rf : List Int32} {m_st : List Int32} {m_ib : List Int32} {m_ob : List Int32} {m_al : List Int32} {m_el : List Int32} {m_vt : List Int64} {m_vf : List Int32} {m_vs : List Int32} {m_nr : List Int32} {m_ty : List Int32} {m_pa : List Int32} {m_fn : List Int64} {m_md : List Int64} {m_ms : List Int32} {m_mr : List Int32} {w2 : Int32} {K : Option (Int32 × Int32 × Int32 × List Int32 × List Int32 × List Int32)} (hK : ∀   (res : Int32 × Int32 × Int32 × List Int32 × List Int32 × List Int32), K  = some res → tG l E RX8 cX8_depth 7 (some .int) false 14 (fun r h' => r = some (.int res.1) ∧ h' = encM m_n m_pt m_rc m_sa m_sb m_sc m_is m_os m_vn m_vc m_va m_vb (res.2.1) (res.2.2.1) m_pl m_fa m_oc m_fu m_ke m_t m_f m_rs m_rt m_rf m_st m_ib m_ob m_al m_el m_vt m_vf m_vs (res.2.2.2.1) (res.2.2.2.2.1) (res.2.2.2.2.2) m_fn m_md m_ms m_mr) 0 0 93 [] [] (encM m_n m_pt m_rc m_sa m_sb m_sc m_is m_os m_vn m_vc m_va m_vb m_ve m_no m_pl m_fa m_oc m_fu m_ke m_t m_f m_rs m_rt m_rf m_st m_ib m_ob m_al m_el m_vt m_vf m_vs m_nr m_ty m_pa m_fn m_md m_ms m_mr)) :
    ∀ (fu : Nat) (v4 : Int32) (res : Int32 × Int32 × Int32 × List Int32 × List Int32 × List Int32), f_X8_depth_L33 w2 m_ve m_no m_nr m_ty m_pa K fu v4 = some res → tG l E RX8 cX8_depth 7 (some .int) false 14 (fun r h' => r = some (.int res.1) ∧ h' = encM m_n m_pt m_rc m_sa m_sb m_sc m_is m_os m_vn m_vc m_va m_vb (res.2.1) (res.2.2.1) m_pl m_fa m_oc m_fu m_ke m_t m_f m_rs m_rt m_rf m_st m_ib m_ob m_al m_el m_vt m_vf m_vs (res.2.2.2.1) (res.2.2.2.2.1) (res.2.2.2.2.2) m_fn m_md m_ms m_mr) 0 0 33 [(0, .ref 0), (2, .int w2), (4, .int v4)] [] (encM m_n m_pt m_rc m_sa m_sb m_sc m_is m_os m_vn m_vc m_va m_vb m_ve m_no m_pl m_fa m_oc m_fu m_ke m_t m_f m_rs m_rt m_rf m_st m_ib m_ob m_al m_el m_vt m_vf m_vs m_nr m_ty m_pa m_fn m_md m_ms m_mr) := by
  intro fu
  induction fu with
  | zero => intro v4 res hf; exact nomatch (show none = some res from hf)
  | succ fu ih =>
    intro v4 res hf
    rw [f_X8_depth_L33] at hf
    refine g_iload 2 (q := 35) dX8_depth_33 rfl rfl ?_
    refine g_aload_n 0 (q := 36) dX8_depth_35 rfl rfl ?_
    refine g_get (q := 39) fl_X8_191 dX8_depth_36 rfl rfl rfl ?_
    refine g_icmp_ge (t := 93) (q := 42) dX8_depth_39 (by decide) rfl (fun c6 => ?_) (fun c6 => ?_)
    · rw [if_pos c6] at hf
      refine g_ls [] rfl ?_
      exact hK _ hf
    · rw [if_neg c6] at hf
      refine g_aload_n 0 (q := 43) dX8_depth_42 rfl rfl ?_
      refine g_get (q := 46) fl_X8_64 dX8_depth_43 rfl rfl rfl ?_
      refine g_iload 2 (q := 48) dX8_depth_46 rfl rfl ?_
      obtain ⟨r7, e8, hf⟩ := Option.bind_eq_some_iff.mp hf
      refine g_iaload (q := 49) dX8_depth_48 rfl rfl e8 ?_
      refine g_iload_n 1 (q := 50) dX8_depth_49 rfl rfl ?_
      refine g_icmp_eq (t := 56) (q := 53) dX8_depth_50 (by decide) rfl (fun c9 => ?_) (fun c9 => ?_)
      · rw [if_pos c9] at hf
        refine g_iconst (q := 57) (v := 0) dX8_depth_56 rfl rfl ?_
        refine g_istore (q := 59) (L' := [(0, .ref 0), (2, .int w2), (4, .int v4), (5, .int 0)]) dX8_depth_57 rfl (by decide) rfl ?_
        refine g_iload 2 (q := 61) dX8_depth_59 rfl rfl ?_
        refine g_istore (q := 63) (L' := [(0, .ref 0), (2, .int w2), (4, .int v4), (5, .int 0), (6, .int v4)]) dX8_depth_61 rfl (by decide) rfl ?_
        refine g_ls [0, 3, 4] rfl ?_
        refine ev_X8_depth_L63 (fun y13 res hf => ?_) tFU _ _ res hf
        refine g_iload 0 (q := 86) dX8_depth_84 rfl rfl ?_
        have hf := Option.some.inj hf
        subst hf
        exact g_ireturn dX8_depth_86 rfl ⟨rfl, rfl⟩
      · rw [if_neg c9] at hf
        refine g_goto (t := 87) dX8_depth_53 (by decide) ?_
        refine g_iinc 2 (q := 90) (v := (v4 + 1)) (L' := [(0, .ref 0), (2, .int w2), (4, .int (v4 + 1))]) dX8_depth_87 rfl rfl rfl (by decide) rfl ?_
        refine g_goto (t := 33) dX8_depth_90 (by decide) ?_
        refine g_ls [0, 1, 2] rfl ?_
        exact ih _ _ hf
set_option maxRecDepth 20000 in
set_option maxHeartbeats 4000000 in
theorem ev_X8_depth {l : Launch} {E : tEn}  {m_n : Int32} {m_pt : Int32} {m_rc : Int32} {m_sa : Int64} {m_sb : Int64} {m_sc : Int32} {m_is : Int32} {m_os : Int32} {m_vn : Int32} {m_vc : Int32} {m_va : Int64} {m_vb : Int64} {m_ve : Int32} {m_no : Int32} {m_pl : Int32} {m_fa : Int32} {m_oc : Int32} {m_fu : Int32} {m_ke : Int32} {m_t : List Int64} {m_f : List Int32} {m_rs : List Int32} {m_rt : List Int64} {m_rf : List Int32} {m_st : List Int32} {m_ib : List Int32} {m_ob : List Int32} {m_al : List Int32} {m_el : List Int32} {m_vt : List Int64} {m_vf : List Int32} {m_vs : List Int32} {m_nr : List Int32} {m_ty : List Int32} {m_pa : List Int32} {m_fn : List Int64} {m_md : List Int64} {m_ms : List Int32} {m_mr : List Int32} {a0 : Int32} {a1 : Int32} {res : Int32 × Int32 × Int32 × List Int32 × List Int32 × List Int32} (hf : f_X8_depth a0 a1 m_n m_pt m_ve m_no m_t m_f m_nr m_ty m_pa = some res) : tEv l E yX8_depth cX8_depth 7 (some .int) 14 0 0 [.ref 0, .int a0, .int a1] (encM m_n m_pt m_rc m_sa m_sb m_sc m_is m_os m_vn m_vc m_va m_vb m_ve m_no m_pl m_fa m_oc m_fu m_ke m_t m_f m_rs m_rt m_rf m_st m_ib m_ob m_al m_el m_vt m_vf m_vs m_nr m_ty m_pa m_fn m_md m_ms m_mr) (fun r h' => r = some (.int res.1) ∧ h' = encM m_n m_pt m_rc m_sa m_sb m_sc m_is m_os m_vn m_vc m_va m_vb (res.2.1) (res.2.2.1) m_pl m_fa m_oc m_fu m_ke m_t m_f m_rs m_rt m_rf m_st m_ib m_ob m_al m_el m_vt m_vf m_vs (res.2.2.2.1) (res.2.2.2.2.1) (res.2.2.2.2.2) m_fn m_md m_ms m_mr) := by
  refine tEv.of (own := RX8) (ini := false) (L := [(0, .ref 0), (1, .int a0), (2, .int a1)]) (by decide +kernel) rfl (fun h9 => nomatch h9) rfl (Nat.le_of_ble_eq_true rfl) ?_
  rw [f_X8_depth] at hf
  refine g_iload_n 1 (q := 1) dX8_depth_0 rfl rfl ?_
  refine g_callS (k2 := 0) (n2 := 0) (q := 4) (as := [.int a0]) (st := []) (st1 := [.int (f_X8_isSlot a0)]) tm_X8_isSlot ml_X8_118 ts_X8_isSlot dX8_depth_1 rfl ev_X8_isSlot rfl rfl (Nat.le_of_ble_eq_true rfl) (by decide) rfl rfl (Or.inl rfl) rfl ?_
  refine g_if_eq (t := 15) (q := 7) dX8_depth_4 (by decide) rfl (fun c1 => ?_) (fun c1 => ?_)
  · rw [if_pos c1] at hf
    refine g_bipush (q := 17) (v := (-2)) dX8_depth_15 rfl rfl ?_
    have hf := Option.some.inj hf
    subst hf
    exact g_ireturn dX8_depth_17 rfl ⟨rfl, rfl⟩
  · rw [if_neg c1] at hf
    refine g_aload_n 0 (q := 8) dX8_depth_7 rfl rfl ?_
    refine g_iload_n 2 (q := 9) dX8_depth_8 rfl rfl ?_
    refine g_callV (a := 0) (k2 := 0) (n2 := 0) (q := 12) (as := [.int a1]) (st := []) (st1 := [.int (f_X8_isVariable a1 m_n)]) tm_X8_isVariable ml_X8_163 ti_X8_isVariable rfl rfl dX8_depth_9 rfl ev_X8_isVariable rfl rfl (Nat.le_of_ble_eq_true rfl) (by decide) rfl rfl (Or.inl rfl) rfl ?_
    refine g_if_ne (t := 18) (q := 15) dX8_depth_12 (by decide) rfl (fun c2 => ?_) (fun c2 => ?_)
    · rw [if_neg c2] at hf
      refine g_aload_n 0 (q := 19) dX8_depth_18 rfl rfl ?_
      refine g_iload_n 1 (q := 20) dX8_depth_19 rfl rfl ?_
      obtain ⟨r3, e4, hf⟩ := Option.bind_eq_some_iff.mp hf
      refine g_callV (a := 0) (k2 := 0) (n2 := 0) (q := 23) (as := [.int a0]) (st := []) (st1 := [.int r3.1]) tm_X8_tree ml_X8_208 ti_X8_tree rfl rfl dX8_depth_20 rfl (ev_X8_tree e4) rfl rfl (Nat.le_of_ble_eq_true rfl) (by decide) rfl rfl (Or.inl (encM_len.trans encM_len.symm)) rfl ?_
      refine g_istore_n (q := 24) (L' := [(0, .ref 0), (1, .int a0), (2, .int a1), (3, .int r3.1)]) dX8_depth_23 rfl (by decide) rfl ?_
      refine g_iload_n 3 (q := 25) dX8_depth_24 rfl rfl ?_
      refine g_if_eq (t := 30) (q := 28) dX8_depth_25 (by decide) rfl (fun c5 => ?_) (fun c5 => ?_)
      · rw [if_pos c5] at hf
        refine g_iconst (q := 31) (v := 0) dX8_depth_30 rfl rfl ?_
        refine g_istore (q := 33) (L' := [(0, .ref 0), (1, .int a0), (2, .int a1), (3, .int r3.1), (4, .int 0)]) dX8_depth_31 rfl (by decide) rfl ?_
        refine g_ls [0, 2, 4] rfl ?_
        refine ev_X8_depth_L33 (fun  res hf => ?_) tFU _ res hf
        refine g_iconst (q := 94) (v := (-1)) dX8_depth_93 rfl rfl ?_
        have hf := Option.some.inj hf
        subst hf
        exact g_ireturn dX8_depth_94 rfl ⟨rfl, rfl⟩
      · rw [if_neg c5] at hf
        refine g_iload_n 3 (q := 29) dX8_depth_28 rfl rfl ?_
        have hf := Option.some.inj hf
        subst hf
        exact g_ireturn dX8_depth_29 rfl ⟨rfl, rfl⟩
    · rw [if_pos c2] at hf
      refine g_bipush (q := 17) (v := (-2)) dX8_depth_15 rfl rfl ?_
      have hf := Option.some.inj hf
      subst hf
      exact g_ireturn dX8_depth_17 rfl ⟨rfl, rfl⟩
def f_X8_put (a0 : Int32) (m_os : Int32) (m_ob : List Int32) : Option (Int32 × List Int32) := (tst m_ob m_os a0).bind fun z1 => some ((m_os + 1), z1)
set_option maxRecDepth 20000 in
set_option maxHeartbeats 4000000 in
theorem ev_X8_put {l : Launch} {E : tEn}  {m_n : Int32} {m_pt : Int32} {m_rc : Int32} {m_sa : Int64} {m_sb : Int64} {m_sc : Int32} {m_is : Int32} {m_os : Int32} {m_vn : Int32} {m_vc : Int32} {m_va : Int64} {m_vb : Int64} {m_ve : Int32} {m_no : Int32} {m_pl : Int32} {m_fa : Int32} {m_oc : Int32} {m_fu : Int32} {m_ke : Int32} {m_t : List Int64} {m_f : List Int32} {m_rs : List Int32} {m_rt : List Int64} {m_rf : List Int32} {m_st : List Int32} {m_ib : List Int32} {m_ob : List Int32} {m_al : List Int32} {m_el : List Int32} {m_vt : List Int64} {m_vf : List Int32} {m_vs : List Int32} {m_nr : List Int32} {m_ty : List Int32} {m_pa : List Int32} {m_fn : List Int64} {m_md : List Int64} {m_ms : List Int32} {m_mr : List Int32} {a0 : Int32} {res : Int32 × List Int32} (hf : f_X8_put a0 m_os m_ob = some res) : tEv l E yX8_put cX8_put 2 none 1 0 0 [.ref 0, .int a0] (encM m_n m_pt m_rc m_sa m_sb m_sc m_is m_os m_vn m_vc m_va m_vb m_ve m_no m_pl m_fa m_oc m_fu m_ke m_t m_f m_rs m_rt m_rf m_st m_ib m_ob m_al m_el m_vt m_vf m_vs m_nr m_ty m_pa m_fn m_md m_ms m_mr) (fun r h' => r = none ∧ h' = encM m_n m_pt m_rc m_sa m_sb m_sc m_is (res.1) m_vn m_vc m_va m_vb m_ve m_no m_pl m_fa m_oc m_fu m_ke m_t m_f m_rs m_rt m_rf m_st m_ib (res.2) m_al m_el m_vt m_vf m_vs m_nr m_ty m_pa m_fn m_md m_ms m_mr) := by
  refine tEv.of (own := RX8) (ini := false) (L := [(0, .ref 0), (1, .int a0)]) (by decide +kernel) rfl (fun h9 => nomatch h9) rfl (Nat.le_of_ble_eq_true rfl) ?_
  rw [f_X8_put] at hf
  refine g_aload_n 0 (q := 1) dX8_put_0 rfl rfl ?_
  refine g_get (q := 4) fl_X8_40 dX8_put_1 rfl rfl rfl ?_
  refine g_aload_n 0 (q := 5) dX8_put_4 rfl rfl ?_
  refine g_get (q := 8) fl_X8_214 dX8_put_5 rfl rfl rfl ?_
  refine g_iload_n 1 (q := 9) dX8_put_8 rfl rfl ?_
  obtain ⟨z1, e2, hf⟩ := Option.bind_eq_some_iff.mp hf
  refine g_iastore (q := 10) (h' := encM m_n m_pt m_rc m_sa m_sb m_sc m_is m_os m_vn m_vc m_va m_vb m_ve m_no m_pl m_fa m_oc m_fu m_ke m_t m_f m_rs m_rt m_rf m_st m_ib z1 m_al m_el m_vt m_vf m_vs m_nr m_ty m_pa m_fn m_md m_ms m_mr) dX8_put_9 rfl rfl e2 rfl ?_
  refine g_aload_n 0 (q := 11) dX8_put_10 rfl rfl ?_
  refine g_dup (q := 12) dX8_put_11 rfl rfl ?_
  refine g_get (q := 15) fl_X8_214 dX8_put_12 rfl rfl rfl ?_
  refine g_iconst (q := 16) (v := 1) dX8_put_15 rfl rfl ?_
  refine g_iadd (q := 17) dX8_put_16 rfl ?_
  refine g_put (q := 20) (h' := encM m_n m_pt m_rc m_sa m_sb m_sc m_is (m_os + 1) m_vn m_vc m_va m_vb m_ve m_no m_pl m_fa m_oc m_fu m_ke m_t m_f m_rs m_rt m_rf m_st m_ib z1 m_al m_el m_vt m_vf m_vs m_nr m_ty m_pa m_fn m_md m_ms m_mr) fp_X8_214 dX8_put_17 rfl rfl (Nat.le_of_ble_eq_true rfl) (fun _ => ⟨rfl, rfl⟩) rfl ?_
  have hf := Option.some.inj hf
  subst hf
  exact g_return dX8_put_20 rfl ⟨rfl, rfl⟩
def f_X8_write_L31 (rc : Int32 → Int32 → Int32 → List Int32 → List Int32 → List Int32 → Option (Int32 × List Int32)) (w1 : Int32) (m_no : Int32) (m_ty : List Int32) (m_pa : List Int32) (K : Int32 → List Int32 → Option (Int32 × List Int32)) : Nat → Int32 → Int32 → Int32 → List Int32 → Option (Int32 × List Int32)
  | 0, _, _, _, _ => none
  | fu + 1, v2, v3, m_os, m_ob => (if m_no ≤ v3 then K  m_os m_ob else (tld m_pa v3).bind fun r5 => (if r5 = w1 then (if v2 = 0 then (tld m_ty w1).bind fun r25 => (if r25 = 10 then (f_X8_put 42 m_os m_ob).bind fun r46 => (tld m_ty w1).bind fun r48 => (if r48 = 10 then (tld m_ty v3).bind fun r53 => (if r53 = 11 then (f_X8_put 40 (r46.1) (r46.2)).bind fun r58 => (rc v3 (r58.1) m_no (r58.2) m_ty m_pa).bind fun r60 => (f_X8_put 41 (r60.1) (r60.2)).bind fun r62 => f_X8_write_L31 rc w1 m_no m_ty m_pa K fu 0 (v3 + 1) (r62.1) (r62.2) else (rc v3 (r46.1) m_no (r46.2) m_ty m_pa).bind fun r56 => f_X8_write_L31 rc w1 m_no m_ty m_pa K fu 0 (v3 + 1) (r56.1) (r56.2)) else (rc v3 (r46.1) m_no (r46.2) m_ty m_pa).bind fun r51 => f_X8_write_L31 rc w1 m_no m_ty m_pa K fu 0 (v3 + 1) (r51.1) (r51.2)) else (f_X8_put 43 m_os m_ob).bind fun r28 => (tld m_ty w1).bind fun r30 => (if r30 = 10 then (tld m_ty v3).bind fun r35 => (if r35 = 11 then (f_X8_put 40 (r28.1) (r28.2)).bind fun r40 => (rc v3 (r40.1) m_no (r40.2) m_ty m_pa).bind fun r42 => (f_X8_put 41 (r42.1) (r42.2)).bind fun r44 => f_X8_write_L31 rc w1 m_no m_ty m_pa K fu 0 (v3 + 1) (r44.1) (r44.2) else (rc v3 (r28.1) m_no (r28.2) m_ty m_pa).bind fun r38 => f_X8_write_L31 rc w1 m_no m_ty m_pa K fu 0 (v3 + 1) (r38.1) (r38.2)) else (rc v3 (r28.1) m_no (r28.2) m_ty m_pa).bind fun r33 => f_X8_write_L31 rc w1 m_no m_ty m_pa K fu 0 (v3 + 1) (r33.1) (r33.2))) else (tld m_ty w1).bind fun r9 => (if r9 = 10 then (tld m_ty v3).bind fun r14 => (if r14 = 11 then (f_X8_put 40 m_os m_ob).bind fun r19 => (rc v3 (r19.1) m_no (r19.2) m_ty m_pa).bind fun r21 => (f_X8_put 41 (r21.1) (r21.2)).bind fun r23 => f_X8_write_L31 rc w1 m_no m_ty m_pa K fu 0 (v3 + 1) (r23.1) (r23.2) else (rc v3 m_os m_no m_ob m_ty m_pa).bind fun r17 => f_X8_write_L31 rc w1 m_no m_ty m_pa K fu 0 (v3 + 1) (r17.1) (r17.2)) else (rc v3 m_os m_no m_ob m_ty m_pa).bind fun r12 => f_X8_write_L31 rc w1 m_no m_ty m_pa K fu 0 (v3 + 1) (r12.1) (r12.2))) else f_X8_write_L31 rc w1 m_no m_ty m_pa K fu v2 (v3 + 1) m_os m_ob))
def f_X8_write : Nat → (Int32 → Int32 → Int32 → List Int32 → List Int32 → List Int32 → Option (Int32 × List Int32))
  | 0 => fun _ _ _ _ _ _ => none
  | D + 1 => fun a0 m_os m_no m_ob m_ty m_pa => (tld m_ty a0).bind fun r1 => (if 10 ≤ r1 then f_X8_write_L31 (f_X8_write D) a0 m_no m_ty m_pa (fun k64 k65 => some (k64, k65)) tFU 1 (a0 + 1) m_os m_ob else (tld m_ty a0).bind fun r66 => (f_X8_put (97 + r66) m_os m_ob).bind fun r68 => some (r68.1, r68.2))
set_option maxRecDepth 20000 in
set_option maxHeartbeats 4000000 in
theorem ev_X8_write_L31 {l : Launch} {E : tEn}  {rc : Int32 → Int32 → Int32 → List Int32 → List Int32 → List Int32 → Option (Int32 × List Int32)} {dd dq : Nat} (hdd : 2 ≤ dd) (hdq : dd + 1 ≤ dq) (hrc : ∀ {m_n : Int32} {m_pt : Int32} {m_rc : Int32} {m_sa : Int64} {m_sb : Int64} {m_sc : Int32} {m_is : Int32} {m_os : Int32} {m_vn : Int32} {m_vc : Int32} {m_va : Int64} {m_vb : Int64} {m_ve : Int32} {m_no : Int32} {m_pl : Int32} {m_fa : Int32} {m_oc : Int32} {m_fu : Int32} {m_ke : Int32} {m_t : List Int64} {m_f : List Int32} {m_rs : List Int32} {m_rt : List Int64} {m_rf : List Int32} {m_st : List Int32} {m_ib : List Int32} {m_ob : List Int32} {m_al : List Int32} {m_el : List Int32} {m_vt : List Int64} {m_vf : List Int32} {m_vs : List Int32} {m_nr : List Int32} {m_ty : List Int32} {m_pa : List Int32} {m_fn : List Int64} {m_md : List Int64} {m_ms : List Int32} {m_mr : List Int32} {a0 : Int32} {res : Int32 × List Int32}, rc a0 m_os m_no m_ob m_ty m_pa = some res → tEv l E yX8_write cX8_write 5 none dd 0 0 [.ref 0, .int a0] (encM m_n m_pt m_rc m_sa m_sb m_sc m_is m_os m_vn m_vc m_va m_vb m_ve m_no m_pl m_fa m_oc m_fu m_ke m_t m_f m_rs m_rt m_rf m_st m_ib m_ob m_al m_el m_vt m_vf m_vs m_nr m_ty m_pa m_fn m_md m_ms m_mr) (fun r h' => r = none ∧ h' = encM m_n m_pt m_rc m_sa m_sb m_sc m_is (res.1) m_vn m_vc m_va m_vb m_ve m_no m_pl m_fa m_oc m_fu m_ke m_t m_f m_rs m_rt m_rf m_st m_ib (res.2) m_al m_el m_vt m_vf m_vs m_nr m_ty m_pa m_fn m_md m_ms m_mr)) {m_n : Int32} {m_pt : Int32} {m_rc : Int32} {m_sa : Int64} {m_sb : Int64} {m_sc : Int32} {m_is : Int32} {m_vn : Int32} {m_vc : Int32} {m_va : Int64} {m_vb : Int64} {m_ve : Int32} {m_no : Int32} {m_pl : Int32} {m_fa : Int32} {m_oc : Int32} {m_fu : Int32} {m_ke : Int32} {m_t : List Int64} {m_f : List Int32} {m_rs : List Int32} {m_rt : List Int64} {m_rf : List Int32} {m_st : List Int32} {m_ib : List Int32} {m_al : List Int32} {m_el : List Int32} {m_vt : List Int64} {m_vf : List Int32} {m_vs : List Int32} {m_nr : List Int32} {m_ty : List Int32} {m_pa : List Int32} {m_fn : List Int64} {m_md : List Int64} {m_ms : List Int32} {m_mr : List Int32} {w1 : Int32} {K : Int32 → List Int32 → Option (Int32 × List Int32)} (hK : ∀  (m_os : Int32) (m_ob : List Int32) (res : Int32 × List Int32), K m_os m_ob = some res → tG l E RX8 cX8_write 5 none false dq (fun r h' => r = none ∧ h' = encM m_n m_pt m_rc m_sa m_sb m_sc m_is (res.1) m_vn m_vc m_va m_vb m_ve m_no m_pl m_fa m_oc m_fu m_ke m_t m_f m_rs m_rt m_rf m_st m_ib (res.2) m_al m_el m_vt m_vf m_vs m_nr m_ty m_pa m_fn m_md m_ms m_mr) 0 0 142 [] [] (encM m_n m_pt m_rc m_sa m_sb m_sc m_is m_os m_vn m_vc m_va m_vb m_ve m_no m_pl m_fa m_oc m_fu m_ke m_t m_f m_rs m_rt m_rf m_st m_ib m_ob m_al m_el m_vt m_vf m_vs m_nr m_ty m_pa m_fn m_md m_ms m_mr)) :
    ∀ (fu : Nat) (v2 : Int32) (v3 : Int32) (m_os : Int32) (m_ob : List Int32) (res : Int32 × List Int32), f_X8_write_L31 rc w1 m_no m_ty m_pa K fu v2 v3 m_os m_ob = some res → tG l E RX8 cX8_write 5 none false dq (fun r h' => r = none ∧ h' = encM m_n m_pt m_rc m_sa m_sb m_sc m_is (res.1) m_vn m_vc m_va m_vb m_ve m_no m_pl m_fa m_oc m_fu m_ke m_t m_f m_rs m_rt m_rf m_st m_ib (res.2) m_al m_el m_vt m_vf m_vs m_nr m_ty m_pa m_fn m_md m_ms m_mr) 0 0 31 [(0, .ref 0), (1, .int w1), (2, .int v2), (3, .int v3)] [] (encM m_n m_pt m_rc m_sa m_sb m_sc m_is m_os m_vn m_vc m_va m_vb m_ve m_no m_pl m_fa m_oc m_fu m_ke m_t m_f m_rs m_rt m_rf m_st m_ib m_ob m_al m_el m_vt m_vf m_vs m_nr m_ty m_pa m_fn m_md m_ms m_mr) := by
  intro fu
  induction fu with
  | zero => intro v2 v3 m_os m_ob res hf; exact nomatch (show none = some res from hf)
  | succ fu ih =>
    intro v2 v3 m_os m_ob res hf
    rw [f_X8_write_L31] at hf
    refine g_iload_n 3 (q := 32) dX8_write_31 rfl rfl ?_
    refine g_aload_n 0 (q := 33) dX8_write_32 rfl rfl ?_
    refine g_get (q := 36) fl_X8_191 dX8_write_33 rfl rfl rfl ?_
    refine g_icmp_ge (t := 142) (q := 39) dX8_write_36 (by decide) rfl (fun c4 => ?_) (fun c4 => ?_)
    · rw [if_pos c4] at hf
      refine g_ls [] rfl ?_
      exact hK _ _ _ hf
    · rw [if_neg c4] at hf
      refine g_aload_n 0 (q := 40) dX8_write_39 rfl rfl ?_
      refine g_get (q := 43) fl_X8_67 dX8_write_40 rfl rfl rfl ?_
      refine g_iload_n 3 (q := 44) dX8_write_43 rfl rfl ?_
      obtain ⟨r5, e6, hf⟩ := Option.bind_eq_some_iff.mp hf
      refine g_iaload (q := 45) dX8_write_44 rfl rfl e6 ?_
      refine g_iload_n 1 (q := 46) dX8_write_45 rfl rfl ?_
      refine g_icmp_eq (t := 52) (q := 49) dX8_write_46 (by decide) rfl (fun c7 => ?_) (fun c7 => ?_)
      · rw [if_pos c7] at hf
        refine g_iload_n 2 (q := 53) dX8_write_52 rfl rfl ?_
        refine g_if_ne (t := 78) (q := 56) dX8_write_53 (by decide) rfl (fun c8 => ?_) (fun c8 => ?_)
        · rw [if_neg c8] at hf
          refine g_iconst (q := 79) (v := 0) dX8_write_78 rfl rfl ?_
          refine g_istore_n (q := 80) (L' := [(0, .ref 0), (1, .int w1), (2, .int 0), (3, .int v3)]) dX8_write_79 rfl (by decide) rfl ?_
          refine g_aload_n 0 (q := 81) dX8_write_80 rfl rfl ?_
          refine g_get (q := 84) fl_X8_64 dX8_write_81 rfl rfl rfl ?_
          refine g_iload_n 1 (q := 85) dX8_write_84 rfl rfl ?_
          obtain ⟨r9, e10, hf⟩ := Option.bind_eq_some_iff.mp hf
          refine g_iaload (q := 86) dX8_write_85 rfl rfl e10 ?_
          refine g_bipush (q := 88) (v := 10) dX8_write_86 rfl rfl ?_
          refine g_icmp_ne (t := 106) (q := 91) dX8_write_88 (by decide) rfl (fun c11 => ?_) (fun c11 => ?_)
          · rw [if_neg c11] at hf
            refine g_iconst (q := 107) (v := 0) dX8_write_106 rfl rfl ?_
            refine g_istore (q := 109) (L' := [(0, .ref 0), (1, .int w1), (2, .int 0), (3, .int v3), (4, .int 0)]) dX8_write_107 rfl (by decide) rfl ?_
            refine g_iload 4 (q := 111) dX8_write_109 rfl rfl ?_
            refine g_if_eq (t := 120) (q := 114) dX8_write_111 (by decide) rfl (fun _ => ?_) (fun c => absurd c (by decide))
            refine g_aload_n 0 (q := 121) dX8_write_120 rfl rfl ?_
            refine g_iload_n 3 (q := 122) dX8_write_121 rfl rfl ?_
            obtain ⟨r12, e13, hf⟩ := Option.bind_eq_some_iff.mp hf
            refine g_callV (a := 0) (k2 := 0) (n2 := 0) (q := 125) (as := [.int v3]) (st := []) (st1 := []) tm_X8_write ml_X8_220 ti_X8_write rfl rfl dX8_write_122 rfl (hrc e13) rfl rfl (Nat.le_of_ble_eq_true rfl) (by omega) rfl rfl (Or.inl (encM_len.trans encM_len.symm)) rfl ?_
            refine g_iload 4 (q := 127) dX8_write_125 rfl rfl ?_
            refine g_if_eq (t := 136) (q := 130) dX8_write_127 (by decide) rfl (fun _ => ?_) (fun c => absurd c (by decide))
            refine g_iinc 3 (q := 139) (v := (v3 + 1)) (L' := [(0, .ref 0), (1, .int w1), (2, .int 0), (3, .int (v3 + 1)), (4, .int 0)]) dX8_write_136 rfl rfl rfl (by decide) rfl ?_
            refine g_goto (t := 31) dX8_write_139 (by decide) ?_
            refine g_ls [0, 1, 2, 3] rfl ?_
            exact ih _ _ _ _ _ hf
          · rw [if_pos c11] at hf
            refine g_aload_n 0 (q := 92) dX8_write_91 rfl rfl ?_
            refine g_get (q := 95) fl_X8_64 dX8_write_92 rfl rfl rfl ?_
            refine g_iload_n 3 (q := 96) dX8_write_95 rfl rfl ?_
            obtain ⟨r14, e15, hf⟩ := Option.bind_eq_some_iff.mp hf
            refine g_iaload (q := 97) dX8_write_96 rfl rfl e15 ?_
            refine g_bipush (q := 99) (v := 11) dX8_write_97 rfl rfl ?_
            refine g_icmp_ne (t := 106) (q := 102) dX8_write_99 (by decide) rfl (fun c16 => ?_) (fun c16 => ?_)
            · rw [if_neg c16] at hf
              refine g_iconst (q := 107) (v := 0) dX8_write_106 rfl rfl ?_
              refine g_istore (q := 109) (L' := [(0, .ref 0), (1, .int w1), (2, .int 0), (3, .int v3), (4, .int 0)]) dX8_write_107 rfl (by decide) rfl ?_
              refine g_iload 4 (q := 111) dX8_write_109 rfl rfl ?_
              refine g_if_eq (t := 120) (q := 114) dX8_write_111 (by decide) rfl (fun _ => ?_) (fun c => absurd c (by decide))
              refine g_aload_n 0 (q := 121) dX8_write_120 rfl rfl ?_
              refine g_iload_n 3 (q := 122) dX8_write_121 rfl rfl ?_
              obtain ⟨r17, e18, hf⟩ := Option.bind_eq_some_iff.mp hf
              refine g_callV (a := 0) (k2 := 0) (n2 := 0) (q := 125) (as := [.int v3]) (st := []) (st1 := []) tm_X8_write ml_X8_220 ti_X8_write rfl rfl dX8_write_122 rfl (hrc e18) rfl rfl (Nat.le_of_ble_eq_true rfl) (by omega) rfl rfl (Or.inl (encM_len.trans encM_len.symm)) rfl ?_
              refine g_iload 4 (q := 127) dX8_write_125 rfl rfl ?_
              refine g_if_eq (t := 136) (q := 130) dX8_write_127 (by decide) rfl (fun _ => ?_) (fun c => absurd c (by decide))
              refine g_iinc 3 (q := 139) (v := (v3 + 1)) (L' := [(0, .ref 0), (1, .int w1), (2, .int 0), (3, .int (v3 + 1)), (4, .int 0)]) dX8_write_136 rfl rfl rfl (by decide) rfl ?_
              refine g_goto (t := 31) dX8_write_139 (by decide) ?_
              refine g_ls [0, 1, 2, 3] rfl ?_
              exact ih _ _ _ _ _ hf
            · rw [if_pos c16] at hf
              refine g_iconst (q := 103) (v := 1) dX8_write_102 rfl rfl ?_
              refine g_goto (t := 107) dX8_write_103 (by decide) ?_
              refine g_istore (q := 109) (L' := [(0, .ref 0), (1, .int w1), (2, .int 0), (3, .int v3), (4, .int 1)]) dX8_write_107 rfl (by decide) rfl ?_
              refine g_iload 4 (q := 111) dX8_write_109 rfl rfl ?_
              refine g_if_eq (t := 120) (q := 114) dX8_write_111 (by decide) rfl (fun c => absurd c (by decide)) (fun _ => ?_)
              refine g_aload_n 0 (q := 115) dX8_write_114 rfl rfl ?_
              refine g_bipush (q := 117) (v := 40) dX8_write_115 rfl rfl ?_
              obtain ⟨r19, e20, hf⟩ := Option.bind_eq_some_iff.mp hf
              refine g_callV (a := 0) (k2 := 0) (n2 := 0) (q := 120) (as := [.int 40]) (st := []) (st1 := []) tm_X8_put ml_X8_217 ti_X8_put rfl rfl dX8_write_117 rfl (ev_X8_put e20) rfl rfl (Nat.le_of_ble_eq_true rfl) (by omega) rfl rfl (Or.inl (encM_len.trans encM_len.symm)) rfl ?_
              refine g_aload_n 0 (q := 121) dX8_write_120 rfl rfl ?_
              refine g_iload_n 3 (q := 122) dX8_write_121 rfl rfl ?_
              obtain ⟨r21, e22, hf⟩ := Option.bind_eq_some_iff.mp hf
              refine g_callV (a := 0) (k2 := 0) (n2 := 0) (q := 125) (as := [.int v3]) (st := []) (st1 := []) tm_X8_write ml_X8_220 ti_X8_write rfl rfl dX8_write_122 rfl (hrc e22) rfl rfl (Nat.le_of_ble_eq_true rfl) (by omega) rfl rfl (Or.inl (encM_len.trans encM_len.symm)) rfl ?_
              refine g_iload 4 (q := 127) dX8_write_125 rfl rfl ?_
              refine g_if_eq (t := 136) (q := 130) dX8_write_127 (by decide) rfl (fun c => absurd c (by decide)) (fun _ => ?_)
              refine g_aload_n 0 (q := 131) dX8_write_130 rfl rfl ?_
              refine g_bipush (q := 133) (v := 41) dX8_write_131 rfl rfl ?_
              obtain ⟨r23, e24, hf⟩ := Option.bind_eq_some_iff.mp hf
              refine g_callV (a := 0) (k2 := 0) (n2 := 0) (q := 136) (as := [.int 41]) (st := []) (st1 := []) tm_X8_put ml_X8_217 ti_X8_put rfl rfl dX8_write_133 rfl (ev_X8_put e24) rfl rfl (Nat.le_of_ble_eq_true rfl) (by omega) rfl rfl (Or.inl (encM_len.trans encM_len.symm)) rfl ?_
              refine g_iinc 3 (q := 139) (v := (v3 + 1)) (L' := [(0, .ref 0), (1, .int w1), (2, .int 0), (3, .int (v3 + 1)), (4, .int 1)]) dX8_write_136 rfl rfl rfl (by decide) rfl ?_
              refine g_goto (t := 31) dX8_write_139 (by decide) ?_
              refine g_ls [0, 1, 2, 3] rfl ?_
              exact ih _ _ _ _ _ hf
        · rw [if_pos c8] at hf
          refine g_aload_n 0 (q := 57) dX8_write_56 rfl rfl ?_
          refine g_aload_n 0 (q := 58) dX8_write_57 rfl rfl ?_
          refine g_get (q := 61) fl_X8_64 dX8_write_58 rfl rfl rfl ?_
          refine g_iload_n 1 (q := 62) dX8_write_61 rfl rfl ?_
          obtain ⟨r25, e26, hf⟩ := Option.bind_eq_some_iff.mp hf
          refine g_iaload (q := 63) dX8_write_62 rfl rfl e26 ?_
          refine g_bipush (q := 65) (v := 10) dX8_write_63 rfl rfl ?_
          refine g_icmp_ne (t := 73) (q := 68) dX8_write_65 (by decide) rfl (fun c27 => ?_) (fun c27 => ?_)
          · rw [if_neg c27] at hf
            refine g_bipush (q := 75) (v := 43) dX8_write_73 rfl rfl ?_
            obtain ⟨r28, e29, hf⟩ := Option.bind_eq_some_iff.mp hf
            refine g_callV (a := 0) (k2 := 0) (n2 := 0) (q := 78) (as := [.int 43]) (st := []) (st1 := []) tm_X8_put ml_X8_217 ti_X8_put rfl rfl dX8_write_75 rfl (ev_X8_put e29) rfl rfl (Nat.le_of_ble_eq_true rfl) (by omega) rfl rfl (Or.inl (encM_len.trans encM_len.symm)) rfl ?_
            refine g_iconst (q := 79) (v := 0) dX8_write_78 rfl rfl ?_
            refine g_istore_n (q := 80) (L' := [(0, .ref 0), (1, .int w1), (2, .int 0), (3, .int v3)]) dX8_write_79 rfl (by decide) rfl ?_
            refine g_aload_n 0 (q := 81) dX8_write_80 rfl rfl ?_
            refine g_get (q := 84) fl_X8_64 dX8_write_81 rfl rfl rfl ?_
            refine g_iload_n 1 (q := 85) dX8_write_84 rfl rfl ?_
            obtain ⟨r30, e31, hf⟩ := Option.bind_eq_some_iff.mp hf
            refine g_iaload (q := 86) dX8_write_85 rfl rfl e31 ?_
            refine g_bipush (q := 88) (v := 10) dX8_write_86 rfl rfl ?_
            refine g_icmp_ne (t := 106) (q := 91) dX8_write_88 (by decide) rfl (fun c32 => ?_) (fun c32 => ?_)
            · rw [if_neg c32] at hf
              refine g_iconst (q := 107) (v := 0) dX8_write_106 rfl rfl ?_
              refine g_istore (q := 109) (L' := [(0, .ref 0), (1, .int w1), (2, .int 0), (3, .int v3), (4, .int 0)]) dX8_write_107 rfl (by decide) rfl ?_
              refine g_iload 4 (q := 111) dX8_write_109 rfl rfl ?_
              refine g_if_eq (t := 120) (q := 114) dX8_write_111 (by decide) rfl (fun _ => ?_) (fun c => absurd c (by decide))
              refine g_aload_n 0 (q := 121) dX8_write_120 rfl rfl ?_
              refine g_iload_n 3 (q := 122) dX8_write_121 rfl rfl ?_
              obtain ⟨r33, e34, hf⟩ := Option.bind_eq_some_iff.mp hf
              refine g_callV (a := 0) (k2 := 0) (n2 := 0) (q := 125) (as := [.int v3]) (st := []) (st1 := []) tm_X8_write ml_X8_220 ti_X8_write rfl rfl dX8_write_122 rfl (hrc e34) rfl rfl (Nat.le_of_ble_eq_true rfl) (by omega) rfl rfl (Or.inl (encM_len.trans encM_len.symm)) rfl ?_
              refine g_iload 4 (q := 127) dX8_write_125 rfl rfl ?_
              refine g_if_eq (t := 136) (q := 130) dX8_write_127 (by decide) rfl (fun _ => ?_) (fun c => absurd c (by decide))
              refine g_iinc 3 (q := 139) (v := (v3 + 1)) (L' := [(0, .ref 0), (1, .int w1), (2, .int 0), (3, .int (v3 + 1)), (4, .int 0)]) dX8_write_136 rfl rfl rfl (by decide) rfl ?_
              refine g_goto (t := 31) dX8_write_139 (by decide) ?_
              refine g_ls [0, 1, 2, 3] rfl ?_
              exact ih _ _ _ _ _ hf
            · rw [if_pos c32] at hf
              refine g_aload_n 0 (q := 92) dX8_write_91 rfl rfl ?_
              refine g_get (q := 95) fl_X8_64 dX8_write_92 rfl rfl rfl ?_
              refine g_iload_n 3 (q := 96) dX8_write_95 rfl rfl ?_
              obtain ⟨r35, e36, hf⟩ := Option.bind_eq_some_iff.mp hf
              refine g_iaload (q := 97) dX8_write_96 rfl rfl e36 ?_
              refine g_bipush (q := 99) (v := 11) dX8_write_97 rfl rfl ?_
              refine g_icmp_ne (t := 106) (q := 102) dX8_write_99 (by decide) rfl (fun c37 => ?_) (fun c37 => ?_)
              · rw [if_neg c37] at hf
                refine g_iconst (q := 107) (v := 0) dX8_write_106 rfl rfl ?_
                refine g_istore (q := 109) (L' := [(0, .ref 0), (1, .int w1), (2, .int 0), (3, .int v3), (4, .int 0)]) dX8_write_107 rfl (by decide) rfl ?_
                refine g_iload 4 (q := 111) dX8_write_109 rfl rfl ?_
                refine g_if_eq (t := 120) (q := 114) dX8_write_111 (by decide) rfl (fun _ => ?_) (fun c => absurd c (by decide))
                refine g_aload_n 0 (q := 121) dX8_write_120 rfl rfl ?_
                refine g_iload_n 3 (q := 122) dX8_write_121 rfl rfl ?_
                obtain ⟨r38, e39, hf⟩ := Option.bind_eq_some_iff.mp hf
                refine g_callV (a := 0) (k2 := 0) (n2 := 0) (q := 125) (as := [.int v3]) (st := []) (st1 := []) tm_X8_write ml_X8_220 ti_X8_write rfl rfl dX8_write_122 rfl (hrc e39) rfl rfl (Nat.le_of_ble_eq_true rfl) (by omega) rfl rfl (Or.inl (encM_len.trans encM_len.symm)) rfl ?_
                refine g_iload 4 (q := 127) dX8_write_125 rfl rfl ?_
                refine g_if_eq (t := 136) (q := 130) dX8_write_127 (by decide) rfl (fun _ => ?_) (fun c => absurd c (by decide))
                refine g_iinc 3 (q := 139) (v := (v3 + 1)) (L' := [(0, .ref 0), (1, .int w1), (2, .int 0), (3, .int (v3 + 1)), (4, .int 0)]) dX8_write_136 rfl rfl rfl (by decide) rfl ?_
                refine g_goto (t := 31) dX8_write_139 (by decide) ?_
                refine g_ls [0, 1, 2, 3] rfl ?_
                exact ih _ _ _ _ _ hf
              · rw [if_pos c37] at hf
                refine g_iconst (q := 103) (v := 1) dX8_write_102 rfl rfl ?_
                refine g_goto (t := 107) dX8_write_103 (by decide) ?_
                refine g_istore (q := 109) (L' := [(0, .ref 0), (1, .int w1), (2, .int 0), (3, .int v3), (4, .int 1)]) dX8_write_107 rfl (by decide) rfl ?_
                refine g_iload 4 (q := 111) dX8_write_109 rfl rfl ?_
                refine g_if_eq (t := 120) (q := 114) dX8_write_111 (by decide) rfl (fun c => absurd c (by decide)) (fun _ => ?_)
                refine g_aload_n 0 (q := 115) dX8_write_114 rfl rfl ?_
                refine g_bipush (q := 117) (v := 40) dX8_write_115 rfl rfl ?_
                obtain ⟨r40, e41, hf⟩ := Option.bind_eq_some_iff.mp hf
                refine g_callV (a := 0) (k2 := 0) (n2 := 0) (q := 120) (as := [.int 40]) (st := []) (st1 := []) tm_X8_put ml_X8_217 ti_X8_put rfl rfl dX8_write_117 rfl (ev_X8_put e41) rfl rfl (Nat.le_of_ble_eq_true rfl) (by omega) rfl rfl (Or.inl (encM_len.trans encM_len.symm)) rfl ?_
                refine g_aload_n 0 (q := 121) dX8_write_120 rfl rfl ?_
                refine g_iload_n 3 (q := 122) dX8_write_121 rfl rfl ?_
                obtain ⟨r42, e43, hf⟩ := Option.bind_eq_some_iff.mp hf
                refine g_callV (a := 0) (k2 := 0) (n2 := 0) (q := 125) (as := [.int v3]) (st := []) (st1 := []) tm_X8_write ml_X8_220 ti_X8_write rfl rfl dX8_write_122 rfl (hrc e43) rfl rfl (Nat.le_of_ble_eq_true rfl) (by omega) rfl rfl (Or.inl (encM_len.trans encM_len.symm)) rfl ?_
                refine g_iload 4 (q := 127) dX8_write_125 rfl rfl ?_
                refine g_if_eq (t := 136) (q := 130) dX8_write_127 (by decide) rfl (fun c => absurd c (by decide)) (fun _ => ?_)
                refine g_aload_n 0 (q := 131) dX8_write_130 rfl rfl ?_
                refine g_bipush (q := 133) (v := 41) dX8_write_131 rfl rfl ?_
                obtain ⟨r44, e45, hf⟩ := Option.bind_eq_some_iff.mp hf
                refine g_callV (a := 0) (k2 := 0) (n2 := 0) (q := 136) (as := [.int 41]) (st := []) (st1 := []) tm_X8_put ml_X8_217 ti_X8_put rfl rfl dX8_write_133 rfl (ev_X8_put e45) rfl rfl (Nat.le_of_ble_eq_true rfl) (by omega) rfl rfl (Or.inl (encM_len.trans encM_len.symm)) rfl ?_
                refine g_iinc 3 (q := 139) (v := (v3 + 1)) (L' := [(0, .ref 0), (1, .int w1), (2, .int 0), (3, .int (v3 + 1)), (4, .int 1)]) dX8_write_136 rfl rfl rfl (by decide) rfl ?_
                refine g_goto (t := 31) dX8_write_139 (by decide) ?_
                refine g_ls [0, 1, 2, 3] rfl ?_
                exact ih _ _ _ _ _ hf
          · rw [if_pos c27] at hf
            refine g_bipush (q := 70) (v := 42) dX8_write_68 rfl rfl ?_
            refine g_goto (t := 75) dX8_write_70 (by decide) ?_
            obtain ⟨r46, e47, hf⟩ := Option.bind_eq_some_iff.mp hf
            refine g_callV (a := 0) (k2 := 0) (n2 := 0) (q := 78) (as := [.int 42]) (st := []) (st1 := []) tm_X8_put ml_X8_217 ti_X8_put rfl rfl dX8_write_75 rfl (ev_X8_put e47) rfl rfl (Nat.le_of_ble_eq_true rfl) (by omega) rfl rfl (Or.inl (encM_len.trans encM_len.symm)) rfl ?_
            refine g_iconst (q := 79) (v := 0) dX8_write_78 rfl rfl ?_
            refine g_istore_n (q := 80) (L' := [(0, .ref 0), (1, .int w1), (2, .int 0), (3, .int v3)]) dX8_write_79 rfl (by decide) rfl ?_
            refine g_aload_n 0 (q := 81) dX8_write_80 rfl rfl ?_
            refine g_get (q := 84) fl_X8_64 dX8_write_81 rfl rfl rfl ?_
            refine g_iload_n 1 (q := 85) dX8_write_84 rfl rfl ?_
            obtain ⟨r48, e49, hf⟩ := Option.bind_eq_some_iff.mp hf
            refine g_iaload (q := 86) dX8_write_85 rfl rfl e49 ?_
            refine g_bipush (q := 88) (v := 10) dX8_write_86 rfl rfl ?_
            refine g_icmp_ne (t := 106) (q := 91) dX8_write_88 (by decide) rfl (fun c50 => ?_) (fun c50 => ?_)
            · rw [if_neg c50] at hf
              refine g_iconst (q := 107) (v := 0) dX8_write_106 rfl rfl ?_
              refine g_istore (q := 109) (L' := [(0, .ref 0), (1, .int w1), (2, .int 0), (3, .int v3), (4, .int 0)]) dX8_write_107 rfl (by decide) rfl ?_
              refine g_iload 4 (q := 111) dX8_write_109 rfl rfl ?_
              refine g_if_eq (t := 120) (q := 114) dX8_write_111 (by decide) rfl (fun _ => ?_) (fun c => absurd c (by decide))
              refine g_aload_n 0 (q := 121) dX8_write_120 rfl rfl ?_
              refine g_iload_n 3 (q := 122) dX8_write_121 rfl rfl ?_
              obtain ⟨r51, e52, hf⟩ := Option.bind_eq_some_iff.mp hf
              refine g_callV (a := 0) (k2 := 0) (n2 := 0) (q := 125) (as := [.int v3]) (st := []) (st1 := []) tm_X8_write ml_X8_220 ti_X8_write rfl rfl dX8_write_122 rfl (hrc e52) rfl rfl (Nat.le_of_ble_eq_true rfl) (by omega) rfl rfl (Or.inl (encM_len.trans encM_len.symm)) rfl ?_
              refine g_iload 4 (q := 127) dX8_write_125 rfl rfl ?_
              refine g_if_eq (t := 136) (q := 130) dX8_write_127 (by decide) rfl (fun _ => ?_) (fun c => absurd c (by decide))
              refine g_iinc 3 (q := 139) (v := (v3 + 1)) (L' := [(0, .ref 0), (1, .int w1), (2, .int 0), (3, .int (v3 + 1)), (4, .int 0)]) dX8_write_136 rfl rfl rfl (by decide) rfl ?_
              refine g_goto (t := 31) dX8_write_139 (by decide) ?_
              refine g_ls [0, 1, 2, 3] rfl ?_
              exact ih _ _ _ _ _ hf
            · rw [if_pos c50] at hf
              refine g_aload_n 0 (q := 92) dX8_write_91 rfl rfl ?_
              refine g_get (q := 95) fl_X8_64 dX8_write_92 rfl rfl rfl ?_
              refine g_iload_n 3 (q := 96) dX8_write_95 rfl rfl ?_
              obtain ⟨r53, e54, hf⟩ := Option.bind_eq_some_iff.mp hf
              refine g_iaload (q := 97) dX8_write_96 rfl rfl e54 ?_
              refine g_bipush (q := 99) (v := 11) dX8_write_97 rfl rfl ?_
              refine g_icmp_ne (t := 106) (q := 102) dX8_write_99 (by decide) rfl (fun c55 => ?_) (fun c55 => ?_)
              · rw [if_neg c55] at hf
                refine g_iconst (q := 107) (v := 0) dX8_write_106 rfl rfl ?_
                refine g_istore (q := 109) (L' := [(0, .ref 0), (1, .int w1), (2, .int 0), (3, .int v3), (4, .int 0)]) dX8_write_107 rfl (by decide) rfl ?_
                refine g_iload 4 (q := 111) dX8_write_109 rfl rfl ?_
                refine g_if_eq (t := 120) (q := 114) dX8_write_111 (by decide) rfl (fun _ => ?_) (fun c => absurd c (by decide))
                refine g_aload_n 0 (q := 121) dX8_write_120 rfl rfl ?_
                refine g_iload_n 3 (q := 122) dX8_write_121 rfl rfl ?_
                obtain ⟨r56, e57, hf⟩ := Option.bind_eq_some_iff.mp hf
                refine g_callV (a := 0) (k2 := 0) (n2 := 0) (q := 125) (as := [.int v3]) (st := []) (st1 := []) tm_X8_write ml_X8_220 ti_X8_write rfl rfl dX8_write_122 rfl (hrc e57) rfl rfl (Nat.le_of_ble_eq_true rfl) (by omega) rfl rfl (Or.inl (encM_len.trans encM_len.symm)) rfl ?_
                refine g_iload 4 (q := 127) dX8_write_125 rfl rfl ?_
                refine g_if_eq (t := 136) (q := 130) dX8_write_127 (by decide) rfl (fun _ => ?_) (fun c => absurd c (by decide))
                refine g_iinc 3 (q := 139) (v := (v3 + 1)) (L' := [(0, .ref 0), (1, .int w1), (2, .int 0), (3, .int (v3 + 1)), (4, .int 0)]) dX8_write_136 rfl rfl rfl (by decide) rfl ?_
                refine g_goto (t := 31) dX8_write_139 (by decide) ?_
                refine g_ls [0, 1, 2, 3] rfl ?_
                exact ih _ _ _ _ _ hf
              · rw [if_pos c55] at hf
                refine g_iconst (q := 103) (v := 1) dX8_write_102 rfl rfl ?_
                refine g_goto (t := 107) dX8_write_103 (by decide) ?_
                refine g_istore (q := 109) (L' := [(0, .ref 0), (1, .int w1), (2, .int 0), (3, .int v3), (4, .int 1)]) dX8_write_107 rfl (by decide) rfl ?_
                refine g_iload 4 (q := 111) dX8_write_109 rfl rfl ?_
                refine g_if_eq (t := 120) (q := 114) dX8_write_111 (by decide) rfl (fun c => absurd c (by decide)) (fun _ => ?_)
                refine g_aload_n 0 (q := 115) dX8_write_114 rfl rfl ?_
                refine g_bipush (q := 117) (v := 40) dX8_write_115 rfl rfl ?_
                obtain ⟨r58, e59, hf⟩ := Option.bind_eq_some_iff.mp hf
                refine g_callV (a := 0) (k2 := 0) (n2 := 0) (q := 120) (as := [.int 40]) (st := []) (st1 := []) tm_X8_put ml_X8_217 ti_X8_put rfl rfl dX8_write_117 rfl (ev_X8_put e59) rfl rfl (Nat.le_of_ble_eq_true rfl) (by omega) rfl rfl (Or.inl (encM_len.trans encM_len.symm)) rfl ?_
                refine g_aload_n 0 (q := 121) dX8_write_120 rfl rfl ?_
                refine g_iload_n 3 (q := 122) dX8_write_121 rfl rfl ?_
                obtain ⟨r60, e61, hf⟩ := Option.bind_eq_some_iff.mp hf
                refine g_callV (a := 0) (k2 := 0) (n2 := 0) (q := 125) (as := [.int v3]) (st := []) (st1 := []) tm_X8_write ml_X8_220 ti_X8_write rfl rfl dX8_write_122 rfl (hrc e61) rfl rfl (Nat.le_of_ble_eq_true rfl) (by omega) rfl rfl (Or.inl (encM_len.trans encM_len.symm)) rfl ?_
                refine g_iload 4 (q := 127) dX8_write_125 rfl rfl ?_
                refine g_if_eq (t := 136) (q := 130) dX8_write_127 (by decide) rfl (fun c => absurd c (by decide)) (fun _ => ?_)
                refine g_aload_n 0 (q := 131) dX8_write_130 rfl rfl ?_
                refine g_bipush (q := 133) (v := 41) dX8_write_131 rfl rfl ?_
                obtain ⟨r62, e63, hf⟩ := Option.bind_eq_some_iff.mp hf
                refine g_callV (a := 0) (k2 := 0) (n2 := 0) (q := 136) (as := [.int 41]) (st := []) (st1 := []) tm_X8_put ml_X8_217 ti_X8_put rfl rfl dX8_write_133 rfl (ev_X8_put e63) rfl rfl (Nat.le_of_ble_eq_true rfl) (by omega) rfl rfl (Or.inl (encM_len.trans encM_len.symm)) rfl ?_
                refine g_iinc 3 (q := 139) (v := (v3 + 1)) (L' := [(0, .ref 0), (1, .int w1), (2, .int 0), (3, .int (v3 + 1)), (4, .int 1)]) dX8_write_136 rfl rfl rfl (by decide) rfl ?_
                refine g_goto (t := 31) dX8_write_139 (by decide) ?_
                refine g_ls [0, 1, 2, 3] rfl ?_
                exact ih _ _ _ _ _ hf
      · rw [if_neg c7] at hf
        refine g_goto (t := 136) dX8_write_49 (by decide) ?_
        refine g_iinc 3 (q := 139) (v := (v3 + 1)) (L' := [(0, .ref 0), (1, .int w1), (2, .int v2), (3, .int (v3 + 1))]) dX8_write_136 rfl rfl rfl (by decide) rfl ?_
        refine g_goto (t := 31) dX8_write_139 (by decide) ?_
        refine g_ls [0, 1, 2, 3] rfl ?_
        exact ih _ _ _ _ _ hf
set_option maxRecDepth 20000 in
set_option maxHeartbeats 4000000 in
theorem ev_X8_write {l : Launch} {E : tEn}  : ∀ (D : Nat) {m_n : Int32} {m_pt : Int32} {m_rc : Int32} {m_sa : Int64} {m_sb : Int64} {m_sc : Int32} {m_is : Int32} {m_os : Int32} {m_vn : Int32} {m_vc : Int32} {m_va : Int64} {m_vb : Int64} {m_ve : Int32} {m_no : Int32} {m_pl : Int32} {m_fa : Int32} {m_oc : Int32} {m_fu : Int32} {m_ke : Int32} {m_t : List Int64} {m_f : List Int32} {m_rs : List Int32} {m_rt : List Int64} {m_rf : List Int32} {m_st : List Int32} {m_ib : List Int32} {m_ob : List Int32} {m_al : List Int32} {m_el : List Int32} {m_vt : List Int64} {m_vf : List Int32} {m_vs : List Int32} {m_nr : List Int32} {m_ty : List Int32} {m_pa : List Int32} {m_fn : List Int64} {m_md : List Int64} {m_ms : List Int32} {m_mr : List Int32} {a0 : Int32} {res : Int32 × List Int32}, f_X8_write D a0 m_os m_no m_ob m_ty m_pa = some res → tEv l E yX8_write cX8_write 5 none (1 * D + 2) 0 0 [.ref 0, .int a0] (encM m_n m_pt m_rc m_sa m_sb m_sc m_is m_os m_vn m_vc m_va m_vb m_ve m_no m_pl m_fa m_oc m_fu m_ke m_t m_f m_rs m_rt m_rf m_st m_ib m_ob m_al m_el m_vt m_vf m_vs m_nr m_ty m_pa m_fn m_md m_ms m_mr) (fun r h' => r = none ∧ h' = encM m_n m_pt m_rc m_sa m_sb m_sc m_is (res.1) m_vn m_vc m_va m_vb m_ve m_no m_pl m_fa m_oc m_fu m_ke m_t m_f m_rs m_rt m_rf m_st m_ib (res.2) m_al m_el m_vt m_vf m_vs m_nr m_ty m_pa m_fn m_md m_ms m_mr) := by
  intro D
  induction D with
  | zero => intro m_n m_pt m_rc m_sa m_sb m_sc m_is m_os m_vn m_vc m_va m_vb m_ve m_no m_pl m_fa m_oc m_fu m_ke m_t m_f m_rs m_rt m_rf m_st m_ib m_ob m_al m_el m_vt m_vf m_vs m_nr m_ty m_pa m_fn m_md m_ms m_mr a0 res hf; exact nomatch (show none = some res from hf)
  | succ D ih =>
    intro m_n m_pt m_rc m_sa m_sb m_sc m_is m_os m_vn m_vc m_va m_vb m_ve m_no m_pl m_fa m_oc m_fu m_ke m_t m_f m_rs m_rt m_rf m_st m_ib m_ob m_al m_el m_vt m_vf m_vs m_nr m_ty m_pa m_fn m_md m_ms m_mr a0 res hf
    have hrc := @ih
    have hdd : 2 ≤ 1 * D + 2 := by omega
    have hdq : 1 * D + 2 + 1 ≤ 1 * (D + 1) + 2 := by omega
    refine tEv.of (own := RX8) (ini := false) (L := [(0, .ref 0), (1, .int a0)]) (by decide +kernel) rfl (fun h9 => nomatch h9) rfl (Nat.le_of_ble_eq_true rfl) ?_
    rw [f_X8_write] at hf
    dsimp only at hf
    refine g_aload_n 0 (q := 1) dX8_write_0 rfl rfl ?_
    refine g_get (q := 4) fl_X8_64 dX8_write_1 rfl rfl rfl ?_
    refine g_iload_n 1 (q := 5) dX8_write_4 rfl rfl ?_
    obtain ⟨r1, e2, hf⟩ := Option.bind_eq_some_iff.mp hf
    refine g_iaload (q := 6) dX8_write_5 rfl rfl e2 ?_
    refine g_bipush (q := 8) (v := 10) dX8_write_6 rfl rfl ?_
    refine g_icmp_ge (t := 25) (q := 11) dX8_write_8 (by decide) rfl (fun c3 => ?_) (fun c3 => ?_)
    · rw [if_pos c3] at hf
      refine g_iconst (q := 26) (v := 1) dX8_write_25 rfl rfl ?_
      refine g_istore_n (q := 27) (L' := [(0, .ref 0), (1, .int a0), (2, .int 1)]) dX8_write_26 rfl (by decide) rfl ?_
      refine g_iload_n 1 (q := 28) dX8_write_27 rfl rfl ?_
      refine g_iconst (q := 29) (v := 1) dX8_write_28 rfl rfl ?_
      refine g_iadd (q := 30) dX8_write_29 rfl ?_
      refine g_istore_n (q := 31) (L' := [(0, .ref 0), (1, .int a0), (2, .int 1), (3, .int (a0 + 1))]) dX8_write_30 rfl (by decide) rfl ?_
      refine g_ls [0, 1, 2, 3] rfl ?_
      refine ev_X8_write_L31 hdd hdq hrc (fun k64 k65 res hf => ?_) tFU _ _ _ _ res hf
      have hf := Option.some.inj hf
      subst hf
      exact g_return dX8_write_142 rfl ⟨rfl, rfl⟩
    · rw [if_neg c3] at hf
      refine g_aload_n 0 (q := 12) dX8_write_11 rfl rfl ?_
      refine g_bipush (q := 14) (v := 97) dX8_write_12 rfl rfl ?_
      refine g_aload_n 0 (q := 15) dX8_write_14 rfl rfl ?_
      refine g_get (q := 18) fl_X8_64 dX8_write_15 rfl rfl rfl ?_
      refine g_iload_n 1 (q := 19) dX8_write_18 rfl rfl ?_
      obtain ⟨r66, e67, hf⟩ := Option.bind_eq_some_iff.mp hf
      refine g_iaload (q := 20) dX8_write_19 rfl rfl e67 ?_
      refine g_iadd (q := 21) dX8_write_20 rfl ?_
      obtain ⟨r68, e69, hf⟩ := Option.bind_eq_some_iff.mp hf
      refine g_callV (a := 0) (k2 := 0) (n2 := 0) (q := 24) (as := [.int (97 + r66)]) (st := []) (st1 := []) tm_X8_put ml_X8_217 ti_X8_put rfl rfl dX8_write_21 rfl (ev_X8_put e69) rfl rfl (Nat.le_of_ble_eq_true rfl) (by omega) rfl rfl (Or.inl (encM_len.trans encM_len.symm)) rfl ?_
      have hf := Option.some.inj hf
      subst hf
      exact g_return dX8_write_24 rfl ⟨rfl, rfl⟩
def f_X8_writeFormula (a0 : Int32) (m_n : Int32) (m_pt : Int32) (m_os : Int32) (m_ve : Int32) (m_no : Int32) (m_t : List Int64) (m_f : List Int32) (m_ob : List Int32) (m_nr : List Int32) (m_ty : List Int32) (m_pa : List Int32) : Option (Int32 × Int32 × Int32 × Int32 × List Int32 × List Int32 × List Int32 × List Int32) := (f_X8_tree a0 m_n m_pt m_ve m_no m_t m_f m_nr m_ty m_pa).bind fun r1 => (if r1.1 = 0 then (if (r1.2.2.1) = 0 then (tld m_t a0).bind fun r7 => (if (f_X8_at r7 0) = 0 then (f_X8_put 48 0 m_ob).bind fun r10 => some ((r10.1), r10.1, r1.2.1, r1.2.2.1, r10.2, r1.2.2.2.1, r1.2.2.2.2.1, r1.2.2.2.2.2) else (f_X8_put 49 0 m_ob).bind fun r12 => some ((r12.1), r12.1, r1.2.1, r1.2.2.1, r12.2, r1.2.2.2.1, r1.2.2.2.2.1, r1.2.2.2.2.2)) else (f_X8_write tDP 0 0 (r1.2.2.1) m_ob (r1.2.2.2.2.1) (r1.2.2.2.2.2)).bind fun r5 => some ((r5.1), r5.1, r1.2.1, r1.2.2.1, r5.2, r1.2.2.2.1, r1.2.2.2.2.1, r1.2.2.2.2.2)) else some (r1.1, m_os, r1.2.1, r1.2.2.1, m_ob, r1.2.2.2.1, r1.2.2.2.2.1, r1.2.2.2.2.2))
set_option maxRecDepth 20000 in
set_option maxHeartbeats 4000000 in
theorem ev_X8_writeFormula {l : Launch} {E : tEn}  {m_n : Int32} {m_pt : Int32} {m_rc : Int32} {m_sa : Int64} {m_sb : Int64} {m_sc : Int32} {m_is : Int32} {m_os : Int32} {m_vn : Int32} {m_vc : Int32} {m_va : Int64} {m_vb : Int64} {m_ve : Int32} {m_no : Int32} {m_pl : Int32} {m_fa : Int32} {m_oc : Int32} {m_fu : Int32} {m_ke : Int32} {m_t : List Int64} {m_f : List Int32} {m_rs : List Int32} {m_rt : List Int64} {m_rf : List Int32} {m_st : List Int32} {m_ib : List Int32} {m_ob : List Int32} {m_al : List Int32} {m_el : List Int32} {m_vt : List Int64} {m_vf : List Int32} {m_vs : List Int32} {m_nr : List Int32} {m_ty : List Int32} {m_pa : List Int32} {m_fn : List Int64} {m_md : List Int64} {m_ms : List Int32} {m_mr : List Int32} {a0 : Int32} {res : Int32 × Int32 × Int32 × Int32 × List Int32 × List Int32 × List Int32 × List Int32} (hf : f_X8_writeFormula a0 m_n m_pt m_os m_ve m_no m_t m_f m_ob m_nr m_ty m_pa = some res) : tEv l E yX8_writeFormula cX8_writeFormula 3 (some .int) 14 0 0 [.ref 0, .int a0] (encM m_n m_pt m_rc m_sa m_sb m_sc m_is m_os m_vn m_vc m_va m_vb m_ve m_no m_pl m_fa m_oc m_fu m_ke m_t m_f m_rs m_rt m_rf m_st m_ib m_ob m_al m_el m_vt m_vf m_vs m_nr m_ty m_pa m_fn m_md m_ms m_mr) (fun r h' => r = some (.int res.1) ∧ h' = encM m_n m_pt m_rc m_sa m_sb m_sc m_is (res.2.1) m_vn m_vc m_va m_vb (res.2.2.1) (res.2.2.2.1) m_pl m_fa m_oc m_fu m_ke m_t m_f m_rs m_rt m_rf m_st m_ib (res.2.2.2.2.1) m_al m_el m_vt m_vf m_vs (res.2.2.2.2.2.1) (res.2.2.2.2.2.2.1) (res.2.2.2.2.2.2.2) m_fn m_md m_ms m_mr) := by
  refine tEv.of (own := RX8) (ini := false) (L := [(0, .ref 0), (1, .int a0)]) (by decide +kernel) rfl (fun h9 => nomatch h9) rfl (Nat.le_of_ble_eq_true rfl) ?_
  rw [f_X8_writeFormula] at hf
  refine g_aload_n 0 (q := 1) dX8_writeFormula_0 rfl rfl ?_
  refine g_iload_n 1 (q := 2) dX8_writeFormula_1 rfl rfl ?_
  obtain ⟨r1, e2, hf⟩ := Option.bind_eq_some_iff.mp hf
  refine g_callV (a := 0) (k2 := 0) (n2 := 0) (q := 5) (as := [.int a0]) (st := []) (st1 := [.int r1.1]) tm_X8_tree ml_X8_208 ti_X8_tree rfl rfl dX8_writeFormula_2 rfl (ev_X8_tree e2) rfl rfl (Nat.le_of_ble_eq_true rfl) (by decide) rfl rfl (Or.inl (encM_len.trans encM_len.symm)) rfl ?_
  refine g_istore_n (q := 6) (L' := [(0, .ref 0), (1, .int a0), (2, .int r1.1)]) dX8_writeFormula_5 rfl (by decide) rfl ?_
  refine g_iload_n 2 (q := 7) dX8_writeFormula_6 rfl rfl ?_
  refine g_if_eq (t := 12) (q := 10) dX8_writeFormula_7 (by decide) rfl (fun c3 => ?_) (fun c3 => ?_)
  · rw [if_pos c3] at hf
    refine g_aload_n 0 (q := 13) dX8_writeFormula_12 rfl rfl ?_
    refine g_iconst (q := 14) (v := 0) dX8_writeFormula_13 rfl rfl ?_
    refine g_put (q := 17) (h' := encM m_n m_pt m_rc m_sa m_sb m_sc m_is 0 m_vn m_vc m_va m_vb (r1.2.1) (r1.2.2.1) m_pl m_fa m_oc m_fu m_ke m_t m_f m_rs m_rt m_rf m_st m_ib m_ob m_al m_el m_vt m_vf m_vs (r1.2.2.2.1) (r1.2.2.2.2.1) (r1.2.2.2.2.2) m_fn m_md m_ms m_mr) fp_X8_214 dX8_writeFormula_14 rfl rfl (Nat.le_of_ble_eq_true rfl) (fun _ => ⟨rfl, rfl⟩) rfl ?_
    refine g_aload_n 0 (q := 18) dX8_writeFormula_17 rfl rfl ?_
    refine g_get (q := 21) fl_X8_191 dX8_writeFormula_18 rfl rfl rfl ?_
    refine g_if_ne (t := 51) (q := 24) dX8_writeFormula_21 (by decide) rfl (fun c4 => ?_) (fun c4 => ?_)
    · rw [if_neg c4] at hf
      refine g_aload_n 0 (q := 52) dX8_writeFormula_51 rfl rfl ?_
      refine g_iconst (q := 53) (v := 0) dX8_writeFormula_52 rfl rfl ?_
      obtain ⟨r5, e6, hf⟩ := Option.bind_eq_some_iff.mp hf
      refine g_callV (a := 0) (k2 := 0) (n2 := 0) (q := 56) (as := [.int 0]) (st := []) (st1 := []) tm_X8_write ml_X8_220 ti_X8_write rfl rfl dX8_writeFormula_53 rfl (ev_X8_write tDP e6) rfl rfl (Nat.le_of_ble_eq_true rfl) (by decide) rfl rfl (Or.inl (encM_len.trans encM_len.symm)) rfl ?_
      refine g_aload_n 0 (q := 57) dX8_writeFormula_56 rfl rfl ?_
      refine g_get (q := 60) fl_X8_214 dX8_writeFormula_57 rfl rfl rfl ?_
      have hf := Option.some.inj hf
      subst hf
      exact g_ireturn dX8_writeFormula_60 rfl ⟨rfl, rfl⟩
    · rw [if_pos c4] at hf
      refine g_aload_n 0 (q := 25) dX8_writeFormula_24 rfl rfl ?_
      refine g_aload_n 0 (q := 26) dX8_writeFormula_25 rfl rfl ?_
      refine g_get (q := 29) fl_X8_16 dX8_writeFormula_26 rfl rfl rfl ?_
      refine g_iload_n 1 (q := 30) dX8_writeFormula_29 rfl rfl ?_
      obtain ⟨r7, e8, hf⟩ := Option.bind_eq_some_iff.mp hf
      refine g_laload (q := 31) dX8_writeFormula_30 rfl rfl e8 ?_
      refine g_iconst (q := 32) (v := 0) dX8_writeFormula_31 rfl rfl ?_
      refine g_callS (k2 := 0) (n2 := 0) (q := 35) (as := [.long r7, .int 0]) (st := [.ref 0]) (st1 := [.int (f_X8_at r7 0), .ref 0]) tm_X8_at ml_X8_91 ts_X8_at dX8_writeFormula_32 rfl ev_X8_at rfl rfl (Nat.le_of_ble_eq_true rfl) (by decide) rfl rfl (Or.inl rfl) rfl ?_
      refine g_if_eq (t := 43) (q := 38) dX8_writeFormula_35 (by decide) rfl (fun c9 => ?_) (fun c9 => ?_)
      · rw [if_pos c9] at hf
        refine g_bipush (q := 45) (v := 48) dX8_writeFormula_43 rfl rfl ?_
        obtain ⟨r10, e11, hf⟩ := Option.bind_eq_some_iff.mp hf
        refine g_callV (a := 0) (k2 := 0) (n2 := 0) (q := 48) (as := [.int 48]) (st := []) (st1 := []) tm_X8_put ml_X8_217 ti_X8_put rfl rfl dX8_writeFormula_45 rfl (ev_X8_put e11) rfl rfl (Nat.le_of_ble_eq_true rfl) (by decide) rfl rfl (Or.inl (encM_len.trans encM_len.symm)) rfl ?_
        refine g_goto (t := 56) dX8_writeFormula_48 (by decide) ?_
        refine g_aload_n 0 (q := 57) dX8_writeFormula_56 rfl rfl ?_
        refine g_get (q := 60) fl_X8_214 dX8_writeFormula_57 rfl rfl rfl ?_
        have hf := Option.some.inj hf
        subst hf
        exact g_ireturn dX8_writeFormula_60 rfl ⟨rfl, rfl⟩
      · rw [if_neg c9] at hf
        refine g_bipush (q := 40) (v := 49) dX8_writeFormula_38 rfl rfl ?_
        refine g_goto (t := 45) dX8_writeFormula_40 (by decide) ?_
        obtain ⟨r12, e13, hf⟩ := Option.bind_eq_some_iff.mp hf
        refine g_callV (a := 0) (k2 := 0) (n2 := 0) (q := 48) (as := [.int 49]) (st := []) (st1 := []) tm_X8_put ml_X8_217 ti_X8_put rfl rfl dX8_writeFormula_45 rfl (ev_X8_put e13) rfl rfl (Nat.le_of_ble_eq_true rfl) (by decide) rfl rfl (Or.inl (encM_len.trans encM_len.symm)) rfl ?_
        refine g_goto (t := 56) dX8_writeFormula_48 (by decide) ?_
        refine g_aload_n 0 (q := 57) dX8_writeFormula_56 rfl rfl ?_
        refine g_get (q := 60) fl_X8_214 dX8_writeFormula_57 rfl rfl rfl ?_
        have hf := Option.some.inj hf
        subst hf
        exact g_ireturn dX8_writeFormula_60 rfl ⟨rfl, rfl⟩
  · rw [if_neg c3] at hf
    refine g_iload_n 2 (q := 11) dX8_writeFormula_10 rfl rfl ?_
    have hf := Option.some.inj hf
    subst hf
    exact g_ireturn dX8_writeFormula_11 rfl ⟨rfl, rfl⟩
def f_X8_output (a0 : Int32) (m_os : Int32) (m_ob : List Int32) : Option (Int32) := (if (f_X8_isIn (Int32.toInt64 a0) 0 (Int32.toInt64 (m_os - 1))) = 0 then some (-1) else (tld m_ob a0).bind fun r2 => some r2)
set_option maxRecDepth 20000 in
set_option maxHeartbeats 4000000 in
theorem ev_X8_output {l : Launch} {E : tEn}  {m_n : Int32} {m_pt : Int32} {m_rc : Int32} {m_sa : Int64} {m_sb : Int64} {m_sc : Int32} {m_is : Int32} {m_os : Int32} {m_vn : Int32} {m_vc : Int32} {m_va : Int64} {m_vb : Int64} {m_ve : Int32} {m_no : Int32} {m_pl : Int32} {m_fa : Int32} {m_oc : Int32} {m_fu : Int32} {m_ke : Int32} {m_t : List Int64} {m_f : List Int32} {m_rs : List Int32} {m_rt : List Int64} {m_rf : List Int32} {m_st : List Int32} {m_ib : List Int32} {m_ob : List Int32} {m_al : List Int32} {m_el : List Int32} {m_vt : List Int64} {m_vf : List Int32} {m_vs : List Int32} {m_nr : List Int32} {m_ty : List Int32} {m_pa : List Int32} {m_fn : List Int64} {m_md : List Int64} {m_ms : List Int32} {m_mr : List Int32} {a0 : Int32} {res : Int32} (hf : f_X8_output a0 m_os m_ob = some res) : tEv l E yX8_output cX8_output 2 (some .int) 2 0 0 [.ref 0, .int a0] (encM m_n m_pt m_rc m_sa m_sb m_sc m_is m_os m_vn m_vc m_va m_vb m_ve m_no m_pl m_fa m_oc m_fu m_ke m_t m_f m_rs m_rt m_rf m_st m_ib m_ob m_al m_el m_vt m_vf m_vs m_nr m_ty m_pa m_fn m_md m_ms m_mr) (fun r h' => r = some (.int res) ∧ h' = encM m_n m_pt m_rc m_sa m_sb m_sc m_is m_os m_vn m_vc m_va m_vb m_ve m_no m_pl m_fa m_oc m_fu m_ke m_t m_f m_rs m_rt m_rf m_st m_ib m_ob m_al m_el m_vt m_vf m_vs m_nr m_ty m_pa m_fn m_md m_ms m_mr) := by
  refine tEv.of (own := RX8) (ini := false) (L := [(0, .ref 0), (1, .int a0)]) (by decide +kernel) rfl (fun h9 => nomatch h9) rfl (Nat.le_of_ble_eq_true rfl) ?_
  rw [f_X8_output] at hf
  refine g_iload_n 1 (q := 1) dX8_output_0 rfl rfl ?_
  refine g_i2l (q := 2) dX8_output_1 rfl ?_
  refine g_lconst (q := 3) (v := 0) dX8_output_2 rfl rfl ?_
  refine g_aload_n 0 (q := 4) dX8_output_3 rfl rfl ?_
  refine g_get (q := 7) fl_X8_214 dX8_output_4 rfl rfl rfl ?_
  refine g_iconst (q := 8) (v := 1) dX8_output_7 rfl rfl ?_
  refine g_isub (q := 9) dX8_output_8 rfl ?_
  refine g_i2l (q := 10) dX8_output_9 rfl ?_
  refine g_callS (k2 := 0) (n2 := 0) (q := 13) (as := [.long (Int32.toInt64 a0), .long 0, .long (Int32.toInt64 (m_os - 1))]) (st := []) (st1 := [.int (f_X8_isIn (Int32.toInt64 a0) 0 (Int32.toInt64 (m_os - 1)))]) tm_X8_isIn ml_X8_87 ts_X8_isIn dX8_output_10 rfl ev_X8_isIn rfl rfl (Nat.le_of_ble_eq_true rfl) (by decide) rfl rfl (Or.inl rfl) rfl ?_
  refine g_if_eq (t := 25) (q := 16) dX8_output_13 (by decide) rfl (fun c1 => ?_) (fun c1 => ?_)
  · rw [if_pos c1] at hf
    refine g_iconst (q := 26) (v := (-1)) dX8_output_25 rfl rfl ?_
    have hf := Option.some.inj hf
    subst hf
    exact g_ireturn dX8_output_26 rfl ⟨rfl, rfl⟩
  · rw [if_neg c1] at hf
    refine g_aload_n 0 (q := 17) dX8_output_16 rfl rfl ?_
    refine g_get (q := 20) fl_X8_40 dX8_output_17 rfl rfl rfl ?_
    refine g_iload_n 1 (q := 21) dX8_output_20 rfl rfl ?_
    obtain ⟨r2, e3, hf⟩ := Option.bind_eq_some_iff.mp hf
    refine g_iaload (q := 22) dX8_output_21 rfl rfl e3 ?_
    refine g_goto (t := 26) dX8_output_22 (by decide) ?_
    have hf := Option.some.inj hf
    subst hf
    exact g_ireturn dX8_output_26 rfl ⟨rfl, rfl⟩
def f_X8_feed (a0 : Int32) (m_is : Int32) (m_ib : List Int32) : Option (Int32 × Int32 × List Int32) := (if (f_X8_isIn (Int32.toInt64 a0) 1 127) = 0 then some ((-2), m_is, m_ib) else (if m_is = 80 then some ((-6), m_is, m_ib) else (tst m_ib m_is a0).bind fun z3 => some ((m_is + 1), (m_is + 1), z3)))
set_option maxRecDepth 20000 in
set_option maxHeartbeats 4000000 in
theorem ev_X8_feed {l : Launch} {E : tEn}  {m_n : Int32} {m_pt : Int32} {m_rc : Int32} {m_sa : Int64} {m_sb : Int64} {m_sc : Int32} {m_is : Int32} {m_os : Int32} {m_vn : Int32} {m_vc : Int32} {m_va : Int64} {m_vb : Int64} {m_ve : Int32} {m_no : Int32} {m_pl : Int32} {m_fa : Int32} {m_oc : Int32} {m_fu : Int32} {m_ke : Int32} {m_t : List Int64} {m_f : List Int32} {m_rs : List Int32} {m_rt : List Int64} {m_rf : List Int32} {m_st : List Int32} {m_ib : List Int32} {m_ob : List Int32} {m_al : List Int32} {m_el : List Int32} {m_vt : List Int64} {m_vf : List Int32} {m_vs : List Int32} {m_nr : List Int32} {m_ty : List Int32} {m_pa : List Int32} {m_fn : List Int64} {m_md : List Int64} {m_ms : List Int32} {m_mr : List Int32} {a0 : Int32} {res : Int32 × Int32 × List Int32} (hf : f_X8_feed a0 m_is m_ib = some res) : tEv l E yX8_feed cX8_feed 2 (some .int) 2 0 0 [.ref 0, .int a0] (encM m_n m_pt m_rc m_sa m_sb m_sc m_is m_os m_vn m_vc m_va m_vb m_ve m_no m_pl m_fa m_oc m_fu m_ke m_t m_f m_rs m_rt m_rf m_st m_ib m_ob m_al m_el m_vt m_vf m_vs m_nr m_ty m_pa m_fn m_md m_ms m_mr) (fun r h' => r = some (.int res.1) ∧ h' = encM m_n m_pt m_rc m_sa m_sb m_sc (res.2.1) m_os m_vn m_vc m_va m_vb m_ve m_no m_pl m_fa m_oc m_fu m_ke m_t m_f m_rs m_rt m_rf m_st (res.2.2) m_ob m_al m_el m_vt m_vf m_vs m_nr m_ty m_pa m_fn m_md m_ms m_mr) := by
  refine tEv.of (own := RX8) (ini := false) (L := [(0, .ref 0), (1, .int a0)]) (by decide +kernel) rfl (fun h9 => nomatch h9) rfl (Nat.le_of_ble_eq_true rfl) ?_
  rw [f_X8_feed] at hf
  refine g_iload_n 1 (q := 1) dX8_feed_0 rfl rfl ?_
  refine g_i2l (q := 2) dX8_feed_1 rfl ?_
  refine g_lconst (q := 3) (v := 1) dX8_feed_2 rfl rfl ?_
  refine g_ldc2_w (q := 6) kc_X8_223 dX8_feed_3 rfl ?_
  refine g_callS (k2 := 0) (n2 := 0) (q := 9) (as := [.long (Int32.toInt64 a0), .long 1, .long 127]) (st := []) (st1 := [.int (f_X8_isIn (Int32.toInt64 a0) 1 127)]) tm_X8_isIn ml_X8_87 ts_X8_isIn dX8_feed_6 rfl ev_X8_isIn rfl rfl (Nat.le_of_ble_eq_true rfl) (by decide) rfl rfl (Or.inl rfl) rfl ?_
  refine g_if_ne (t := 15) (q := 12) dX8_feed_9 (by decide) rfl (fun c1 => ?_) (fun c1 => ?_)
  · rw [if_neg c1] at hf
    refine g_aload_n 0 (q := 16) dX8_feed_15 rfl rfl ?_
    refine g_get (q := 19) fl_X8_225 dX8_feed_16 rfl rfl rfl ?_
    refine g_bipush (q := 21) (v := 80) dX8_feed_19 rfl rfl ?_
    refine g_icmp_ne (t := 27) (q := 24) dX8_feed_21 (by decide) rfl (fun c2 => ?_) (fun c2 => ?_)
    · rw [if_neg c2] at hf
      refine g_aload_n 0 (q := 28) dX8_feed_27 rfl rfl ?_
      refine g_get (q := 31) fl_X8_37 dX8_feed_28 rfl rfl rfl ?_
      refine g_aload_n 0 (q := 32) dX8_feed_31 rfl rfl ?_
      refine g_get (q := 35) fl_X8_225 dX8_feed_32 rfl rfl rfl ?_
      refine g_iload_n 1 (q := 36) dX8_feed_35 rfl rfl ?_
      obtain ⟨z3, e4, hf⟩ := Option.bind_eq_some_iff.mp hf
      refine g_iastore (q := 37) (h' := encM m_n m_pt m_rc m_sa m_sb m_sc m_is m_os m_vn m_vc m_va m_vb m_ve m_no m_pl m_fa m_oc m_fu m_ke m_t m_f m_rs m_rt m_rf m_st z3 m_ob m_al m_el m_vt m_vf m_vs m_nr m_ty m_pa m_fn m_md m_ms m_mr) dX8_feed_36 rfl rfl e4 rfl ?_
      refine g_aload_n 0 (q := 38) dX8_feed_37 rfl rfl ?_
      refine g_dup (q := 39) dX8_feed_38 rfl rfl ?_
      refine g_get (q := 42) fl_X8_225 dX8_feed_39 rfl rfl rfl ?_
      refine g_iconst (q := 43) (v := 1) dX8_feed_42 rfl rfl ?_
      refine g_iadd (q := 44) dX8_feed_43 rfl ?_
      refine g_put (q := 47) (h' := encM m_n m_pt m_rc m_sa m_sb m_sc (m_is + 1) m_os m_vn m_vc m_va m_vb m_ve m_no m_pl m_fa m_oc m_fu m_ke m_t m_f m_rs m_rt m_rf m_st z3 m_ob m_al m_el m_vt m_vf m_vs m_nr m_ty m_pa m_fn m_md m_ms m_mr) fp_X8_225 dX8_feed_44 rfl rfl (Nat.le_of_ble_eq_true rfl) (fun _ => ⟨rfl, rfl⟩) rfl ?_
      refine g_aload_n 0 (q := 48) dX8_feed_47 rfl rfl ?_
      refine g_get (q := 51) fl_X8_225 dX8_feed_48 rfl rfl rfl ?_
      have hf := Option.some.inj hf
      subst hf
      exact g_ireturn dX8_feed_51 rfl ⟨rfl, rfl⟩
    · rw [if_pos c2] at hf
      refine g_bipush (q := 26) (v := (-6)) dX8_feed_24 rfl rfl ?_
      have hf := Option.some.inj hf
      subst hf
      exact g_ireturn dX8_feed_26 rfl ⟨rfl, rfl⟩
  · rw [if_pos c1] at hf
    refine g_bipush (q := 14) (v := (-2)) dX8_feed_12 rfl rfl ?_
    have hf := Option.some.inj hf
    subst hf
    exact g_ireturn dX8_feed_14 rfl ⟨rfl, rfl⟩
def f_X8_here  (m_is : Int32) (m_pl : Int32) (m_ib : List Int32) : Option (Int32) := (if m_is ≤ m_pl then some (-1) else (tld m_ib m_pl).bind fun r2 => some r2)
set_option maxRecDepth 20000 in
set_option maxHeartbeats 4000000 in
theorem ev_X8_here {l : Launch} {E : tEn}  {m_n : Int32} {m_pt : Int32} {m_rc : Int32} {m_sa : Int64} {m_sb : Int64} {m_sc : Int32} {m_is : Int32} {m_os : Int32} {m_vn : Int32} {m_vc : Int32} {m_va : Int64} {m_vb : Int64} {m_ve : Int32} {m_no : Int32} {m_pl : Int32} {m_fa : Int32} {m_oc : Int32} {m_fu : Int32} {m_ke : Int32} {m_t : List Int64} {m_f : List Int32} {m_rs : List Int32} {m_rt : List Int64} {m_rf : List Int32} {m_st : List Int32} {m_ib : List Int32} {m_ob : List Int32} {m_al : List Int32} {m_el : List Int32} {m_vt : List Int64} {m_vf : List Int32} {m_vs : List Int32} {m_nr : List Int32} {m_ty : List Int32} {m_pa : List Int32} {m_fn : List Int64} {m_md : List Int64} {m_ms : List Int32} {m_mr : List Int32}  {res : Int32} (hf : f_X8_here m_is m_pl m_ib = some res) : tEv l E yX8_here cX8_here 1 (some .int) 1 0 0 [.ref 0] (encM m_n m_pt m_rc m_sa m_sb m_sc m_is m_os m_vn m_vc m_va m_vb m_ve m_no m_pl m_fa m_oc m_fu m_ke m_t m_f m_rs m_rt m_rf m_st m_ib m_ob m_al m_el m_vt m_vf m_vs m_nr m_ty m_pa m_fn m_md m_ms m_mr) (fun r h' => r = some (.int res) ∧ h' = encM m_n m_pt m_rc m_sa m_sb m_sc m_is m_os m_vn m_vc m_va m_vb m_ve m_no m_pl m_fa m_oc m_fu m_ke m_t m_f m_rs m_rt m_rf m_st m_ib m_ob m_al m_el m_vt m_vf m_vs m_nr m_ty m_pa m_fn m_md m_ms m_mr) := by
  refine tEv.of (own := RX8) (ini := false) (L := [(0, .ref 0)]) (by decide +kernel) rfl (fun h9 => nomatch h9) rfl (Nat.le_of_ble_eq_true rfl) ?_
  rw [f_X8_here] at hf
  refine g_aload_n 0 (q := 1) dX8_here_0 rfl rfl ?_
  refine g_get (q := 4) fl_X8_228 dX8_here_1 rfl rfl rfl ?_
  refine g_aload_n 0 (q := 5) dX8_here_4 rfl rfl ?_
  refine g_get (q := 8) fl_X8_225 dX8_here_5 rfl rfl rfl ?_
  refine g_icmp_ge (t := 23) (q := 11) dX8_here_8 (by decide) rfl (fun c1 => ?_) (fun c1 => ?_)
  · rw [if_pos c1] at hf
    refine g_iconst (q := 24) (v := (-1)) dX8_here_23 rfl rfl ?_
    have hf := Option.some.inj hf
    subst hf
    exact g_ireturn dX8_here_24 rfl ⟨rfl, rfl⟩
  · rw [if_neg c1] at hf
    refine g_aload_n 0 (q := 12) dX8_here_11 rfl rfl ?_
    refine g_get (q := 15) fl_X8_37 dX8_here_12 rfl rfl rfl ?_
    refine g_aload_n 0 (q := 16) dX8_here_15 rfl rfl ?_
    refine g_get (q := 19) fl_X8_228 dX8_here_16 rfl rfl rfl ?_
    obtain ⟨r2, e3, hf⟩ := Option.bind_eq_some_iff.mp hf
    refine g_iaload (q := 20) dX8_here_19 rfl rfl e3 ?_
    refine g_goto (t := 24) dX8_here_20 (by decide) ?_
    have hf := Option.some.inj hf
    subst hf
    exact g_ireturn dX8_here_24 rfl ⟨rfl, rfl⟩
def f_X8_term_L6 (rc : Int32 → Int32 → Int32 → Int32 → Int32 → Int32 → Int32 → List Int32 → Option (Int64 × Int32 × Int32 × Int32)) (w1 : Int32) (m_n : Int32) (m_pt : Int32) (m_is : Int32) (m_ib : List Int32) (K : Int64 → Int32 → Int32 → Int32 → Option (Int64 × Int32 × Int32 × Int32)) : Nat → Int64 → Int32 → Int32 → Int32 → Option (Int64 × Int32 × Int32 × Int32)
  | 0, _, _, _, _ => none
  | fu + 1, v2, m_pl, m_fa, m_oc => (if m_fa = (-1) then (f_X8_here m_is m_pl m_ib).bind fun r4 => (if r4 = 42 then (rc w1 m_n m_pt m_is (m_pl + 1) m_fa m_oc m_ib).bind fun r7 => f_X8_term_L6 rc w1 m_n m_pt m_is m_ib K fu (v2 &&& r7.1) (r7.2.1) (r7.2.2.1) (r7.2.2.2) else K v2 m_pl m_fa m_oc) else K v2 m_pl m_fa m_oc)
def f_X8_term (rc : Int32 → Int32 → Int32 → Int32 → Int32 → Int32 → Int32 → List Int32 → Option (Int64 × Int32 × Int32 × Int32)) (a0 : Int32) (m_n : Int32) (m_pt : Int32) (m_is : Int32) (m_pl : Int32) (m_fa : Int32) (m_oc : Int32) (m_ib : List Int32) : Option (Int64 × Int32 × Int32 × Int32) := (rc a0 m_n m_pt m_is m_pl m_fa m_oc m_ib).bind fun r1 => f_X8_term_L6 rc a0 m_n m_pt m_is m_ib (fun y9 k10 k11 k12 => some (y9, k10, k11, k12)) tFU (r1.1) (r1.2.1) (r1.2.2.1) (r1.2.2.2)
set_option maxRecDepth 20000 in
set_option maxHeartbeats 4000000 in
theorem ev_X8_term_L6 {l : Launch} {E : tEn}  {rc : Int32 → Int32 → Int32 → Int32 → Int32 → Int32 → Int32 → List Int32 → Option (Int64 × Int32 × Int32 × Int32)} {dd dq : Nat} (hdd : 2 ≤ dd) (hdq : dd + 1 ≤ dq) (hrc : ∀ {m_n : Int32} {m_pt : Int32} {m_rc : Int32} {m_sa : Int64} {m_sb : Int64} {m_sc : Int32} {m_is : Int32} {m_os : Int32} {m_vn : Int32} {m_vc : Int32} {m_va : Int64} {m_vb : Int64} {m_ve : Int32} {m_no : Int32} {m_pl : Int32} {m_fa : Int32} {m_oc : Int32} {m_fu : Int32} {m_ke : Int32} {m_t : List Int64} {m_f : List Int32} {m_rs : List Int32} {m_rt : List Int64} {m_rf : List Int32} {m_st : List Int32} {m_ib : List Int32} {m_ob : List Int32} {m_al : List Int32} {m_el : List Int32} {m_vt : List Int64} {m_vf : List Int32} {m_vs : List Int32} {m_nr : List Int32} {m_ty : List Int32} {m_pa : List Int32} {m_fn : List Int64} {m_md : List Int64} {m_ms : List Int32} {m_mr : List Int32} {a0 : Int32} {res : Int64 × Int32 × Int32 × Int32}, rc a0 m_n m_pt m_is m_pl m_fa m_oc m_ib = some res → tEv l E yX8_factor cX8_factor 5 (some .long) dd 0 0 [.ref 0, .int a0] (encM m_n m_pt m_rc m_sa m_sb m_sc m_is m_os m_vn m_vc m_va m_vb m_ve m_no m_pl m_fa m_oc m_fu m_ke m_t m_f m_rs m_rt m_rf m_st m_ib m_ob m_al m_el m_vt m_vf m_vs m_nr m_ty m_pa m_fn m_md m_ms m_mr) (fun r h' => r = some (.long res.1) ∧ h' = encM m_n m_pt m_rc m_sa m_sb m_sc m_is m_os m_vn m_vc m_va m_vb m_ve m_no (res.2.1) (res.2.2.1) (res.2.2.2) m_fu m_ke m_t m_f m_rs m_rt m_rf m_st m_ib m_ob m_al m_el m_vt m_vf m_vs m_nr m_ty m_pa m_fn m_md m_ms m_mr)) {m_n : Int32} {m_pt : Int32} {m_rc : Int32} {m_sa : Int64} {m_sb : Int64} {m_sc : Int32} {m_is : Int32} {m_os : Int32} {m_vn : Int32} {m_vc : Int32} {m_va : Int64} {m_vb : Int64} {m_ve : Int32} {m_no : Int32} {m_fu : Int32} {m_ke : Int32} {m_t : List Int64} {m_f : List Int32} {m_rs : List Int32} {m_rt : List Int64} {m_rf : List Int32} {m_st : List Int32} {m_ib : List Int32} {m_ob : List Int32} {m_al : List Int32} {m_el : List Int32} {m_vt : List Int64} {m_vf : List Int32} {m_vs : List Int32} {m_nr : List Int32} {m_ty : List Int32} {m_pa : List Int32} {m_fn : List Int64} {m_md : List Int64} {m_ms : List Int32} {m_mr : List Int32} {w1 : Int32} {K : Int64 → Int32 → Int32 → Int32 → Option (Int64 × Int32 × Int32 × Int32)} (hK : ∀ (v2 : Int64) (m_pl : Int32) (m_fa : Int32) (m_oc : Int32) (res : Int64 × Int32 × Int32 × Int32), K v2 m_pl m_fa m_oc = some res → tG l E RX8 cX8_term 4 (some .long) false dq (fun r h' => r = some (.long res.1) ∧ h' = encM m_n m_pt m_rc m_sa m_sb m_sc m_is m_os m_vn m_vc m_va m_vb m_ve m_no (res.2.1) (res.2.2.1) (res.2.2.2) m_fu m_ke m_t m_f m_rs m_rt m_rf m_st m_ib m_ob m_al m_el m_vt m_vf m_vs m_nr m_ty m_pa m_fn m_md m_ms m_mr) 0 0 44 [(2, .long v2)] [] (encM m_n m_pt m_rc m_sa m_sb m_sc m_is m_os m_vn m_vc m_va m_vb m_ve m_no m_pl m_fa m_oc m_fu m_ke m_t m_f m_rs m_rt m_rf m_st m_ib m_ob m_al m_el m_vt m_vf m_vs m_nr m_ty m_pa m_fn m_md m_ms m_mr)) :
    ∀ (fu : Nat) (v2 : Int64) (m_pl : Int32) (m_fa : Int32) (m_oc : Int32) (res : Int64 × Int32 × Int32 × Int32), f_X8_term_L6 rc w1 m_n m_pt m_is m_ib K fu v2 m_pl m_fa m_oc = some res → tG l E RX8 cX8_term 4 (some .long) false dq (fun r h' => r = some (.long res.1) ∧ h' = encM m_n m_pt m_rc m_sa m_sb m_sc m_is m_os m_vn m_vc m_va m_vb m_ve m_no (res.2.1) (res.2.2.1) (res.2.2.2) m_fu m_ke m_t m_f m_rs m_rt m_rf m_st m_ib m_ob m_al m_el m_vt m_vf m_vs m_nr m_ty m_pa m_fn m_md m_ms m_mr) 0 0 6 [(0, .ref 0), (1, .int w1), (2, .long v2)] [] (encM m_n m_pt m_rc m_sa m_sb m_sc m_is m_os m_vn m_vc m_va m_vb m_ve m_no m_pl m_fa m_oc m_fu m_ke m_t m_f m_rs m_rt m_rf m_st m_ib m_ob m_al m_el m_vt m_vf m_vs m_nr m_ty m_pa m_fn m_md m_ms m_mr) := by
  intro fu
  induction fu with
  | zero => intro v2 m_pl m_fa m_oc res hf; exact nomatch (show none = some res from hf)
  | succ fu ih =>
    intro v2 m_pl m_fa m_oc res hf
    rw [f_X8_term_L6] at hf
    refine g_aload_n 0 (q := 7) dX8_term_6 rfl rfl ?_
    refine g_get (q := 10) fl_X8_231 dX8_term_7 rfl rfl rfl ?_
    refine g_iconst (q := 11) (v := (-1)) dX8_term_10 rfl rfl ?_
    refine g_icmp_ne (t := 44) (q := 14) dX8_term_11 (by decide) rfl (fun c3 => ?_) (fun c3 => ?_)
    · rw [if_neg c3] at hf
      refine g_ls [2] rfl ?_
      exact hK _ _ _ _ _ hf
    · rw [if_pos c3] at hf
      refine g_aload_n 0 (q := 15) dX8_term_14 rfl rfl ?_
      obtain ⟨r4, e5, hf⟩ := Option.bind_eq_some_iff.mp hf
      refine g_callV (a := 0) (k2 := 0) (n2 := 0) (q := 18) (as := []) (st := []) (st1 := [.int r4]) tm_X8_here ml_X8_234 ti_X8_here rfl rfl dX8_term_15 rfl (ev_X8_here e5) rfl rfl (Nat.le_of_ble_eq_true rfl) (by omega) rfl rfl (Or.inl rfl) rfl ?_
      refine g_bipush (q := 20) (v := 42) dX8_term_18 rfl rfl ?_
      refine g_icmp_ne (t := 44) (q := 23) dX8_term_20 (by decide) rfl (fun c6 => ?_) (fun c6 => ?_)
      · rw [if_neg c6] at hf
        refine g_ls [2] rfl ?_
        exact hK _ _ _ _ _ hf
      · rw [if_pos c6] at hf
        refine g_aload_n 0 (q := 24) dX8_term_23 rfl rfl ?_
        refine g_dup (q := 25) dX8_term_24 rfl rfl ?_
        refine g_get (q := 28) fl_X8_228 dX8_term_25 rfl rfl rfl ?_
        refine g_iconst (q := 29) (v := 1) dX8_term_28 rfl rfl ?_
        refine g_iadd (q := 30) dX8_term_29 rfl ?_
        refine g_put (q := 33) (h' := encM m_n m_pt m_rc m_sa m_sb m_sc m_is m_os m_vn m_vc m_va m_vb m_ve m_no (m_pl + 1) m_fa m_oc m_fu m_ke m_t m_f m_rs m_rt m_rf m_st m_ib m_ob m_al m_el m_vt m_vf m_vs m_nr m_ty m_pa m_fn m_md m_ms m_mr) fp_X8_228 dX8_term_30 rfl rfl (Nat.le_of_ble_eq_true rfl) (fun _ => ⟨rfl, rfl⟩) rfl ?_
        refine g_lload_n 2 (q := 34) dX8_term_33 rfl rfl ?_
        refine g_aload_n 0 (q := 35) dX8_term_34 rfl rfl ?_
        refine g_iload_n 1 (q := 36) dX8_term_35 rfl rfl ?_
        obtain ⟨r7, e8, hf⟩ := Option.bind_eq_some_iff.mp hf
        refine g_callV (a := 0) (k2 := 0) (n2 := 0) (q := 39) (as := [.int w1]) (st := [.long v2]) (st1 := [.long r7.1, .long v2]) tm_X8_factor ml_X8_253 ti_X8_factor rfl rfl dX8_term_36 rfl (hrc e8) rfl rfl (Nat.le_of_ble_eq_true rfl) (by omega) rfl rfl (Or.inl (encM_len.trans encM_len.symm)) rfl ?_
        refine g_land (q := 40) dX8_term_39 rfl ?_
        refine g_lstore_n (q := 41) (L' := [(0, .ref 0), (1, .int w1), (2, .long (v2 &&& r7.1))]) dX8_term_40 rfl (by decide) rfl ?_
        refine g_goto (t := 6) dX8_term_41 (by decide) ?_
        refine g_ls [0, 1, 2] rfl ?_
        exact ih _ _ _ _ _ hf
set_option maxRecDepth 20000 in
set_option maxHeartbeats 4000000 in
theorem ev_X8_term {l : Launch} {E : tEn}  {rc : Int32 → Int32 → Int32 → Int32 → Int32 → Int32 → Int32 → List Int32 → Option (Int64 × Int32 × Int32 × Int32)} {dd dq : Nat} (hdd : 2 ≤ dd) (hdq : dd + 1 ≤ dq) (hrc : ∀ {m_n : Int32} {m_pt : Int32} {m_rc : Int32} {m_sa : Int64} {m_sb : Int64} {m_sc : Int32} {m_is : Int32} {m_os : Int32} {m_vn : Int32} {m_vc : Int32} {m_va : Int64} {m_vb : Int64} {m_ve : Int32} {m_no : Int32} {m_pl : Int32} {m_fa : Int32} {m_oc : Int32} {m_fu : Int32} {m_ke : Int32} {m_t : List Int64} {m_f : List Int32} {m_rs : List Int32} {m_rt : List Int64} {m_rf : List Int32} {m_st : List Int32} {m_ib : List Int32} {m_ob : List Int32} {m_al : List Int32} {m_el : List Int32} {m_vt : List Int64} {m_vf : List Int32} {m_vs : List Int32} {m_nr : List Int32} {m_ty : List Int32} {m_pa : List Int32} {m_fn : List Int64} {m_md : List Int64} {m_ms : List Int32} {m_mr : List Int32} {a0 : Int32} {res : Int64 × Int32 × Int32 × Int32}, rc a0 m_n m_pt m_is m_pl m_fa m_oc m_ib = some res → tEv l E yX8_factor cX8_factor 5 (some .long) dd 0 0 [.ref 0, .int a0] (encM m_n m_pt m_rc m_sa m_sb m_sc m_is m_os m_vn m_vc m_va m_vb m_ve m_no m_pl m_fa m_oc m_fu m_ke m_t m_f m_rs m_rt m_rf m_st m_ib m_ob m_al m_el m_vt m_vf m_vs m_nr m_ty m_pa m_fn m_md m_ms m_mr) (fun r h' => r = some (.long res.1) ∧ h' = encM m_n m_pt m_rc m_sa m_sb m_sc m_is m_os m_vn m_vc m_va m_vb m_ve m_no (res.2.1) (res.2.2.1) (res.2.2.2) m_fu m_ke m_t m_f m_rs m_rt m_rf m_st m_ib m_ob m_al m_el m_vt m_vf m_vs m_nr m_ty m_pa m_fn m_md m_ms m_mr)) {m_n : Int32} {m_pt : Int32} {m_rc : Int32} {m_sa : Int64} {m_sb : Int64} {m_sc : Int32} {m_is : Int32} {m_os : Int32} {m_vn : Int32} {m_vc : Int32} {m_va : Int64} {m_vb : Int64} {m_ve : Int32} {m_no : Int32} {m_pl : Int32} {m_fa : Int32} {m_oc : Int32} {m_fu : Int32} {m_ke : Int32} {m_t : List Int64} {m_f : List Int32} {m_rs : List Int32} {m_rt : List Int64} {m_rf : List Int32} {m_st : List Int32} {m_ib : List Int32} {m_ob : List Int32} {m_al : List Int32} {m_el : List Int32} {m_vt : List Int64} {m_vf : List Int32} {m_vs : List Int32} {m_nr : List Int32} {m_ty : List Int32} {m_pa : List Int32} {m_fn : List Int64} {m_md : List Int64} {m_ms : List Int32} {m_mr : List Int32} {a0 : Int32} {res : Int64 × Int32 × Int32 × Int32} (hf : f_X8_term rc a0 m_n m_pt m_is m_pl m_fa m_oc m_ib = some res) : tEv l E yX8_term cX8_term 4 (some .long) dq 0 0 [.ref 0, .int a0] (encM m_n m_pt m_rc m_sa m_sb m_sc m_is m_os m_vn m_vc m_va m_vb m_ve m_no m_pl m_fa m_oc m_fu m_ke m_t m_f m_rs m_rt m_rf m_st m_ib m_ob m_al m_el m_vt m_vf m_vs m_nr m_ty m_pa m_fn m_md m_ms m_mr) (fun r h' => r = some (.long res.1) ∧ h' = encM m_n m_pt m_rc m_sa m_sb m_sc m_is m_os m_vn m_vc m_va m_vb m_ve m_no (res.2.1) (res.2.2.1) (res.2.2.2) m_fu m_ke m_t m_f m_rs m_rt m_rf m_st m_ib m_ob m_al m_el m_vt m_vf m_vs m_nr m_ty m_pa m_fn m_md m_ms m_mr) := by
  refine tEv.of (own := RX8) (ini := false) (L := [(0, .ref 0), (1, .int a0)]) (by decide +kernel) rfl (fun h9 => nomatch h9) rfl (Nat.le_of_ble_eq_true rfl) ?_
  rw [f_X8_term] at hf
  refine g_aload_n 0 (q := 1) dX8_term_0 rfl rfl ?_
  refine g_iload_n 1 (q := 2) dX8_term_1 rfl rfl ?_
  obtain ⟨r1, e2, hf⟩ := Option.bind_eq_some_iff.mp hf
  refine g_callV (a := 0) (k2 := 0) (n2 := 0) (q := 5) (as := [.int a0]) (st := []) (st1 := [.long r1.1]) tm_X8_factor ml_X8_253 ti_X8_factor rfl rfl dX8_term_2 rfl (hrc e2) rfl rfl (Nat.le_of_ble_eq_true rfl) (by omega) rfl rfl (Or.inl (encM_len.trans encM_len.symm)) rfl ?_
  refine g_lstore_n (q := 6) (L' := [(0, .ref 0), (1, .int a0), (2, .long r1.1)]) dX8_term_5 rfl (by decide) rfl ?_
  refine g_ls [0, 1, 2] rfl ?_
  refine ev_X8_term_L6 hdd hdq hrc (fun y9 k10 k11 k12 res hf => ?_) tFU _ _ _ _ res hf
  refine g_lload_n 0 (q := 45) dX8_term_44 rfl rfl ?_
  have hf := Option.some.inj hf
  subst hf
  exact g_lreturn dX8_term_45 rfl ⟨rfl, rfl⟩
def f_X8_formula_L6 (rc : Int32 → Int32 → Int32 → Int32 → Int32 → Int32 → Int32 → List Int32 → Option (Int64 × Int32 × Int32 × Int32)) (w1 : Int32) (m_n : Int32) (m_pt : Int32) (m_is : Int32) (m_ib : List Int32) (K : Int64 → Int32 → Int32 → Int32 → Option (Int64 × Int32 × Int32 × Int32)) : Nat → Int64 → Int32 → Int32 → Int32 → Option (Int64 × Int32 × Int32 × Int32)
  | 0, _, _, _, _ => none
  | fu + 1, v2, m_pl, m_fa, m_oc => (if m_fa = (-1) then (f_X8_here m_is m_pl m_ib).bind fun r4 => (if r4 = 43 then (f_X8_term rc w1 m_n m_pt m_is (m_pl + 1) m_fa m_oc m_ib).bind fun r7 => f_X8_formula_L6 rc w1 m_n m_pt m_is m_ib K fu (v2 ||| r7.1) (r7.2.1) (r7.2.2.1) (r7.2.2.2) else K v2 m_pl m_fa m_oc) else K v2 m_pl m_fa m_oc)
def f_X8_formula (rc : Int32 → Int32 → Int32 → Int32 → Int32 → Int32 → Int32 → List Int32 → Option (Int64 × Int32 × Int32 × Int32)) (a0 : Int32) (m_n : Int32) (m_pt : Int32) (m_is : Int32) (m_pl : Int32) (m_fa : Int32) (m_oc : Int32) (m_ib : List Int32) : Option (Int64 × Int32 × Int32 × Int32) := (f_X8_term rc a0 m_n m_pt m_is m_pl m_fa m_oc m_ib).bind fun r1 => f_X8_formula_L6 rc a0 m_n m_pt m_is m_ib (fun y9 k10 k11 k12 => some (y9, k10, k11, k12)) tFU (r1.1) (r1.2.1) (r1.2.2.1) (r1.2.2.2)
set_option maxRecDepth 20000 in
set_option maxHeartbeats 4000000 in
theorem ev_X8_formula_L6 {l : Launch} {E : tEn}  {rc : Int32 → Int32 → Int32 → Int32 → Int32 → Int32 → Int32 → List Int32 → Option (Int64 × Int32 × Int32 × Int32)} {dd dq : Nat} (hdd : 2 ≤ dd) (hdq : dd + 2 ≤ dq) (hrc : ∀ {m_n : Int32} {m_pt : Int32} {m_rc : Int32} {m_sa : Int64} {m_sb : Int64} {m_sc : Int32} {m_is : Int32} {m_os : Int32} {m_vn : Int32} {m_vc : Int32} {m_va : Int64} {m_vb : Int64} {m_ve : Int32} {m_no : Int32} {m_pl : Int32} {m_fa : Int32} {m_oc : Int32} {m_fu : Int32} {m_ke : Int32} {m_t : List Int64} {m_f : List Int32} {m_rs : List Int32} {m_rt : List Int64} {m_rf : List Int32} {m_st : List Int32} {m_ib : List Int32} {m_ob : List Int32} {m_al : List Int32} {m_el : List Int32} {m_vt : List Int64} {m_vf : List Int32} {m_vs : List Int32} {m_nr : List Int32} {m_ty : List Int32} {m_pa : List Int32} {m_fn : List Int64} {m_md : List Int64} {m_ms : List Int32} {m_mr : List Int32} {a0 : Int32} {res : Int64 × Int32 × Int32 × Int32}, rc a0 m_n m_pt m_is m_pl m_fa m_oc m_ib = some res → tEv l E yX8_factor cX8_factor 5 (some .long) dd 0 0 [.ref 0, .int a0] (encM m_n m_pt m_rc m_sa m_sb m_sc m_is m_os m_vn m_vc m_va m_vb m_ve m_no m_pl m_fa m_oc m_fu m_ke m_t m_f m_rs m_rt m_rf m_st m_ib m_ob m_al m_el m_vt m_vf m_vs m_nr m_ty m_pa m_fn m_md m_ms m_mr) (fun r h' => r = some (.long res.1) ∧ h' = encM m_n m_pt m_rc m_sa m_sb m_sc m_is m_os m_vn m_vc m_va m_vb m_ve m_no (res.2.1) (res.2.2.1) (res.2.2.2) m_fu m_ke m_t m_f m_rs m_rt m_rf m_st m_ib m_ob m_al m_el m_vt m_vf m_vs m_nr m_ty m_pa m_fn m_md m_ms m_mr)) {m_n : Int32} {m_pt : Int32} {m_rc : Int32} {m_sa : Int64} {m_sb : Int64} {m_sc : Int32} {m_is : Int32} {m_os : Int32} {m_vn : Int32} {m_vc : Int32} {m_va : Int64} {m_vb : Int64} {m_ve : Int32} {m_no : Int32} {m_fu : Int32} {m_ke : Int32} {m_t : List Int64} {m_f : List Int32} {m_rs : List Int32} {m_rt : List Int64} {m_rf : List Int32} {m_st : List Int32} {m_ib : List Int32} {m_ob : List Int32} {m_al : List Int32} {m_el : List Int32} {m_vt : List Int64} {m_vf : List Int32} {m_vs : List Int32} {m_nr : List Int32} {m_ty : List Int32} {m_pa : List Int32} {m_fn : List Int64} {m_md : List Int64} {m_ms : List Int32} {m_mr : List Int32} {w1 : Int32} {K : Int64 → Int32 → Int32 → Int32 → Option (Int64 × Int32 × Int32 × Int32)} (hK : ∀ (v2 : Int64) (m_pl : Int32) (m_fa : Int32) (m_oc : Int32) (res : Int64 × Int32 × Int32 × Int32), K v2 m_pl m_fa m_oc = some res → tG l E RX8 cX8_formula 4 (some .long) false dq (fun r h' => r = some (.long res.1) ∧ h' = encM m_n m_pt m_rc m_sa m_sb m_sc m_is m_os m_vn m_vc m_va m_vb m_ve m_no (res.2.1) (res.2.2.1) (res.2.2.2) m_fu m_ke m_t m_f m_rs m_rt m_rf m_st m_ib m_ob m_al m_el m_vt m_vf m_vs m_nr m_ty m_pa m_fn m_md m_ms m_mr) 0 0 44 [(2, .long v2)] [] (encM m_n m_pt m_rc m_sa m_sb m_sc m_is m_os m_vn m_vc m_va m_vb m_ve m_no m_pl m_fa m_oc m_fu m_ke m_t m_f m_rs m_rt m_rf m_st m_ib m_ob m_al m_el m_vt m_vf m_vs m_nr m_ty m_pa m_fn m_md m_ms m_mr)) :
    ∀ (fu : Nat) (v2 : Int64) (m_pl : Int32) (m_fa : Int32) (m_oc : Int32) (res : Int64 × Int32 × Int32 × Int32), f_X8_formula_L6 rc w1 m_n m_pt m_is m_ib K fu v2 m_pl m_fa m_oc = some res → tG l E RX8 cX8_formula 4 (some .long) false dq (fun r h' => r = some (.long res.1) ∧ h' = encM m_n m_pt m_rc m_sa m_sb m_sc m_is m_os m_vn m_vc m_va m_vb m_ve m_no (res.2.1) (res.2.2.1) (res.2.2.2) m_fu m_ke m_t m_f m_rs m_rt m_rf m_st m_ib m_ob m_al m_el m_vt m_vf m_vs m_nr m_ty m_pa m_fn m_md m_ms m_mr) 0 0 6 [(0, .ref 0), (1, .int w1), (2, .long v2)] [] (encM m_n m_pt m_rc m_sa m_sb m_sc m_is m_os m_vn m_vc m_va m_vb m_ve m_no m_pl m_fa m_oc m_fu m_ke m_t m_f m_rs m_rt m_rf m_st m_ib m_ob m_al m_el m_vt m_vf m_vs m_nr m_ty m_pa m_fn m_md m_ms m_mr) := by
  intro fu
  induction fu with
  | zero => intro v2 m_pl m_fa m_oc res hf; exact nomatch (show none = some res from hf)
  | succ fu ih =>
    intro v2 m_pl m_fa m_oc res hf
    rw [f_X8_formula_L6] at hf
    refine g_aload_n 0 (q := 7) dX8_formula_6 rfl rfl ?_
    refine g_get (q := 10) fl_X8_231 dX8_formula_7 rfl rfl rfl ?_
    refine g_iconst (q := 11) (v := (-1)) dX8_formula_10 rfl rfl ?_
    refine g_icmp_ne (t := 44) (q := 14) dX8_formula_11 (by decide) rfl (fun c3 => ?_) (fun c3 => ?_)
    · rw [if_neg c3] at hf
      refine g_ls [2] rfl ?_
      exact hK _ _ _ _ _ hf
    · rw [if_pos c3] at hf
      refine g_aload_n 0 (q := 15) dX8_formula_14 rfl rfl ?_
      obtain ⟨r4, e5, hf⟩ := Option.bind_eq_some_iff.mp hf
      refine g_callV (a := 0) (k2 := 0) (n2 := 0) (q := 18) (as := []) (st := []) (st1 := [.int r4]) tm_X8_here ml_X8_234 ti_X8_here rfl rfl dX8_formula_15 rfl (ev_X8_here e5) rfl rfl (Nat.le_of_ble_eq_true rfl) (by omega) rfl rfl (Or.inl rfl) rfl ?_
      refine g_bipush (q := 20) (v := 43) dX8_formula_18 rfl rfl ?_
      refine g_icmp_ne (t := 44) (q := 23) dX8_formula_20 (by decide) rfl (fun c6 => ?_) (fun c6 => ?_)
      · rw [if_neg c6] at hf
        refine g_ls [2] rfl ?_
        exact hK _ _ _ _ _ hf
      · rw [if_pos c6] at hf
        refine g_aload_n 0 (q := 24) dX8_formula_23 rfl rfl ?_
        refine g_dup (q := 25) dX8_formula_24 rfl rfl ?_
        refine g_get (q := 28) fl_X8_228 dX8_formula_25 rfl rfl rfl ?_
        refine g_iconst (q := 29) (v := 1) dX8_formula_28 rfl rfl ?_
        refine g_iadd (q := 30) dX8_formula_29 rfl ?_
        refine g_put (q := 33) (h' := encM m_n m_pt m_rc m_sa m_sb m_sc m_is m_os m_vn m_vc m_va m_vb m_ve m_no (m_pl + 1) m_fa m_oc m_fu m_ke m_t m_f m_rs m_rt m_rf m_st m_ib m_ob m_al m_el m_vt m_vf m_vs m_nr m_ty m_pa m_fn m_md m_ms m_mr) fp_X8_228 dX8_formula_30 rfl rfl (Nat.le_of_ble_eq_true rfl) (fun _ => ⟨rfl, rfl⟩) rfl ?_
        refine g_lload_n 2 (q := 34) dX8_formula_33 rfl rfl ?_
        refine g_aload_n 0 (q := 35) dX8_formula_34 rfl rfl ?_
        refine g_iload_n 1 (q := 36) dX8_formula_35 rfl rfl ?_
        obtain ⟨r7, e8, hf⟩ := Option.bind_eq_some_iff.mp hf
        refine g_callV (a := 0) (k2 := 0) (n2 := 0) (q := 39) (as := [.int w1]) (st := [.long v2]) (st1 := [.long r7.1, .long v2]) tm_X8_term ml_X8_261 ti_X8_term rfl rfl dX8_formula_36 rfl (ev_X8_term hdd (Nat.le_refl _) hrc e8) rfl rfl (Nat.le_of_ble_eq_true rfl) (by omega) rfl rfl (Or.inl (encM_len.trans encM_len.symm)) rfl ?_
        refine g_lor (q := 40) dX8_formula_39 rfl ?_
        refine g_lstore_n (q := 41) (L' := [(0, .ref 0), (1, .int w1), (2, .long (v2 ||| r7.1))]) dX8_formula_40 rfl (by decide) rfl ?_
        refine g_goto (t := 6) dX8_formula_41 (by decide) ?_
        refine g_ls [0, 1, 2] rfl ?_
        exact ih _ _ _ _ _ hf
set_option maxRecDepth 20000 in
set_option maxHeartbeats 4000000 in
theorem ev_X8_formula {l : Launch} {E : tEn}  {rc : Int32 → Int32 → Int32 → Int32 → Int32 → Int32 → Int32 → List Int32 → Option (Int64 × Int32 × Int32 × Int32)} {dd dq : Nat} (hdd : 2 ≤ dd) (hdq : dd + 2 ≤ dq) (hrc : ∀ {m_n : Int32} {m_pt : Int32} {m_rc : Int32} {m_sa : Int64} {m_sb : Int64} {m_sc : Int32} {m_is : Int32} {m_os : Int32} {m_vn : Int32} {m_vc : Int32} {m_va : Int64} {m_vb : Int64} {m_ve : Int32} {m_no : Int32} {m_pl : Int32} {m_fa : Int32} {m_oc : Int32} {m_fu : Int32} {m_ke : Int32} {m_t : List Int64} {m_f : List Int32} {m_rs : List Int32} {m_rt : List Int64} {m_rf : List Int32} {m_st : List Int32} {m_ib : List Int32} {m_ob : List Int32} {m_al : List Int32} {m_el : List Int32} {m_vt : List Int64} {m_vf : List Int32} {m_vs : List Int32} {m_nr : List Int32} {m_ty : List Int32} {m_pa : List Int32} {m_fn : List Int64} {m_md : List Int64} {m_ms : List Int32} {m_mr : List Int32} {a0 : Int32} {res : Int64 × Int32 × Int32 × Int32}, rc a0 m_n m_pt m_is m_pl m_fa m_oc m_ib = some res → tEv l E yX8_factor cX8_factor 5 (some .long) dd 0 0 [.ref 0, .int a0] (encM m_n m_pt m_rc m_sa m_sb m_sc m_is m_os m_vn m_vc m_va m_vb m_ve m_no m_pl m_fa m_oc m_fu m_ke m_t m_f m_rs m_rt m_rf m_st m_ib m_ob m_al m_el m_vt m_vf m_vs m_nr m_ty m_pa m_fn m_md m_ms m_mr) (fun r h' => r = some (.long res.1) ∧ h' = encM m_n m_pt m_rc m_sa m_sb m_sc m_is m_os m_vn m_vc m_va m_vb m_ve m_no (res.2.1) (res.2.2.1) (res.2.2.2) m_fu m_ke m_t m_f m_rs m_rt m_rf m_st m_ib m_ob m_al m_el m_vt m_vf m_vs m_nr m_ty m_pa m_fn m_md m_ms m_mr)) {m_n : Int32} {m_pt : Int32} {m_rc : Int32} {m_sa : Int64} {m_sb : Int64} {m_sc : Int32} {m_is : Int32} {m_os : Int32} {m_vn : Int32} {m_vc : Int32} {m_va : Int64} {m_vb : Int64} {m_ve : Int32} {m_no : Int32} {m_pl : Int32} {m_fa : Int32} {m_oc : Int32} {m_fu : Int32} {m_ke : Int32} {m_t : List Int64} {m_f : List Int32} {m_rs : List Int32} {m_rt : List Int64} {m_rf : List Int32} {m_st : List Int32} {m_ib : List Int32} {m_ob : List Int32} {m_al : List Int32} {m_el : List Int32} {m_vt : List Int64} {m_vf : List Int32} {m_vs : List Int32} {m_nr : List Int32} {m_ty : List Int32} {m_pa : List Int32} {m_fn : List Int64} {m_md : List Int64} {m_ms : List Int32} {m_mr : List Int32} {a0 : Int32} {res : Int64 × Int32 × Int32 × Int32} (hf : f_X8_formula rc a0 m_n m_pt m_is m_pl m_fa m_oc m_ib = some res) : tEv l E yX8_formula cX8_formula 4 (some .long) dq 0 0 [.ref 0, .int a0] (encM m_n m_pt m_rc m_sa m_sb m_sc m_is m_os m_vn m_vc m_va m_vb m_ve m_no m_pl m_fa m_oc m_fu m_ke m_t m_f m_rs m_rt m_rf m_st m_ib m_ob m_al m_el m_vt m_vf m_vs m_nr m_ty m_pa m_fn m_md m_ms m_mr) (fun r h' => r = some (.long res.1) ∧ h' = encM m_n m_pt m_rc m_sa m_sb m_sc m_is m_os m_vn m_vc m_va m_vb m_ve m_no (res.2.1) (res.2.2.1) (res.2.2.2) m_fu m_ke m_t m_f m_rs m_rt m_rf m_st m_ib m_ob m_al m_el m_vt m_vf m_vs m_nr m_ty m_pa m_fn m_md m_ms m_mr) := by
  refine tEv.of (own := RX8) (ini := false) (L := [(0, .ref 0), (1, .int a0)]) (by decide +kernel) rfl (fun h9 => nomatch h9) rfl (Nat.le_of_ble_eq_true rfl) ?_
  rw [f_X8_formula] at hf
  refine g_aload_n 0 (q := 1) dX8_formula_0 rfl rfl ?_
  refine g_iload_n 1 (q := 2) dX8_formula_1 rfl rfl ?_
  obtain ⟨r1, e2, hf⟩ := Option.bind_eq_some_iff.mp hf
  refine g_callV (a := 0) (k2 := 0) (n2 := 0) (q := 5) (as := [.int a0]) (st := []) (st1 := [.long r1.1]) tm_X8_term ml_X8_261 ti_X8_term rfl rfl dX8_formula_2 rfl (ev_X8_term hdd (Nat.le_refl _) hrc e2) rfl rfl (Nat.le_of_ble_eq_true rfl) (by omega) rfl rfl (Or.inl (encM_len.trans encM_len.symm)) rfl ?_
  refine g_lstore_n (q := 6) (L' := [(0, .ref 0), (1, .int a0), (2, .long r1.1)]) dX8_formula_5 rfl (by decide) rfl ?_
  refine g_ls [0, 1, 2] rfl ?_
  refine ev_X8_formula_L6 hdd hdq hrc (fun y9 k10 k11 k12 res hf => ?_) tFU _ _ _ _ res hf
  refine g_lload_n 0 (q := 45) dX8_formula_44 rfl rfl ?_
  have hf := Option.some.inj hf
  subst hf
  exact g_lreturn dX8_formula_45 rfl ⟨rfl, rfl⟩
def f_X8_fail  (m_pl : Int32) (m_fa : Int32) : Int32 := (if m_fa = (-1) then m_pl else m_fa)
set_option maxRecDepth 20000 in
set_option maxHeartbeats 4000000 in
theorem ev_X8_fail {l : Launch} {E : tEn}  {m_n : Int32} {m_pt : Int32} {m_rc : Int32} {m_sa : Int64} {m_sb : Int64} {m_sc : Int32} {m_is : Int32} {m_os : Int32} {m_vn : Int32} {m_vc : Int32} {m_va : Int64} {m_vb : Int64} {m_ve : Int32} {m_no : Int32} {m_pl : Int32} {m_fa : Int32} {m_oc : Int32} {m_fu : Int32} {m_ke : Int32} {m_t : List Int64} {m_f : List Int32} {m_rs : List Int32} {m_rt : List Int64} {m_rf : List Int32} {m_st : List Int32} {m_ib : List Int32} {m_ob : List Int32} {m_al : List Int32} {m_el : List Int32} {m_vt : List Int64} {m_vf : List Int32} {m_vs : List Int32} {m_nr : List Int32} {m_ty : List Int32} {m_pa : List Int32} {m_fn : List Int64} {m_md : List Int64} {m_ms : List Int32} {m_mr : List Int32}  : tEv l E yX8_fail cX8_fail 1 none 1 0 0 [.ref 0] (encM m_n m_pt m_rc m_sa m_sb m_sc m_is m_os m_vn m_vc m_va m_vb m_ve m_no m_pl m_fa m_oc m_fu m_ke m_t m_f m_rs m_rt m_rf m_st m_ib m_ob m_al m_el m_vt m_vf m_vs m_nr m_ty m_pa m_fn m_md m_ms m_mr) (fun r h' => r = none ∧ h' = encM m_n m_pt m_rc m_sa m_sb m_sc m_is m_os m_vn m_vc m_va m_vb m_ve m_no m_pl (f_X8_fail m_pl m_fa) m_oc m_fu m_ke m_t m_f m_rs m_rt m_rf m_st m_ib m_ob m_al m_el m_vt m_vf m_vs m_nr m_ty m_pa m_fn m_md m_ms m_mr) := by
  refine tEv.of (own := RX8) (ini := false) (L := [(0, .ref 0)]) (by decide +kernel) rfl (fun h9 => nomatch h9) rfl (Nat.le_of_ble_eq_true rfl) ?_
  obtain ⟨res, hf⟩ : ∃ z, f_X8_fail m_pl m_fa = z := ⟨_, rfl⟩
  rw [hf]
  rw [f_X8_fail] at hf
  refine g_aload_n 0 (q := 1) dX8_fail_0 rfl rfl ?_
  refine g_get (q := 4) fl_X8_231 dX8_fail_1 rfl rfl rfl ?_
  refine g_iconst (q := 5) (v := (-1)) dX8_fail_4 rfl rfl ?_
  refine g_icmp_ne (t := 16) (q := 8) dX8_fail_5 (by decide) rfl (fun c1 => ?_) (fun c1 => ?_)
  · rw [if_neg c1] at hf
    subst hf
    exact g_return dX8_fail_16 rfl ⟨rfl, rfl⟩
  · rw [if_pos c1] at hf
    refine g_aload_n 0 (q := 9) dX8_fail_8 rfl rfl ?_
    refine g_aload_n 0 (q := 10) dX8_fail_9 rfl rfl ?_
    refine g_get (q := 13) fl_X8_228 dX8_fail_10 rfl rfl rfl ?_
    refine g_put (q := 16) (h' := encM m_n m_pt m_rc m_sa m_sb m_sc m_is m_os m_vn m_vc m_va m_vb m_ve m_no m_pl m_pl m_oc m_fu m_ke m_t m_f m_rs m_rt m_rf m_st m_ib m_ob m_al m_el m_vt m_vf m_vs m_nr m_ty m_pa m_fn m_md m_ms m_mr) fp_X8_231 dX8_fail_13 rfl rfl (Nat.le_of_ble_eq_true rfl) (fun _ => ⟨rfl, rfl⟩) rfl ?_
    subst hf
    exact g_return dX8_fail_16 rfl ⟨rfl, rfl⟩
def f_X8_factor : Nat → (Int32 → Int32 → Int32 → Int32 → Int32 → Int32 → Int32 → List Int32 → Option (Int64 × Int32 × Int32 × Int32))
  | 0 => fun _ _ _ _ _ _ _ _ => none
  | D + 1 => fun a0 m_n m_pt m_is m_pl m_fa m_oc m_ib => (f_X8_here m_is m_pl m_ib).bind fun r1 => (if (f_X8_isIn (Int32.toInt64 r1) 97 (Int32.toInt64 ((97 + m_n) - 1))) = 0 then (if r1 = 48 then (if r1 = 49 then some ((f_X8_all m_pt), (m_pl + 1), m_fa, m_oc) else some (0, (m_pl + 1), m_fa, m_oc)) else (if r1 = 49 then (if r1 = 49 then some ((f_X8_all m_pt), (m_pl + 1), m_fa, m_oc) else some (0, (m_pl + 1), m_fa, m_oc)) else (if r1 = 33 then (if a0 = 6 then some (0, m_pl, (f_X8_fail m_pl m_fa), m_oc) else (if r1 = 33 then ((f_X8_factor D) (a0 + 1) m_n m_pt m_is (m_pl + 1) m_fa m_oc m_ib).bind fun r16 => some (((f_X8_all m_pt) &&& (r16.1 ^^^ (-1))), r16.2.1, r16.2.2.1, r16.2.2.2) else (f_X8_formula (f_X8_factor D) (a0 + 1) m_n m_pt m_is (m_pl + 1) m_fa m_oc m_ib).bind fun r10 => (if (r10.2.2.1) = (-1) then (f_X8_here m_is (r10.2.1) m_ib).bind fun r13 => (if r13 = 41 then some (r10.1, ((r10.2.1) + 1), r10.2.2.1, r10.2.2.2) else some (r10.1, r10.2.1, (f_X8_fail (r10.2.1) (r10.2.2.1)), r10.2.2.2)) else some (r10.1, r10.2.1, (f_X8_fail (r10.2.1) (r10.2.2.1)), r10.2.2.2)))) else (if r1 = 40 then (if a0 = 6 then some (0, m_pl, (f_X8_fail m_pl m_fa), m_oc) else (if r1 = 33 then ((f_X8_factor D) (a0 + 1) m_n m_pt m_is (m_pl + 1) m_fa m_oc m_ib).bind fun r27 => some (((f_X8_all m_pt) &&& (r27.1 ^^^ (-1))), r27.2.1, r27.2.2.1, r27.2.2.2) else (f_X8_formula (f_X8_factor D) (a0 + 1) m_n m_pt m_is (m_pl + 1) m_fa m_oc m_ib).bind fun r21 => (if (r21.2.2.1) = (-1) then (f_X8_here m_is (r21.2.1) m_ib).bind fun r24 => (if r24 = 41 then some (r21.1, ((r21.2.1) + 1), r21.2.2.1, r21.2.2.2) else some (r21.1, r21.2.1, (f_X8_fail (r21.2.1) (r21.2.2.1)), r21.2.2.2)) else some (r21.1, r21.2.1, (f_X8_fail (r21.2.1) (r21.2.2.1)), r21.2.2.2)))) else some (0, m_pl, (f_X8_fail m_pl m_fa), m_oc))))) else (f_X8_variable (r1 - 97) m_pt).bind fun r30 => some (r30, (m_pl + 1), m_fa, (m_oc + 1)))
set_option maxRecDepth 20000 in
set_option maxHeartbeats 4000000 in
theorem ev_X8_factor {l : Launch} {E : tEn}  : ∀ (D : Nat) {m_n : Int32} {m_pt : Int32} {m_rc : Int32} {m_sa : Int64} {m_sb : Int64} {m_sc : Int32} {m_is : Int32} {m_os : Int32} {m_vn : Int32} {m_vc : Int32} {m_va : Int64} {m_vb : Int64} {m_ve : Int32} {m_no : Int32} {m_pl : Int32} {m_fa : Int32} {m_oc : Int32} {m_fu : Int32} {m_ke : Int32} {m_t : List Int64} {m_f : List Int32} {m_rs : List Int32} {m_rt : List Int64} {m_rf : List Int32} {m_st : List Int32} {m_ib : List Int32} {m_ob : List Int32} {m_al : List Int32} {m_el : List Int32} {m_vt : List Int64} {m_vf : List Int32} {m_vs : List Int32} {m_nr : List Int32} {m_ty : List Int32} {m_pa : List Int32} {m_fn : List Int64} {m_md : List Int64} {m_ms : List Int32} {m_mr : List Int32} {a0 : Int32} {res : Int64 × Int32 × Int32 × Int32}, f_X8_factor D a0 m_n m_pt m_is m_pl m_fa m_oc m_ib = some res → tEv l E yX8_factor cX8_factor 5 (some .long) (3 * D + 2) 0 0 [.ref 0, .int a0] (encM m_n m_pt m_rc m_sa m_sb m_sc m_is m_os m_vn m_vc m_va m_vb m_ve m_no m_pl m_fa m_oc m_fu m_ke m_t m_f m_rs m_rt m_rf m_st m_ib m_ob m_al m_el m_vt m_vf m_vs m_nr m_ty m_pa m_fn m_md m_ms m_mr) (fun r h' => r = some (.long res.1) ∧ h' = encM m_n m_pt m_rc m_sa m_sb m_sc m_is m_os m_vn m_vc m_va m_vb m_ve m_no (res.2.1) (res.2.2.1) (res.2.2.2) m_fu m_ke m_t m_f m_rs m_rt m_rf m_st m_ib m_ob m_al m_el m_vt m_vf m_vs m_nr m_ty m_pa m_fn m_md m_ms m_mr) := by
  intro D
  induction D with
  | zero => intro m_n m_pt m_rc m_sa m_sb m_sc m_is m_os m_vn m_vc m_va m_vb m_ve m_no m_pl m_fa m_oc m_fu m_ke m_t m_f m_rs m_rt m_rf m_st m_ib m_ob m_al m_el m_vt m_vf m_vs m_nr m_ty m_pa m_fn m_md m_ms m_mr a0 res hf; exact nomatch (show none = some res from hf)
  | succ D ih =>
    intro m_n m_pt m_rc m_sa m_sb m_sc m_is m_os m_vn m_vc m_va m_vb m_ve m_no m_pl m_fa m_oc m_fu m_ke m_t m_f m_rs m_rt m_rf m_st m_ib m_ob m_al m_el m_vt m_vf m_vs m_nr m_ty m_pa m_fn m_md m_ms m_mr a0 res hf
    have hrc := @ih
    have hdd : 2 ≤ 3 * D + 2 := by omega
    have hdq : 3 * D + 2 + 3 ≤ 3 * (D + 1) + 2 := by omega
    refine tEv.of (own := RX8) (ini := false) (L := [(0, .ref 0), (1, .int a0)]) (by decide +kernel) rfl (fun h9 => nomatch h9) rfl (Nat.le_of_ble_eq_true rfl) ?_
    rw [f_X8_factor] at hf
    dsimp only at hf
    refine g_aload_n 0 (q := 1) dX8_factor_0 rfl rfl ?_
    obtain ⟨r1, e2, hf⟩ := Option.bind_eq_some_iff.mp hf
    refine g_callV (a := 0) (k2 := 0) (n2 := 0) (q := 4) (as := []) (st := []) (st1 := [.int r1]) tm_X8_here ml_X8_234 ti_X8_here rfl rfl dX8_factor_1 rfl (ev_X8_here e2) rfl rfl (Nat.le_of_ble_eq_true rfl) (by omega) rfl rfl (Or.inl rfl) rfl ?_
    refine g_istore_n (q := 5) (L' := [(0, .ref 0), (1, .int a0), (2, .int r1)]) dX8_factor_4 rfl (by decide) rfl ?_
    refine g_iload_n 2 (q := 6) dX8_factor_5 rfl rfl ?_
    refine g_i2l (q := 7) dX8_factor_6 rfl ?_
    refine g_ldc2_w (q := 10) kc_X8_237 dX8_factor_7 rfl ?_
    refine g_bipush (q := 12) (v := 97) dX8_factor_10 rfl rfl ?_
    refine g_aload_n 0 (q := 13) dX8_factor_12 rfl rfl ?_
    refine g_get (q := 16) fl_X8_7 dX8_factor_13 rfl rfl rfl ?_
    refine g_iadd (q := 17) dX8_factor_16 rfl ?_
    refine g_iconst (q := 18) (v := 1) dX8_factor_17 rfl rfl ?_
    refine g_isub (q := 19) dX8_factor_18 rfl ?_
    refine g_i2l (q := 20) dX8_factor_19 rfl ?_
    refine g_callS (k2 := 0) (n2 := 0) (q := 23) (as := [.long (Int32.toInt64 r1), .long 97, .long (Int32.toInt64 ((97 + m_n) - 1))]) (st := []) (st1 := [.int (f_X8_isIn (Int32.toInt64 r1) 97 (Int32.toInt64 ((97 + m_n) - 1)))]) tm_X8_isIn ml_X8_87 ts_X8_isIn dX8_factor_20 rfl ev_X8_isIn rfl rfl (Nat.le_of_ble_eq_true rfl) (by omega) rfl rfl (Or.inl rfl) rfl ?_
    refine g_if_eq (t := 55) (q := 26) dX8_factor_23 (by decide) rfl (fun c3 => ?_) (fun c3 => ?_)
    · rw [if_pos c3] at hf
      refine g_iload_n 2 (q := 56) dX8_factor_55 rfl rfl ?_
      refine g_bipush (q := 58) (v := 48) dX8_factor_56 rfl rfl ?_
      refine g_icmp_eq (t := 67) (q := 61) dX8_factor_58 (by decide) rfl (fun c4 => ?_) (fun c4 => ?_)
      · rw [if_pos c4] at hf
        refine g_aload_n 0 (q := 68) dX8_factor_67 rfl rfl ?_
        refine g_dup (q := 69) dX8_factor_68 rfl rfl ?_
        refine g_get (q := 72) fl_X8_228 dX8_factor_69 rfl rfl rfl ?_
        refine g_iconst (q := 73) (v := 1) dX8_factor_72 rfl rfl ?_
        refine g_iadd (q := 74) dX8_factor_73 rfl ?_
        refine g_put (q := 77) (h' := encM m_n m_pt m_rc m_sa m_sb m_sc m_is m_os m_vn m_vc m_va m_vb m_ve m_no (m_pl + 1) m_fa m_oc m_fu m_ke m_t m_f m_rs m_rt m_rf m_st m_ib m_ob m_al m_el m_vt m_vf m_vs m_nr m_ty m_pa m_fn m_md m_ms m_mr) fp_X8_228 dX8_factor_74 rfl rfl (Nat.le_of_ble_eq_true rfl) (fun _ => ⟨rfl, rfl⟩) rfl ?_
        refine g_iload_n 2 (q := 78) dX8_factor_77 rfl rfl ?_
        refine g_bipush (q := 80) (v := 49) dX8_factor_78 rfl rfl ?_
        refine g_icmp_ne (t := 90) (q := 83) dX8_factor_80 (by decide) rfl (fun c5 => ?_) (fun c5 => ?_)
        · rw [if_neg c5] at hf
          refine g_lconst (q := 91) (v := 0) dX8_factor_90 rfl rfl ?_
          have hf := Option.some.inj hf
          subst hf
          exact g_lreturn dX8_factor_91 rfl ⟨rfl, rfl⟩
        · rw [if_pos c5] at hf
          refine g_aload_n 0 (q := 84) dX8_factor_83 rfl rfl ?_
          refine g_callV (a := 0) (k2 := 0) (n2 := 0) (q := 87) (as := []) (st := []) (st1 := [.long (f_X8_all m_pt)]) tm_X8_all ml_X8_246 ti_X8_all rfl rfl dX8_factor_84 rfl ev_X8_all rfl rfl (Nat.le_of_ble_eq_true rfl) (by omega) rfl rfl (Or.inl rfl) rfl ?_
          refine g_goto (t := 91) dX8_factor_87 (by decide) ?_
          have hf := Option.some.inj hf
          subst hf
          exact g_lreturn dX8_factor_91 rfl ⟨rfl, rfl⟩
      · rw [if_neg c4] at hf
        refine g_iload_n 2 (q := 62) dX8_factor_61 rfl rfl ?_
        refine g_bipush (q := 64) (v := 49) dX8_factor_62 rfl rfl ?_
        refine g_icmp_ne (t := 92) (q := 67) dX8_factor_64 (by decide) rfl (fun c6 => ?_) (fun c6 => ?_)
        · rw [if_neg c6] at hf
          refine g_iload_n 2 (q := 93) dX8_factor_92 rfl rfl ?_
          refine g_bipush (q := 95) (v := 33) dX8_factor_93 rfl rfl ?_
          refine g_icmp_eq (t := 104) (q := 98) dX8_factor_95 (by decide) rfl (fun c7 => ?_) (fun c7 => ?_)
          · rw [if_pos c7] at hf
            refine g_iload_n 1 (q := 105) dX8_factor_104 rfl rfl ?_
            refine g_bipush (q := 107) (v := 6) dX8_factor_105 rfl rfl ?_
            refine g_icmp_ne (t := 116) (q := 110) dX8_factor_107 (by decide) rfl (fun c8 => ?_) (fun c8 => ?_)
            · rw [if_neg c8] at hf
              refine g_aload_n 0 (q := 117) dX8_factor_116 rfl rfl ?_
              refine g_dup (q := 118) dX8_factor_117 rfl rfl ?_
              refine g_get (q := 121) fl_X8_228 dX8_factor_118 rfl rfl rfl ?_
              refine g_iconst (q := 122) (v := 1) dX8_factor_121 rfl rfl ?_
              refine g_iadd (q := 123) dX8_factor_122 rfl ?_
              refine g_put (q := 126) (h' := encM m_n m_pt m_rc m_sa m_sb m_sc m_is m_os m_vn m_vc m_va m_vb m_ve m_no (m_pl + 1) m_fa m_oc m_fu m_ke m_t m_f m_rs m_rt m_rf m_st m_ib m_ob m_al m_el m_vt m_vf m_vs m_nr m_ty m_pa m_fn m_md m_ms m_mr) fp_X8_228 dX8_factor_123 rfl rfl (Nat.le_of_ble_eq_true rfl) (fun _ => ⟨rfl, rfl⟩) rfl ?_
              refine g_iload_n 2 (q := 127) dX8_factor_126 rfl rfl ?_
              refine g_bipush (q := 129) (v := 33) dX8_factor_127 rfl rfl ?_
              refine g_icmp_ne (t := 149) (q := 132) dX8_factor_129 (by decide) rfl (fun c9 => ?_) (fun c9 => ?_)
              · rw [if_neg c9] at hf
                refine g_aload_n 0 (q := 150) dX8_factor_149 rfl rfl ?_
                refine g_iload_n 1 (q := 151) dX8_factor_150 rfl rfl ?_
                refine g_iconst (q := 152) (v := 1) dX8_factor_151 rfl rfl ?_
                refine g_iadd (q := 153) dX8_factor_152 rfl ?_
                obtain ⟨r10, e11, hf⟩ := Option.bind_eq_some_iff.mp hf
                refine g_callV (a := 0) (k2 := 0) (n2 := 0) (q := 156) (as := [.int (a0 + 1)]) (st := []) (st1 := [.long r10.1]) tm_X8_formula ml_X8_258 ti_X8_formula rfl rfl dX8_factor_153 rfl (ev_X8_formula hdd (Nat.le_refl _) hrc e11) rfl rfl (Nat.le_of_ble_eq_true rfl) (by omega) rfl rfl (Or.inl (encM_len.trans encM_len.symm)) rfl ?_
                refine g_lstore_n (q := 157) (L' := [(0, .ref 0), (1, .int a0), (2, .int r1), (3, .long r10.1)]) dX8_factor_156 rfl (by decide) rfl ?_
                refine g_aload_n 0 (q := 158) dX8_factor_157 rfl rfl ?_
                refine g_get (q := 161) fl_X8_231 dX8_factor_158 rfl rfl rfl ?_
                refine g_iconst (q := 162) (v := (-1)) dX8_factor_161 rfl rfl ?_
                refine g_icmp_ne (t := 174) (q := 165) dX8_factor_162 (by decide) rfl (fun c12 => ?_) (fun c12 => ?_)
                · rw [if_neg c12] at hf
                  refine g_aload_n 0 (q := 175) dX8_factor_174 rfl rfl ?_
                  refine g_callV (a := 0) (k2 := 0) (n2 := 0) (q := 178) (as := []) (st := []) (st1 := []) tm_X8_fail ml_X8_250 ti_X8_fail rfl rfl dX8_factor_175 rfl ev_X8_fail rfl rfl (Nat.le_of_ble_eq_true rfl) (by omega) rfl rfl (Or.inl (encM_len.trans encM_len.symm)) rfl ?_
                  refine g_goto (t := 191) dX8_factor_178 (by decide) ?_
                  refine g_lload_n 3 (q := 192) dX8_factor_191 rfl rfl ?_
                  have hf := Option.some.inj hf
                  subst hf
                  exact g_lreturn dX8_factor_192 rfl ⟨rfl, rfl⟩
                · rw [if_pos c12] at hf
                  refine g_aload_n 0 (q := 166) dX8_factor_165 rfl rfl ?_
                  obtain ⟨r13, e14, hf⟩ := Option.bind_eq_some_iff.mp hf
                  refine g_callV (a := 0) (k2 := 0) (n2 := 0) (q := 169) (as := []) (st := []) (st1 := [.int r13]) tm_X8_here ml_X8_234 ti_X8_here rfl rfl dX8_factor_166 rfl (ev_X8_here e14) rfl rfl (Nat.le_of_ble_eq_true rfl) (by omega) rfl rfl (Or.inl rfl) rfl ?_
                  refine g_bipush (q := 171) (v := 41) dX8_factor_169 rfl rfl ?_
                  refine g_icmp_eq (t := 181) (q := 174) dX8_factor_171 (by decide) rfl (fun c15 => ?_) (fun c15 => ?_)
                  · rw [if_pos c15] at hf
                    refine g_aload_n 0 (q := 182) dX8_factor_181 rfl rfl ?_
                    refine g_dup (q := 183) dX8_factor_182 rfl rfl ?_
                    refine g_get (q := 186) fl_X8_228 dX8_factor_183 rfl rfl rfl ?_
                    refine g_iconst (q := 187) (v := 1) dX8_factor_186 rfl rfl ?_
                    refine g_iadd (q := 188) dX8_factor_187 rfl ?_
                    refine g_put (q := 191) (h' := encM m_n m_pt m_rc m_sa m_sb m_sc m_is m_os m_vn m_vc m_va m_vb m_ve m_no ((r10.2.1) + 1) (r10.2.2.1) (r10.2.2.2) m_fu m_ke m_t m_f m_rs m_rt m_rf m_st m_ib m_ob m_al m_el m_vt m_vf m_vs m_nr m_ty m_pa m_fn m_md m_ms m_mr) fp_X8_228 dX8_factor_188 rfl rfl (Nat.le_of_ble_eq_true rfl) (fun _ => ⟨rfl, rfl⟩) rfl ?_
                    refine g_lload_n 3 (q := 192) dX8_factor_191 rfl rfl ?_
                    have hf := Option.some.inj hf
                    subst hf
                    exact g_lreturn dX8_factor_192 rfl ⟨rfl, rfl⟩
                  · rw [if_neg c15] at hf
                    refine g_aload_n 0 (q := 175) dX8_factor_174 rfl rfl ?_
                    refine g_callV (a := 0) (k2 := 0) (n2 := 0) (q := 178) (as := []) (st := []) (st1 := []) tm_X8_fail ml_X8_250 ti_X8_fail rfl rfl dX8_factor_175 rfl ev_X8_fail rfl rfl (Nat.le_of_ble_eq_true rfl) (by omega) rfl rfl (Or.inl (encM_len.trans encM_len.symm)) rfl ?_
                    refine g_goto (t := 191) dX8_factor_178 (by decide) ?_
                    refine g_lload_n 3 (q := 192) dX8_factor_191 rfl rfl ?_
                    have hf := Option.some.inj hf
                    subst hf
                    exact g_lreturn dX8_factor_192 rfl ⟨rfl, rfl⟩
              · rw [if_pos c9] at hf
                refine g_aload_n 0 (q := 133) dX8_factor_132 rfl rfl ?_
                refine g_callV (a := 0) (k2 := 0) (n2 := 0) (q := 136) (as := []) (st := []) (st1 := [.long (f_X8_all m_pt)]) tm_X8_all ml_X8_246 ti_X8_all rfl rfl dX8_factor_133 rfl ev_X8_all rfl rfl (Nat.le_of_ble_eq_true rfl) (by omega) rfl rfl (Or.inl rfl) rfl ?_
                refine g_aload_n 0 (q := 137) dX8_factor_136 rfl rfl ?_
                refine g_iload_n 1 (q := 138) dX8_factor_137 rfl rfl ?_
                refine g_iconst (q := 139) (v := 1) dX8_factor_138 rfl rfl ?_
                refine g_iadd (q := 140) dX8_factor_139 rfl ?_
                obtain ⟨r16, e17, hf⟩ := Option.bind_eq_some_iff.mp hf
                refine g_callV (a := 0) (k2 := 0) (n2 := 0) (q := 143) (as := [.int (a0 + 1)]) (st := [.long (f_X8_all m_pt)]) (st1 := [.long r16.1, .long (f_X8_all m_pt)]) tm_X8_factor ml_X8_253 ti_X8_factor rfl rfl dX8_factor_140 rfl (hrc e17) rfl rfl (Nat.le_of_ble_eq_true rfl) (by omega) rfl rfl (Or.inl (encM_len.trans encM_len.symm)) rfl ?_
                refine g_ldc2_w (q := 146) kc_X8_256 dX8_factor_143 rfl ?_
                refine g_lxor (q := 147) dX8_factor_146 rfl ?_
                refine g_land (q := 148) dX8_factor_147 rfl ?_
                have hf := Option.some.inj hf
                subst hf
                exact g_lreturn dX8_factor_148 rfl ⟨rfl, rfl⟩
            · rw [if_pos c8] at hf
              refine g_aload_n 0 (q := 111) dX8_factor_110 rfl rfl ?_
              refine g_callV (a := 0) (k2 := 0) (n2 := 0) (q := 114) (as := []) (st := []) (st1 := []) tm_X8_fail ml_X8_250 ti_X8_fail rfl rfl dX8_factor_111 rfl ev_X8_fail rfl rfl (Nat.le_of_ble_eq_true rfl) (by omega) rfl rfl (Or.inl (encM_len.trans encM_len.symm)) rfl ?_
              refine g_lconst (q := 115) (v := 0) dX8_factor_114 rfl rfl ?_
              have hf := Option.some.inj hf
              subst hf
              exact g_lreturn dX8_factor_115 rfl ⟨rfl, rfl⟩
          · rw [if_neg c7] at hf
            refine g_iload_n 2 (q := 99) dX8_factor_98 rfl rfl ?_
            refine g_bipush (q := 101) (v := 40) dX8_factor_99 rfl rfl ?_
            refine g_icmp_ne (t := 110) (q := 104) dX8_factor_101 (by decide) rfl (fun c18 => ?_) (fun c18 => ?_)
            · rw [if_neg c18] at hf
              refine g_aload_n 0 (q := 111) dX8_factor_110 rfl rfl ?_
              refine g_callV (a := 0) (k2 := 0) (n2 := 0) (q := 114) (as := []) (st := []) (st1 := []) tm_X8_fail ml_X8_250 ti_X8_fail rfl rfl dX8_factor_111 rfl ev_X8_fail rfl rfl (Nat.le_of_ble_eq_true rfl) (by omega) rfl rfl (Or.inl (encM_len.trans encM_len.symm)) rfl ?_
              refine g_lconst (q := 115) (v := 0) dX8_factor_114 rfl rfl ?_
              have hf := Option.some.inj hf
              subst hf
              exact g_lreturn dX8_factor_115 rfl ⟨rfl, rfl⟩
            · rw [if_pos c18] at hf
              refine g_iload_n 1 (q := 105) dX8_factor_104 rfl rfl ?_
              refine g_bipush (q := 107) (v := 6) dX8_factor_105 rfl rfl ?_
              refine g_icmp_ne (t := 116) (q := 110) dX8_factor_107 (by decide) rfl (fun c19 => ?_) (fun c19 => ?_)
              · rw [if_neg c19] at hf
                refine g_aload_n 0 (q := 117) dX8_factor_116 rfl rfl ?_
                refine g_dup (q := 118) dX8_factor_117 rfl rfl ?_
                refine g_get (q := 121) fl_X8_228 dX8_factor_118 rfl rfl rfl ?_
                refine g_iconst (q := 122) (v := 1) dX8_factor_121 rfl rfl ?_
                refine g_iadd (q := 123) dX8_factor_122 rfl ?_
                refine g_put (q := 126) (h' := encM m_n m_pt m_rc m_sa m_sb m_sc m_is m_os m_vn m_vc m_va m_vb m_ve m_no (m_pl + 1) m_fa m_oc m_fu m_ke m_t m_f m_rs m_rt m_rf m_st m_ib m_ob m_al m_el m_vt m_vf m_vs m_nr m_ty m_pa m_fn m_md m_ms m_mr) fp_X8_228 dX8_factor_123 rfl rfl (Nat.le_of_ble_eq_true rfl) (fun _ => ⟨rfl, rfl⟩) rfl ?_
                refine g_iload_n 2 (q := 127) dX8_factor_126 rfl rfl ?_
                refine g_bipush (q := 129) (v := 33) dX8_factor_127 rfl rfl ?_
                refine g_icmp_ne (t := 149) (q := 132) dX8_factor_129 (by decide) rfl (fun c20 => ?_) (fun c20 => ?_)
                · rw [if_neg c20] at hf
                  refine g_aload_n 0 (q := 150) dX8_factor_149 rfl rfl ?_
                  refine g_iload_n 1 (q := 151) dX8_factor_150 rfl rfl ?_
                  refine g_iconst (q := 152) (v := 1) dX8_factor_151 rfl rfl ?_
                  refine g_iadd (q := 153) dX8_factor_152 rfl ?_
                  obtain ⟨r21, e22, hf⟩ := Option.bind_eq_some_iff.mp hf
                  refine g_callV (a := 0) (k2 := 0) (n2 := 0) (q := 156) (as := [.int (a0 + 1)]) (st := []) (st1 := [.long r21.1]) tm_X8_formula ml_X8_258 ti_X8_formula rfl rfl dX8_factor_153 rfl (ev_X8_formula hdd (Nat.le_refl _) hrc e22) rfl rfl (Nat.le_of_ble_eq_true rfl) (by omega) rfl rfl (Or.inl (encM_len.trans encM_len.symm)) rfl ?_
                  refine g_lstore_n (q := 157) (L' := [(0, .ref 0), (1, .int a0), (2, .int r1), (3, .long r21.1)]) dX8_factor_156 rfl (by decide) rfl ?_
                  refine g_aload_n 0 (q := 158) dX8_factor_157 rfl rfl ?_
                  refine g_get (q := 161) fl_X8_231 dX8_factor_158 rfl rfl rfl ?_
                  refine g_iconst (q := 162) (v := (-1)) dX8_factor_161 rfl rfl ?_
                  refine g_icmp_ne (t := 174) (q := 165) dX8_factor_162 (by decide) rfl (fun c23 => ?_) (fun c23 => ?_)
                  · rw [if_neg c23] at hf
                    refine g_aload_n 0 (q := 175) dX8_factor_174 rfl rfl ?_
                    refine g_callV (a := 0) (k2 := 0) (n2 := 0) (q := 178) (as := []) (st := []) (st1 := []) tm_X8_fail ml_X8_250 ti_X8_fail rfl rfl dX8_factor_175 rfl ev_X8_fail rfl rfl (Nat.le_of_ble_eq_true rfl) (by omega) rfl rfl (Or.inl (encM_len.trans encM_len.symm)) rfl ?_
                    refine g_goto (t := 191) dX8_factor_178 (by decide) ?_
                    refine g_lload_n 3 (q := 192) dX8_factor_191 rfl rfl ?_
                    have hf := Option.some.inj hf
                    subst hf
                    exact g_lreturn dX8_factor_192 rfl ⟨rfl, rfl⟩
                  · rw [if_pos c23] at hf
                    refine g_aload_n 0 (q := 166) dX8_factor_165 rfl rfl ?_
                    obtain ⟨r24, e25, hf⟩ := Option.bind_eq_some_iff.mp hf
                    refine g_callV (a := 0) (k2 := 0) (n2 := 0) (q := 169) (as := []) (st := []) (st1 := [.int r24]) tm_X8_here ml_X8_234 ti_X8_here rfl rfl dX8_factor_166 rfl (ev_X8_here e25) rfl rfl (Nat.le_of_ble_eq_true rfl) (by omega) rfl rfl (Or.inl rfl) rfl ?_
                    refine g_bipush (q := 171) (v := 41) dX8_factor_169 rfl rfl ?_
                    refine g_icmp_eq (t := 181) (q := 174) dX8_factor_171 (by decide) rfl (fun c26 => ?_) (fun c26 => ?_)
                    · rw [if_pos c26] at hf
                      refine g_aload_n 0 (q := 182) dX8_factor_181 rfl rfl ?_
                      refine g_dup (q := 183) dX8_factor_182 rfl rfl ?_
                      refine g_get (q := 186) fl_X8_228 dX8_factor_183 rfl rfl rfl ?_
                      refine g_iconst (q := 187) (v := 1) dX8_factor_186 rfl rfl ?_
                      refine g_iadd (q := 188) dX8_factor_187 rfl ?_
                      refine g_put (q := 191) (h' := encM m_n m_pt m_rc m_sa m_sb m_sc m_is m_os m_vn m_vc m_va m_vb m_ve m_no ((r21.2.1) + 1) (r21.2.2.1) (r21.2.2.2) m_fu m_ke m_t m_f m_rs m_rt m_rf m_st m_ib m_ob m_al m_el m_vt m_vf m_vs m_nr m_ty m_pa m_fn m_md m_ms m_mr) fp_X8_228 dX8_factor_188 rfl rfl (Nat.le_of_ble_eq_true rfl) (fun _ => ⟨rfl, rfl⟩) rfl ?_
                      refine g_lload_n 3 (q := 192) dX8_factor_191 rfl rfl ?_
                      have hf := Option.some.inj hf
                      subst hf
                      exact g_lreturn dX8_factor_192 rfl ⟨rfl, rfl⟩
                    · rw [if_neg c26] at hf
                      refine g_aload_n 0 (q := 175) dX8_factor_174 rfl rfl ?_
                      refine g_callV (a := 0) (k2 := 0) (n2 := 0) (q := 178) (as := []) (st := []) (st1 := []) tm_X8_fail ml_X8_250 ti_X8_fail rfl rfl dX8_factor_175 rfl ev_X8_fail rfl rfl (Nat.le_of_ble_eq_true rfl) (by omega) rfl rfl (Or.inl (encM_len.trans encM_len.symm)) rfl ?_
                      refine g_goto (t := 191) dX8_factor_178 (by decide) ?_
                      refine g_lload_n 3 (q := 192) dX8_factor_191 rfl rfl ?_
                      have hf := Option.some.inj hf
                      subst hf
                      exact g_lreturn dX8_factor_192 rfl ⟨rfl, rfl⟩
                · rw [if_pos c20] at hf
                  refine g_aload_n 0 (q := 133) dX8_factor_132 rfl rfl ?_
                  refine g_callV (a := 0) (k2 := 0) (n2 := 0) (q := 136) (as := []) (st := []) (st1 := [.long (f_X8_all m_pt)]) tm_X8_all ml_X8_246 ti_X8_all rfl rfl dX8_factor_133 rfl ev_X8_all rfl rfl (Nat.le_of_ble_eq_true rfl) (by omega) rfl rfl (Or.inl rfl) rfl ?_
                  refine g_aload_n 0 (q := 137) dX8_factor_136 rfl rfl ?_
                  refine g_iload_n 1 (q := 138) dX8_factor_137 rfl rfl ?_
                  refine g_iconst (q := 139) (v := 1) dX8_factor_138 rfl rfl ?_
                  refine g_iadd (q := 140) dX8_factor_139 rfl ?_
                  obtain ⟨r27, e28, hf⟩ := Option.bind_eq_some_iff.mp hf
                  refine g_callV (a := 0) (k2 := 0) (n2 := 0) (q := 143) (as := [.int (a0 + 1)]) (st := [.long (f_X8_all m_pt)]) (st1 := [.long r27.1, .long (f_X8_all m_pt)]) tm_X8_factor ml_X8_253 ti_X8_factor rfl rfl dX8_factor_140 rfl (hrc e28) rfl rfl (Nat.le_of_ble_eq_true rfl) (by omega) rfl rfl (Or.inl (encM_len.trans encM_len.symm)) rfl ?_
                  refine g_ldc2_w (q := 146) kc_X8_256 dX8_factor_143 rfl ?_
                  refine g_lxor (q := 147) dX8_factor_146 rfl ?_
                  refine g_land (q := 148) dX8_factor_147 rfl ?_
                  have hf := Option.some.inj hf
                  subst hf
                  exact g_lreturn dX8_factor_148 rfl ⟨rfl, rfl⟩
              · rw [if_pos c19] at hf
                refine g_aload_n 0 (q := 111) dX8_factor_110 rfl rfl ?_
                refine g_callV (a := 0) (k2 := 0) (n2 := 0) (q := 114) (as := []) (st := []) (st1 := []) tm_X8_fail ml_X8_250 ti_X8_fail rfl rfl dX8_factor_111 rfl ev_X8_fail rfl rfl (Nat.le_of_ble_eq_true rfl) (by omega) rfl rfl (Or.inl (encM_len.trans encM_len.symm)) rfl ?_
                refine g_lconst (q := 115) (v := 0) dX8_factor_114 rfl rfl ?_
                have hf := Option.some.inj hf
                subst hf
                exact g_lreturn dX8_factor_115 rfl ⟨rfl, rfl⟩
        · rw [if_pos c6] at hf
          refine g_aload_n 0 (q := 68) dX8_factor_67 rfl rfl ?_
          refine g_dup (q := 69) dX8_factor_68 rfl rfl ?_
          refine g_get (q := 72) fl_X8_228 dX8_factor_69 rfl rfl rfl ?_
          refine g_iconst (q := 73) (v := 1) dX8_factor_72 rfl rfl ?_
          refine g_iadd (q := 74) dX8_factor_73 rfl ?_
          refine g_put (q := 77) (h' := encM m_n m_pt m_rc m_sa m_sb m_sc m_is m_os m_vn m_vc m_va m_vb m_ve m_no (m_pl + 1) m_fa m_oc m_fu m_ke m_t m_f m_rs m_rt m_rf m_st m_ib m_ob m_al m_el m_vt m_vf m_vs m_nr m_ty m_pa m_fn m_md m_ms m_mr) fp_X8_228 dX8_factor_74 rfl rfl (Nat.le_of_ble_eq_true rfl) (fun _ => ⟨rfl, rfl⟩) rfl ?_
          refine g_iload_n 2 (q := 78) dX8_factor_77 rfl rfl ?_
          refine g_bipush (q := 80) (v := 49) dX8_factor_78 rfl rfl ?_
          refine g_icmp_ne (t := 90) (q := 83) dX8_factor_80 (by decide) rfl (fun c29 => ?_) (fun c29 => ?_)
          · rw [if_neg c29] at hf
            refine g_lconst (q := 91) (v := 0) dX8_factor_90 rfl rfl ?_
            have hf := Option.some.inj hf
            subst hf
            exact g_lreturn dX8_factor_91 rfl ⟨rfl, rfl⟩
          · rw [if_pos c29] at hf
            refine g_aload_n 0 (q := 84) dX8_factor_83 rfl rfl ?_
            refine g_callV (a := 0) (k2 := 0) (n2 := 0) (q := 87) (as := []) (st := []) (st1 := [.long (f_X8_all m_pt)]) tm_X8_all ml_X8_246 ti_X8_all rfl rfl dX8_factor_84 rfl ev_X8_all rfl rfl (Nat.le_of_ble_eq_true rfl) (by omega) rfl rfl (Or.inl rfl) rfl ?_
            refine g_goto (t := 91) dX8_factor_87 (by decide) ?_
            have hf := Option.some.inj hf
            subst hf
            exact g_lreturn dX8_factor_91 rfl ⟨rfl, rfl⟩
    · rw [if_neg c3] at hf
      refine g_aload_n 0 (q := 27) dX8_factor_26 rfl rfl ?_
      refine g_dup (q := 28) dX8_factor_27 rfl rfl ?_
      refine g_get (q := 31) fl_X8_228 dX8_factor_28 rfl rfl rfl ?_
      refine g_iconst (q := 32) (v := 1) dX8_factor_31 rfl rfl ?_
      refine g_iadd (q := 33) dX8_factor_32 rfl ?_
      refine g_put (q := 36) (h' := encM m_n m_pt m_rc m_sa m_sb m_sc m_is m_os m_vn m_vc m_va m_vb m_ve m_no (m_pl + 1) m_fa m_oc m_fu m_ke m_t m_f m_rs m_rt m_rf m_st m_ib m_ob m_al m_el m_vt m_vf m_vs m_nr m_ty m_pa m_fn m_md m_ms m_mr) fp_X8_228 dX8_factor_33 rfl rfl (Nat.le_of_ble_eq_true rfl) (fun _ => ⟨rfl, rfl⟩) rfl ?_
      refine g_aload_n 0 (q := 37) dX8_factor_36 rfl rfl ?_
      refine g_dup (q := 38) dX8_factor_37 rfl rfl ?_
      refine g_get (q := 41) fl_X8_239 dX8_factor_38 rfl rfl rfl ?_
      refine g_iconst (q := 42) (v := 1) dX8_factor_41 rfl rfl ?_
      refine g_iadd (q := 43) dX8_factor_42 rfl ?_
      refine g_put (q := 46) (h' := encM m_n m_pt m_rc m_sa m_sb m_sc m_is m_os m_vn m_vc m_va m_vb m_ve m_no (m_pl + 1) m_fa (m_oc + 1) m_fu m_ke m_t m_f m_rs m_rt m_rf m_st m_ib m_ob m_al m_el m_vt m_vf m_vs m_nr m_ty m_pa m_fn m_md m_ms m_mr) fp_X8_239 dX8_factor_43 rfl rfl (Nat.le_of_ble_eq_true rfl) (fun _ => ⟨rfl, rfl⟩) rfl ?_
      refine g_aload_n 0 (q := 47) dX8_factor_46 rfl rfl ?_
      refine g_iload_n 2 (q := 48) dX8_factor_47 rfl rfl ?_
      refine g_bipush (q := 50) (v := 97) dX8_factor_48 rfl rfl ?_
      refine g_isub (q := 51) dX8_factor_50 rfl ?_
      obtain ⟨r30, e31, hf⟩ := Option.bind_eq_some_iff.mp hf
      refine g_callV (a := 0) (k2 := 0) (n2 := 0) (q := 54) (as := [.int (r1 - 97)]) (st := []) (st1 := [.long r30]) tm_X8_variable ml_X8_242 ti_X8_variable rfl rfl dX8_factor_51 rfl (ev_X8_variable e31) rfl rfl (Nat.le_of_ble_eq_true rfl) (by omega) rfl rfl (Or.inl rfl) rfl ?_
      have hf := Option.some.inj hf
      subst hf
      exact g_lreturn dX8_factor_54 rfl ⟨rfl, rfl⟩
