/-! written by wip/whole/main.py out of the bytecode: a pure function for each method, and its contract -/
def f_X7_dual_L61 (w3 : Int64) (w5 : Int32) (K : Int64 → Option (Int32 × List Int64 × Int32 × List Int32 × List Int64)) : Nat → Int64 → Int32 → Option (Int32 × List Int64 × Int32 × List Int32 × List Int64)
  | 0, _, _ => none
  | fu + 1, v6, v8 => (if w5 < v8 then K v6 else f_X7_dual_L61 w3 w5 K fu (v6 ||| (tlshl (1 - (Int32.toInt64 (f_X7_bitAt w3 (w5 - v8)))) v8)) (v8 + 1))
def f_X7_dual (a0 : Int32) (a1 : Int32) (s_n : Int32) (s_f : List Int64) (h_k : Int32) (h_s : List Int32) (h_c : List Int64) : Option (Int32 × List Int64 × Int32 × List Int32 × List Int64) := (if (f_X7_isSlot a0) = 0 then some ((-2), s_f, h_k, h_s, h_c) else (if (f_X7_isSlot a1) = 0 then some ((-2), s_f, h_k, h_s, h_c) else (f_X6_holds a0 s_f).bind fun r3 => (if r3 = 0 then some ((-3), s_f, h_k, h_s, h_c) else (tld s_f a0).bind fun r6 => f_X7_dual_L61 r6 ((f_X7_pointCount s_n) - 1) (fun y9 => (f_X7_store a1 y9 s_f h_k h_s h_c).bind fun r10 => some (r10.1, r10.2.1, r10.2.2.1, r10.2.2.2.1, r10.2.2.2.2)) tFU 0 0)))
set_option maxRecDepth 20000 in
set_option maxHeartbeats 4000000 in
theorem ev_X7_dual_L61 {l : Launch} {E : tEn} {cr : Value} {tl : tHp}  {x_hs : Int32} {s_n : Int32} {s_sp : Int64} {s_sb : Int64} {s_sc : Int32} {s_f : List Int64} {s_st : List Int32} {v_n : Int32} {v_sp : Int64} {v_sb : Int64} {v_sc : Int32} {v_f : List Int64} {v_st : List Int32} {h_k : Int32} {h_s : List Int32} {h_c : List Int64} {g_k : Int32} {g_v : Int32} {g_p : List Int32} {g_a : List Int32} {g_t : List Int32} {c_k : Int32} {c_t : List Int32} {c_p : List Int32} {i_l : Int32} {i_n : Int32} {i_f : Int64} {i_p : Int32} {i_o : Int32} {i_b : List Int32} {w_l : Int32} {w_s : List Int32} {x_e : List Int32} {x_l : List Int32} {w2 : Int32} {w3 : Int64} {w5 : Int32} {K : Int64 → Option (Int32 × List Int64 × Int32 × List Int32 × List Int64)} (hK : ∀ (v6 : Int64)  (res : Int32 × List Int64 × Int32 × List Int32 × List Int64), K v6 = some res → tG l E RX7 cX7_dual 9 (some .int) false 4 (fun r h' => r = some (.int res.1) ∧ h' = encX x_hs s_n s_sp s_sb s_sc (res.2.1) s_st v_n v_sp v_sb v_sc v_f v_st (res.2.2.1) (res.2.2.2.1) (res.2.2.2.2) g_k g_v g_p g_a g_t c_k c_t c_p i_l i_n i_f i_p i_o i_b w_l w_s x_e x_l cr tl) 0 0 94 [(0, .ref 0), (2, .int w2), (6, .long v6)] [] (encX x_hs s_n s_sp s_sb s_sc s_f s_st v_n v_sp v_sb v_sc v_f v_st h_k h_s h_c g_k g_v g_p g_a g_t c_k c_t c_p i_l i_n i_f i_p i_o i_b w_l w_s x_e x_l cr tl)) :
    ∀ (fu : Nat) (v6 : Int64) (v8 : Int32) (res : Int32 × List Int64 × Int32 × List Int32 × List Int64), f_X7_dual_L61 w3 w5 K fu v6 v8 = some res → tG l E RX7 cX7_dual 9 (some .int) false 4 (fun r h' => r = some (.int res.1) ∧ h' = encX x_hs s_n s_sp s_sb s_sc (res.2.1) s_st v_n v_sp v_sb v_sc v_f v_st (res.2.2.1) (res.2.2.2.1) (res.2.2.2.2) g_k g_v g_p g_a g_t c_k c_t c_p i_l i_n i_f i_p i_o i_b w_l w_s x_e x_l cr tl) 0 0 61 [(0, .ref 0), (2, .int w2), (3, .long w3), (5, .int w5), (6, .long v6), (8, .int v8)] [] (encX x_hs s_n s_sp s_sb s_sc s_f s_st v_n v_sp v_sb v_sc v_f v_st h_k h_s h_c g_k g_v g_p g_a g_t c_k c_t c_p i_l i_n i_f i_p i_o i_b w_l w_s x_e x_l cr tl) := by
  intro fu
  induction fu with
  | zero => intro v6 v8 res hf; exact nomatch (show none = some res from hf)
  | succ fu ih =>
    intro v6 v8 res hf
    rw [f_X7_dual_L61] at hf
    refine g_iload 5 (q := 63) dX7_dual_61 rfl rfl ?_
    refine g_iload 3 (q := 65) dX7_dual_63 rfl rfl ?_
    refine g_icmp_gt (t := 94) (q := 68) dX7_dual_65 (by decide) rfl (fun c8 => ?_) (fun c8 => ?_)
    · rw [if_pos c8] at hf
      refine g_ls [0, 1, 4] rfl ?_
      exact hK _ _ hf
    · rw [if_neg c8] at hf
      refine g_lload 4 (q := 70) dX7_dual_68 rfl rfl ?_
      refine g_lconst (q := 71) (v := 1) dX7_dual_70 rfl rfl ?_
      refine g_lload_n 2 (q := 72) dX7_dual_71 rfl rfl ?_
      refine g_iload 3 (q := 74) dX7_dual_72 rfl rfl ?_
      refine g_iload 5 (q := 76) dX7_dual_74 rfl rfl ?_
      refine g_isub (q := 77) dX7_dual_76 rfl ?_
      refine g_callS (k2 := 0) (n2 := 0) (q := 80) (as := [.long w3, .int (w5 - v8)]) (st := [.long 1, .long v6]) (st1 := [.int (f_X7_bitAt w3 (w5 - v8)), .long 1, .long v6]) tm_X7_bitAt ml_X7_115 ts_X7_bitAt dX7_dual_77 rfl ev_X7_bitAt rfl rfl (Nat.le_of_ble_eq_true rfl) (by decide) rfl rfl (Or.inl rfl) rfl ?_
      refine g_i2l (q := 81) dX7_dual_80 rfl ?_
      refine g_lsub (q := 82) dX7_dual_81 rfl ?_
      refine g_iload 5 (q := 84) dX7_dual_82 rfl rfl ?_
      refine g_lshl (q := 85) dX7_dual_84 rfl ?_
      refine g_lor (q := 86) dX7_dual_85 rfl ?_
      refine g_lstore (q := 88) (L' := [(0, .ref 0), (2, .int w2), (3, .long w3), (5, .int w5), (6, .long (v6 ||| (tlshl (1 - (Int32.toInt64 (f_X7_bitAt w3 (w5 - v8)))) v8))), (8, .int v8)]) dX7_dual_86 rfl (by decide) rfl ?_
      refine g_iinc 5 (q := 91) (v := (v8 + 1)) (L' := [(0, .ref 0), (2, .int w2), (3, .long w3), (5, .int w5), (6, .long (v6 ||| (tlshl (1 - (Int32.toInt64 (f_X7_bitAt w3 (w5 - v8)))) v8))), (8, .int (v8 + 1))]) dX7_dual_88 rfl rfl rfl (by decide) rfl ?_
      refine g_goto (t := 61) dX7_dual_91 (by decide) ?_
      refine g_ls [0, 1, 2, 3, 4, 5] rfl ?_
      exact ih _ _ _ hf
set_option maxRecDepth 20000 in
set_option maxHeartbeats 4000000 in
theorem ev_X7_dual {l : Launch} {E : tEn} {cr : Value} {tl : tHp} {x_hs : Int32} {s_n : Int32} {s_sp : Int64} {s_sb : Int64} {s_sc : Int32} {s_f : List Int64} {s_st : List Int32} {v_n : Int32} {v_sp : Int64} {v_sb : Int64} {v_sc : Int32} {v_f : List Int64} {v_st : List Int32} {h_k : Int32} {h_s : List Int32} {h_c : List Int64} {g_k : Int32} {g_v : Int32} {g_p : List Int32} {g_a : List Int32} {g_t : List Int32} {c_k : Int32} {c_t : List Int32} {c_p : List Int32} {i_l : Int32} {i_n : Int32} {i_f : Int64} {i_p : Int32} {i_o : Int32} {i_b : List Int32} {w_l : Int32} {w_s : List Int32} {x_e : List Int32} {x_l : List Int32} {a0 : Int32} {a1 : Int32} {res : Int32 × List Int64 × Int32 × List Int32 × List Int64} (hf : f_X7_dual a0 a1 s_n s_f h_k h_s h_c = some res) : tEv l E yX7_dual cX7_dual 9 (some .int) 4 0 0 [.ref 0, .int a0, .int a1] (encX x_hs s_n s_sp s_sb s_sc s_f s_st v_n v_sp v_sb v_sc v_f v_st h_k h_s h_c g_k g_v g_p g_a g_t c_k c_t c_p i_l i_n i_f i_p i_o i_b w_l w_s x_e x_l cr tl) (fun r h' => r = some (.int res.1) ∧ h' = encX x_hs s_n s_sp s_sb s_sc (res.2.1) s_st v_n v_sp v_sb v_sc v_f v_st (res.2.2.1) (res.2.2.2.1) (res.2.2.2.2) g_k g_v g_p g_a g_t c_k c_t c_p i_l i_n i_f i_p i_o i_b w_l w_s x_e x_l cr tl) := by
  refine tEv.of (own := RX7) (ini := false) (L := [(0, .ref 0), (1, .int a0), (2, .int a1)]) (by decide +kernel) rfl (fun h9 => nomatch h9) rfl (Nat.le_of_ble_eq_true rfl) ?_
  rw [f_X7_dual] at hf
  refine g_iload_n 1 (q := 1) dX7_dual_0 rfl rfl ?_
  refine g_callS (k2 := 0) (n2 := 0) (q := 4) (as := [.int a0]) (st := []) (st1 := [.int (f_X7_isSlot a0)]) tm_X7_isSlot ml_X7_86 ts_X7_isSlot dX7_dual_1 rfl ev_X7_isSlot rfl rfl (Nat.le_of_ble_eq_true rfl) (by decide) rfl rfl (Or.inl rfl) rfl ?_
  refine g_if_eq (t := 14) (q := 7) dX7_dual_4 (by decide) rfl (fun c1 => ?_) (fun c1 => ?_)
  · rw [if_pos c1] at hf
    refine g_bipush (q := 16) (v := (-2)) dX7_dual_14 rfl rfl ?_
    have hf := Option.some.inj hf
    subst hf
    exact g_ireturn dX7_dual_16 rfl ⟨rfl, rfl⟩
  · rw [if_neg c1] at hf
    refine g_iload_n 2 (q := 8) dX7_dual_7 rfl rfl ?_
    refine g_callS (k2 := 0) (n2 := 0) (q := 11) (as := [.int a1]) (st := []) (st1 := [.int (f_X7_isSlot a1)]) tm_X7_isSlot ml_X7_86 ts_X7_isSlot dX7_dual_8 rfl ev_X7_isSlot rfl rfl (Nat.le_of_ble_eq_true rfl) (by decide) rfl rfl (Or.inl rfl) rfl ?_
    refine g_if_ne (t := 17) (q := 14) dX7_dual_11 (by decide) rfl (fun c2 => ?_) (fun c2 => ?_)
    · rw [if_neg c2] at hf
      refine g_aload_n 0 (q := 18) dX7_dual_17 rfl rfl ?_
      refine g_get (q := 21) fl_X7_10 dX7_dual_18 rfl rfl rfl ?_
      refine g_iload_n 1 (q := 22) dX7_dual_21 rfl rfl ?_
      obtain ⟨r3, e4, hf⟩ := Option.bind_eq_some_iff.mp hf
      refine g_callV (a := 1) (k2 := 0) (n2 := 0) (q := 25) (as := [.int a0]) (st := []) (st1 := [.int r3]) tm_X6_holds ml_X7_202 ti_X6_holds rfl rfl dX7_dual_22 rfl (ev_X6_holds e4) rfl rfl (Nat.le_of_ble_eq_true rfl) (by decide) rfl rfl (Or.inl rfl) rfl ?_
      refine g_if_ne (t := 31) (q := 28) dX7_dual_25 (by decide) rfl (fun c5 => ?_) (fun c5 => ?_)
      · rw [if_neg c5] at hf
        refine g_aload_n 0 (q := 32) dX7_dual_31 rfl rfl ?_
        refine g_get (q := 35) fl_X7_10 dX7_dual_32 rfl rfl rfl ?_
        refine g_get (q := 38) fl_X7_102 dX7_dual_35 rfl rfl rfl ?_
        refine g_iload_n 1 (q := 39) dX7_dual_38 rfl rfl ?_
        obtain ⟨r6, e7, hf⟩ := Option.bind_eq_some_iff.mp hf
        refine g_laload (q := 40) dX7_dual_39 rfl rfl e7 ?_
        refine g_lstore_n (q := 41) (L' := [(0, .ref 0), (1, .int a0), (2, .int a1), (3, .long r6)]) dX7_dual_40 rfl (by decide) rfl ?_
        refine g_aload_n 0 (q := 42) dX7_dual_41 rfl rfl ?_
        refine g_get (q := 45) fl_X7_10 dX7_dual_42 rfl rfl rfl ?_
        refine g_get (q := 48) fl_X7_75 dX7_dual_45 rfl rfl rfl ?_
        refine g_callS (k2 := 0) (n2 := 0) (q := 51) (as := [.int s_n]) (st := []) (st1 := [.int (f_X7_pointCount s_n)]) tm_X7_pointCount ml_X7_209 ts_X7_pointCount dX7_dual_48 rfl ev_X7_pointCount rfl rfl (Nat.le_of_ble_eq_true rfl) (by decide) rfl rfl (Or.inl rfl) rfl ?_
        refine g_iconst (q := 52) (v := 1) dX7_dual_51 rfl rfl ?_
        refine g_isub (q := 53) dX7_dual_52 rfl ?_
        refine g_istore (q := 55) (L' := [(0, .ref 0), (1, .int a0), (2, .int a1), (3, .long r6), (5, .int ((f_X7_pointCount s_n) - 1))]) dX7_dual_53 rfl (by decide) rfl ?_
        refine g_lconst (q := 56) (v := 0) dX7_dual_55 rfl rfl ?_
        refine g_lstore (q := 58) (L' := [(0, .ref 0), (1, .int a0), (2, .int a1), (3, .long r6), (5, .int ((f_X7_pointCount s_n) - 1)), (6, .long 0)]) dX7_dual_56 rfl (by decide) rfl ?_
        refine g_iconst (q := 59) (v := 0) dX7_dual_58 rfl rfl ?_
        refine g_istore (q := 61) (L' := [(0, .ref 0), (1, .int a0), (2, .int a1), (3, .long r6), (5, .int ((f_X7_pointCount s_n) - 1)), (6, .long 0), (8, .int 0)]) dX7_dual_59 rfl (by decide) rfl ?_
        refine g_ls [0, 2, 3, 4, 5, 6] rfl ?_
        refine ev_X7_dual_L61 (fun y9 res hf => ?_) tFU _ _ res hf
        refine g_aload_n 0 (q := 95) dX7_dual_94 rfl rfl ?_
        refine g_iload_n 1 (q := 96) dX7_dual_95 rfl rfl ?_
        refine g_lload 2 (q := 98) dX7_dual_96 rfl rfl ?_
        obtain ⟨r10, e11, hf⟩ := Option.bind_eq_some_iff.mp hf
        refine g_callV (a := 0) (k2 := 0) (n2 := 0) (q := 101) (as := [.int a1, .long y9]) (st := []) (st1 := [.int r10.1]) tm_X7_store ml_X7_94 ti_X7_store rfl rfl dX7_dual_98 rfl (ev_X7_store e11) rfl rfl (Nat.le_of_ble_eq_true rfl) (by decide) rfl rfl (Or.inl (encX_len.trans encX_len.symm)) rfl ?_
        have hf := Option.some.inj hf
        subst hf
        exact g_ireturn dX7_dual_101 rfl ⟨rfl, rfl⟩
      · rw [if_pos c5] at hf
        refine g_bipush (q := 30) (v := (-3)) dX7_dual_28 rfl rfl ?_
        have hf := Option.some.inj hf
        subst hf
        exact g_ireturn dX7_dual_30 rfl ⟨rfl, rfl⟩
    · rw [if_pos c2] at hf
      refine g_bipush (q := 16) (v := (-2)) dX7_dual_14 rfl rfl ?_
      have hf := Option.some.inj hf
      subst hf
      exact g_ireturn dX7_dual_16 rfl ⟨rfl, rfl⟩
def f_X7_isBit (a0 : Int32)  : Int32 := (if a0 = 0 then 1 else (if a0 = 1 then 1 else 0))
theorem bl_X7_isBit (a0 : Int32)  : f_X7_isBit a0 = 0 ∨ f_X7_isBit a0 = 1 := by
  unfold f_X7_isBit
  repeat' split
  all_goals first | exact Or.inl rfl | exact Or.inr rfl
set_option maxRecDepth 20000 in
set_option maxHeartbeats 4000000 in
theorem ev_X7_isBit {l : Launch} {E : tEn}  {h : tHp} {a0 : Int32} : tEv l E yX7_isBit cX7_isBit 1 (some .boolean) 1 0 0 [.int a0] (h) (fun r h' => r = some (.int (f_X7_isBit a0)) ∧ h' = h) := by
  refine tEv.of (own := RX7) (ini := false) (L := [(0, .int a0)]) (by decide +kernel) rfl (fun h9 => nomatch h9) rfl (Nat.le_of_ble_eq_true rfl) ?_
  obtain ⟨res, hf⟩ : ∃ z, f_X7_isBit a0 = z := ⟨_, rfl⟩
  rw [hf]
  rw [f_X7_isBit] at hf
  refine g_iload_n 0 (q := 1) dX7_isBit_0 rfl rfl ?_
  refine g_if_eq (t := 9) (q := 4) dX7_isBit_1 (by decide) rfl (fun c1 => ?_) (fun c1 => ?_)
  · rw [if_pos c1] at hf
    refine g_iconst (q := 10) (v := 1) dX7_isBit_9 rfl rfl ?_
    refine g_goto (t := 14) dX7_isBit_10 (by decide) ?_
    subst hf
    exact g_zreturn (Or.inr rfl) dX7_isBit_14 rfl ⟨rfl, rfl⟩
  · rw [if_neg c1] at hf
    refine g_iload_n 0 (q := 5) dX7_isBit_4 rfl rfl ?_
    refine g_iconst (q := 6) (v := 1) dX7_isBit_5 rfl rfl ?_
    refine g_icmp_ne (t := 13) (q := 9) dX7_isBit_6 (by decide) rfl (fun c2 => ?_) (fun c2 => ?_)
    · rw [if_neg c2] at hf
      refine g_iconst (q := 14) (v := 0) dX7_isBit_13 rfl rfl ?_
      subst hf
      exact g_zreturn (Or.inl rfl) dX7_isBit_14 rfl ⟨rfl, rfl⟩
    · rw [if_pos c2] at hf
      refine g_iconst (q := 10) (v := 1) dX7_isBit_9 rfl rfl ?_
      refine g_goto (t := 14) dX7_isBit_10 (by decide) ?_
      subst hf
      exact g_zreturn (Or.inr rfl) dX7_isBit_14 rfl ⟨rfl, rfl⟩
def f_X7_withBit (a0 : Int32) (a1 : Int32) (a2 : Int32)  : Int32 := ((a0 &&& (((1 : Int32) <<< (a1 &&& 31)) ^^^ (-1))) ||| (a2 <<< (a1 &&& 31)))
set_option maxRecDepth 20000 in
set_option maxHeartbeats 4000000 in
theorem ev_X7_withBit {l : Launch} {E : tEn}  {h : tHp} {a0 : Int32} {a1 : Int32} {a2 : Int32} : tEv l E yX7_withBit cX7_withBit 3 (some .int) 1 0 0 [.int a0, .int a1, .int a2] (h) (fun r h' => r = some (.int (f_X7_withBit a0 a1 a2)) ∧ h' = h) := by
  refine tEv.of (own := RX7) (ini := false) (L := [(0, .int a0), (1, .int a1), (2, .int a2)]) (by decide +kernel) rfl (fun h9 => nomatch h9) rfl (Nat.le_of_ble_eq_true rfl) ?_
  obtain ⟨res, hf⟩ : ∃ z, f_X7_withBit a0 a1 a2 = z := ⟨_, rfl⟩
  rw [hf]
  rw [f_X7_withBit] at hf
  refine g_iload_n 0 (q := 1) dX7_withBit_0 rfl rfl ?_
  refine g_iconst (q := 2) (v := 1) dX7_withBit_1 rfl rfl ?_
  refine g_iload_n 1 (q := 3) dX7_withBit_2 rfl rfl ?_
  refine g_ishl (q := 4) dX7_withBit_3 rfl ?_
  refine g_iconst (q := 5) (v := (-1)) dX7_withBit_4 rfl rfl ?_
  refine g_ixor (q := 6) dX7_withBit_5 rfl ?_
  refine g_iand (q := 7) dX7_withBit_6 rfl ?_
  refine g_iload_n 2 (q := 8) dX7_withBit_7 rfl rfl ?_
  refine g_iload_n 1 (q := 9) dX7_withBit_8 rfl rfl ?_
  refine g_ishl (q := 10) dX7_withBit_9 rfl ?_
  refine g_ior (q := 11) dX7_withBit_10 rfl ?_
  subst hf
  exact g_ireturn dX7_withBit_11 rfl ⟨rfl, rfl⟩
def f_X7_substituted_L6 (w1 : Int64) (w3 : Int32) (w4 : Int64) (s_n : Int32) (K : Int64 → Option (Int64)) : Nat → Int64 → Int32 → Option (Int64)
  | 0, _, _ => none
  | fu + 1, v6, v8 => (if (f_X7_pointCount s_n) ≤ v8 then K v6 else f_X7_substituted_L6 w1 w3 w4 s_n K fu (v6 ||| (tlshl (Int32.toInt64 (f_X7_bitAt w1 (f_X7_withBit v8 w3 (f_X7_bitAt w4 v8)))) v8)) (v8 + 1))
def f_X7_substituted (a0 : Int64) (a1 : Int32) (a2 : Int64) (s_n : Int32) : Option (Int64) := f_X7_substituted_L6 a0 a1 a2 s_n (fun y2 => some y2) tFU 0 0
set_option maxRecDepth 20000 in
set_option maxHeartbeats 4000000 in
theorem ev_X7_substituted_L6 {l : Launch} {E : tEn} {cr : Value} {tl : tHp}  {x_hs : Int32} {s_n : Int32} {s_sp : Int64} {s_sb : Int64} {s_sc : Int32} {s_f : List Int64} {s_st : List Int32} {v_n : Int32} {v_sp : Int64} {v_sb : Int64} {v_sc : Int32} {v_f : List Int64} {v_st : List Int32} {h_k : Int32} {h_s : List Int32} {h_c : List Int64} {g_k : Int32} {g_v : Int32} {g_p : List Int32} {g_a : List Int32} {g_t : List Int32} {c_k : Int32} {c_t : List Int32} {c_p : List Int32} {i_l : Int32} {i_n : Int32} {i_f : Int64} {i_p : Int32} {i_o : Int32} {i_b : List Int32} {w_l : Int32} {w_s : List Int32} {x_e : List Int32} {x_l : List Int32} {w1 : Int64} {w3 : Int32} {w4 : Int64} {K : Int64 → Option (Int64)} (hK : ∀ (v6 : Int64)  (res : Int64), K v6 = some res → tG l E RX7 cX7_substituted 10 (some .long) false 2 (fun r h' => r = some (.long res) ∧ h' = encX x_hs s_n s_sp s_sb s_sc s_f s_st v_n v_sp v_sb v_sc v_f v_st h_k h_s h_c g_k g_v g_p g_a g_t c_k c_t c_p i_l i_n i_f i_p i_o i_b w_l w_s x_e x_l cr tl) 0 0 57 [(6, .long v6)] [] (encX x_hs s_n s_sp s_sb s_sc s_f s_st v_n v_sp v_sb v_sc v_f v_st h_k h_s h_c g_k g_v g_p g_a g_t c_k c_t c_p i_l i_n i_f i_p i_o i_b w_l w_s x_e x_l cr tl)) :
    ∀ (fu : Nat) (v6 : Int64) (v8 : Int32) (res : Int64), f_X7_substituted_L6 w1 w3 w4 s_n K fu v6 v8 = some res → tG l E RX7 cX7_substituted 10 (some .long) false 2 (fun r h' => r = some (.long res) ∧ h' = encX x_hs s_n s_sp s_sb s_sc s_f s_st v_n v_sp v_sb v_sc v_f v_st h_k h_s h_c g_k g_v g_p g_a g_t c_k c_t c_p i_l i_n i_f i_p i_o i_b w_l w_s x_e x_l cr tl) 0 0 6 [(0, .ref 0), (1, .long w1), (3, .int w3), (4, .long w4), (6, .long v6), (8, .int v8)] [] (encX x_hs s_n s_sp s_sb s_sc s_f s_st v_n v_sp v_sb v_sc v_f v_st h_k h_s h_c g_k g_v g_p g_a g_t c_k c_t c_p i_l i_n i_f i_p i_o i_b w_l w_s x_e x_l cr tl) := by
  intro fu
  induction fu with
  | zero => intro v6 v8 res hf; exact nomatch (show none = some res from hf)
  | succ fu ih =>
    intro v6 v8 res hf
    rw [f_X7_substituted_L6] at hf
    refine g_iload 5 (q := 8) dX7_substituted_6 rfl rfl ?_
    refine g_aload_n 0 (q := 9) dX7_substituted_8 rfl rfl ?_
    refine g_get (q := 12) fl_X7_10 dX7_substituted_9 rfl rfl rfl ?_
    refine g_get (q := 15) fl_X7_75 dX7_substituted_12 rfl rfl rfl ?_
    refine g_callS (k2 := 0) (n2 := 0) (q := 18) (as := [.int s_n]) (st := [.int v8]) (st1 := [.int (f_X7_pointCount s_n), .int v8]) tm_X7_pointCount ml_X7_209 ts_X7_pointCount dX7_substituted_15 rfl ev_X7_pointCount rfl rfl (Nat.le_of_ble_eq_true rfl) (by decide) rfl rfl (Or.inl rfl) rfl ?_
    refine g_icmp_ge (t := 57) (q := 21) dX7_substituted_18 (by decide) rfl (fun c1 => ?_) (fun c1 => ?_)
    · rw [if_pos c1] at hf
      refine g_ls [4] rfl ?_
      exact hK _ _ hf
    · rw [if_neg c1] at hf
      refine g_iload 5 (q := 23) dX7_substituted_21 rfl rfl ?_
      refine g_iload_n 2 (q := 24) dX7_substituted_23 rfl rfl ?_
      refine g_lload 3 (q := 26) dX7_substituted_24 rfl rfl ?_
      refine g_iload 5 (q := 28) dX7_substituted_26 rfl rfl ?_
      refine g_callS (k2 := 0) (n2 := 0) (q := 31) (as := [.long w4, .int v8]) (st := [.int w3, .int v8]) (st1 := [.int (f_X7_bitAt w4 v8), .int w3, .int v8]) tm_X7_bitAt ml_X7_115 ts_X7_bitAt dX7_substituted_28 rfl ev_X7_bitAt rfl rfl (Nat.le_of_ble_eq_true rfl) (by decide) rfl rfl (Or.inl rfl) rfl ?_
      refine g_callS (k2 := 0) (n2 := 0) (q := 34) (as := [.int v8, .int w3, .int (f_X7_bitAt w4 v8)]) (st := []) (st1 := [.int (f_X7_withBit v8 w3 (f_X7_bitAt w4 v8))]) tm_X7_withBit ml_X7_219 ts_X7_withBit dX7_substituted_31 rfl ev_X7_withBit rfl rfl (Nat.le_of_ble_eq_true rfl) (by decide) rfl rfl (Or.inl rfl) rfl ?_
      refine g_istore (q := 36) (L' := [(0, .ref 0), (1, .long w1), (3, .int w3), (4, .long w4), (6, .long v6), (8, .int v8), (9, .int (f_X7_withBit v8 w3 (f_X7_bitAt w4 v8)))]) dX7_substituted_34 rfl (by decide) rfl ?_
      refine g_lload 4 (q := 38) dX7_substituted_36 rfl rfl ?_
      refine g_lload_n 1 (q := 39) dX7_substituted_38 rfl rfl ?_
      refine g_iload 6 (q := 41) dX7_substituted_39 rfl rfl ?_
      refine g_callS (k2 := 0) (n2 := 0) (q := 44) (as := [.long w1, .int (f_X7_withBit v8 w3 (f_X7_bitAt w4 v8))]) (st := [.long v6]) (st1 := [.int (f_X7_bitAt w1 (f_X7_withBit v8 w3 (f_X7_bitAt w4 v8))), .long v6]) tm_X7_bitAt ml_X7_115 ts_X7_bitAt dX7_substituted_41 rfl ev_X7_bitAt rfl rfl (Nat.le_of_ble_eq_true rfl) (by decide) rfl rfl (Or.inl rfl) rfl ?_
      refine g_i2l (q := 45) dX7_substituted_44 rfl ?_
      refine g_iload 5 (q := 47) dX7_substituted_45 rfl rfl ?_
      refine g_lshl (q := 48) dX7_substituted_47 rfl ?_
      refine g_lor (q := 49) dX7_substituted_48 rfl ?_
      refine g_lstore (q := 51) (L' := [(0, .ref 0), (1, .long w1), (3, .int w3), (4, .long w4), (6, .long (v6 ||| (tlshl (Int32.toInt64 (f_X7_bitAt w1 (f_X7_withBit v8 w3 (f_X7_bitAt w4 v8)))) v8))), (8, .int v8), (9, .int (f_X7_withBit v8 w3 (f_X7_bitAt w4 v8)))]) dX7_substituted_49 rfl (by decide) rfl ?_
      refine g_iinc 5 (q := 54) (v := (v8 + 1)) (L' := [(0, .ref 0), (1, .long w1), (3, .int w3), (4, .long w4), (6, .long (v6 ||| (tlshl (Int32.toInt64 (f_X7_bitAt w1 (f_X7_withBit v8 w3 (f_X7_bitAt w4 v8)))) v8))), (8, .int (v8 + 1)), (9, .int (f_X7_withBit v8 w3 (f_X7_bitAt w4 v8)))]) dX7_substituted_51 rfl rfl rfl (by decide) rfl ?_
      refine g_goto (t := 6) dX7_substituted_54 (by decide) ?_
      refine g_ls [0, 1, 2, 3, 4, 5] rfl ?_
      exact ih _ _ _ hf
set_option maxRecDepth 20000 in
set_option maxHeartbeats 4000000 in
theorem ev_X7_substituted {l : Launch} {E : tEn} {cr : Value} {tl : tHp} {x_hs : Int32} {s_n : Int32} {s_sp : Int64} {s_sb : Int64} {s_sc : Int32} {s_f : List Int64} {s_st : List Int32} {v_n : Int32} {v_sp : Int64} {v_sb : Int64} {v_sc : Int32} {v_f : List Int64} {v_st : List Int32} {h_k : Int32} {h_s : List Int32} {h_c : List Int64} {g_k : Int32} {g_v : Int32} {g_p : List Int32} {g_a : List Int32} {g_t : List Int32} {c_k : Int32} {c_t : List Int32} {c_p : List Int32} {i_l : Int32} {i_n : Int32} {i_f : Int64} {i_p : Int32} {i_o : Int32} {i_b : List Int32} {w_l : Int32} {w_s : List Int32} {x_e : List Int32} {x_l : List Int32} {a0 : Int64} {a1 : Int32} {a2 : Int64} {res : Int64} (hf : f_X7_substituted a0 a1 a2 s_n = some res) : tEv l E yX7_substituted cX7_substituted 10 (some .long) 2 0 0 [.ref 0, .long a0, .int a1, .long a2] (encX x_hs s_n s_sp s_sb s_sc s_f s_st v_n v_sp v_sb v_sc v_f v_st h_k h_s h_c g_k g_v g_p g_a g_t c_k c_t c_p i_l i_n i_f i_p i_o i_b w_l w_s x_e x_l cr tl) (fun r h' => r = some (.long res) ∧ h' = encX x_hs s_n s_sp s_sb s_sc s_f s_st v_n v_sp v_sb v_sc v_f v_st h_k h_s h_c g_k g_v g_p g_a g_t c_k c_t c_p i_l i_n i_f i_p i_o i_b w_l w_s x_e x_l cr tl) := by
  refine tEv.of (own := RX7) (ini := false) (L := [(0, .ref 0), (1, .long a0), (3, .int a1), (4, .long a2)]) (by decide +kernel) rfl (fun h9 => nomatch h9) rfl (Nat.le_of_ble_eq_true rfl) ?_
  rw [f_X7_substituted] at hf
  refine g_lconst (q := 1) (v := 0) dX7_substituted_0 rfl rfl ?_
  refine g_lstore (q := 3) (L' := [(0, .ref 0), (1, .long a0), (3, .int a1), (4, .long a2), (6, .long 0)]) dX7_substituted_1 rfl (by decide) rfl ?_
  refine g_iconst (q := 4) (v := 0) dX7_substituted_3 rfl rfl ?_
  refine g_istore (q := 6) (L' := [(0, .ref 0), (1, .long a0), (3, .int a1), (4, .long a2), (6, .long 0), (8, .int 0)]) dX7_substituted_4 rfl (by decide) rfl ?_
  refine g_ls [0, 1, 2, 3, 4, 5] rfl ?_
  refine ev_X7_substituted_L6 (fun y2 res hf => ?_) tFU _ _ res hf
  refine g_lload 0 (q := 59) dX7_substituted_57 rfl rfl ?_
  have hf := Option.some.inj hf
  subst hf
  exact g_lreturn dX7_substituted_59 rfl ⟨rfl, rfl⟩
def f_X7_cofactor (a0 : Int32) (a1 : Int32) (a2 : Int32) (a3 : Int32) (s_n : Int32) (s_f : List Int64) (h_k : Int32) (h_s : List Int32) (h_c : List Int64) : Option (Int32 × List Int64 × Int32 × List Int32 × List Int64) := (if (f_X7_isSlot a0) = 0 then some ((-2), s_f, h_k, h_s, h_c) else (if (f_X7_isVariable a1 s_n) = 0 then some ((-2), s_f, h_k, h_s, h_c) else (if (f_X7_isBit a2) = 0 then some ((-2), s_f, h_k, h_s, h_c) else (if (f_X7_isSlot a3) = 0 then some ((-2), s_f, h_k, h_s, h_c) else (f_X6_holds a0 s_f).bind fun r5 => (if r5 = 0 then some ((-3), s_f, h_k, h_s, h_c) else (if a2 = 1 then (tld s_f a0).bind fun r15 => (f_X7_substituted r15 a1 (f_X7_fullTable s_n) s_n).bind fun r17 => (f_X7_store a3 r17 s_f h_k h_s h_c).bind fun r19 => some (r19.1, r19.2.1, r19.2.2.1, r19.2.2.2.1, r19.2.2.2.2) else (tld s_f a0).bind fun r9 => (f_X7_substituted r9 a1 0 s_n).bind fun r11 => (f_X7_store a3 r11 s_f h_k h_s h_c).bind fun r13 => some (r13.1, r13.2.1, r13.2.2.1, r13.2.2.2.1, r13.2.2.2.2)))))))
set_option maxRecDepth 20000 in
set_option maxHeartbeats 4000000 in
theorem ev_X7_cofactor {l : Launch} {E : tEn} {cr : Value} {tl : tHp} {x_hs : Int32} {s_n : Int32} {s_sp : Int64} {s_sb : Int64} {s_sc : Int32} {s_f : List Int64} {s_st : List Int32} {v_n : Int32} {v_sp : Int64} {v_sb : Int64} {v_sc : Int32} {v_f : List Int64} {v_st : List Int32} {h_k : Int32} {h_s : List Int32} {h_c : List Int64} {g_k : Int32} {g_v : Int32} {g_p : List Int32} {g_a : List Int32} {g_t : List Int32} {c_k : Int32} {c_t : List Int32} {c_p : List Int32} {i_l : Int32} {i_n : Int32} {i_f : Int64} {i_p : Int32} {i_o : Int32} {i_b : List Int32} {w_l : Int32} {w_s : List Int32} {x_e : List Int32} {x_l : List Int32} {a0 : Int32} {a1 : Int32} {a2 : Int32} {a3 : Int32} {res : Int32 × List Int64 × Int32 × List Int32 × List Int64} (hf : f_X7_cofactor a0 a1 a2 a3 s_n s_f h_k h_s h_c = some res) : tEv l E yX7_cofactor cX7_cofactor 7 (some .int) 4 0 0 [.ref 0, .int a0, .int a1, .int a2, .int a3] (encX x_hs s_n s_sp s_sb s_sc s_f s_st v_n v_sp v_sb v_sc v_f v_st h_k h_s h_c g_k g_v g_p g_a g_t c_k c_t c_p i_l i_n i_f i_p i_o i_b w_l w_s x_e x_l cr tl) (fun r h' => r = some (.int res.1) ∧ h' = encX x_hs s_n s_sp s_sb s_sc (res.2.1) s_st v_n v_sp v_sb v_sc v_f v_st (res.2.2.1) (res.2.2.2.1) (res.2.2.2.2) g_k g_v g_p g_a g_t c_k c_t c_p i_l i_n i_f i_p i_o i_b w_l w_s x_e x_l cr tl) := by
  refine tEv.of (own := RX7) (ini := false) (L := [(0, .ref 0), (1, .int a0), (2, .int a1), (3, .int a2), (4, .int a3)]) (by decide +kernel) rfl (fun h9 => nomatch h9) rfl (Nat.le_of_ble_eq_true rfl) ?_
  rw [f_X7_cofactor] at hf
  refine g_iload_n 1 (q := 1) dX7_cofactor_0 rfl rfl ?_
  refine g_callS (k2 := 0) (n2 := 0) (q := 4) (as := [.int a0]) (st := []) (st1 := [.int (f_X7_isSlot a0)]) tm_X7_isSlot ml_X7_86 ts_X7_isSlot dX7_cofactor_1 rfl ev_X7_isSlot rfl rfl (Nat.le_of_ble_eq_true rfl) (by decide) rfl rfl (Or.inl rfl) rfl ?_
  refine g_if_eq (t := 30) (q := 7) dX7_cofactor_4 (by decide) rfl (fun c1 => ?_) (fun c1 => ?_)
  · rw [if_pos c1] at hf
    refine g_bipush (q := 32) (v := (-2)) dX7_cofactor_30 rfl rfl ?_
    have hf := Option.some.inj hf
    subst hf
    exact g_ireturn dX7_cofactor_32 rfl ⟨rfl, rfl⟩
  · rw [if_neg c1] at hf
    refine g_aload_n 0 (q := 8) dX7_cofactor_7 rfl rfl ?_
    refine g_iload_n 2 (q := 9) dX7_cofactor_8 rfl rfl ?_
    refine g_callV (a := 0) (k2 := 0) (n2 := 0) (q := 12) (as := [.int a1]) (st := []) (st1 := [.int (f_X7_isVariable a1 s_n)]) tm_X7_isVariable ml_X7_134 ti_X7_isVariable rfl rfl dX7_cofactor_9 rfl ev_X7_isVariable rfl rfl (Nat.le_of_ble_eq_true rfl) (by decide) rfl rfl (Or.inl rfl) rfl ?_
    refine g_if_eq (t := 30) (q := 15) dX7_cofactor_12 (by decide) rfl (fun c2 => ?_) (fun c2 => ?_)
    · rw [if_pos c2] at hf
      refine g_bipush (q := 32) (v := (-2)) dX7_cofactor_30 rfl rfl ?_
      have hf := Option.some.inj hf
      subst hf
      exact g_ireturn dX7_cofactor_32 rfl ⟨rfl, rfl⟩
    · rw [if_neg c2] at hf
      refine g_iload_n 3 (q := 16) dX7_cofactor_15 rfl rfl ?_
      refine g_callS (k2 := 0) (n2 := 0) (q := 19) (as := [.int a2]) (st := []) (st1 := [.int (f_X7_isBit a2)]) tm_X7_isBit ml_X7_212 ts_X7_isBit dX7_cofactor_16 rfl ev_X7_isBit rfl rfl (Nat.le_of_ble_eq_true rfl) (by decide) rfl rfl (Or.inl rfl) rfl ?_
      refine g_if_eq (t := 30) (q := 22) dX7_cofactor_19 (by decide) rfl (fun c3 => ?_) (fun c3 => ?_)
      · rw [if_pos c3] at hf
        refine g_bipush (q := 32) (v := (-2)) dX7_cofactor_30 rfl rfl ?_
        have hf := Option.some.inj hf
        subst hf
        exact g_ireturn dX7_cofactor_32 rfl ⟨rfl, rfl⟩
      · rw [if_neg c3] at hf
        refine g_iload 4 (q := 24) dX7_cofactor_22 rfl rfl ?_
        refine g_callS (k2 := 0) (n2 := 0) (q := 27) (as := [.int a3]) (st := []) (st1 := [.int (f_X7_isSlot a3)]) tm_X7_isSlot ml_X7_86 ts_X7_isSlot dX7_cofactor_24 rfl ev_X7_isSlot rfl rfl (Nat.le_of_ble_eq_true rfl) (by decide) rfl rfl (Or.inl rfl) rfl ?_
        refine g_if_ne (t := 33) (q := 30) dX7_cofactor_27 (by decide) rfl (fun c4 => ?_) (fun c4 => ?_)
        · rw [if_neg c4] at hf
          refine g_aload_n 0 (q := 34) dX7_cofactor_33 rfl rfl ?_
          refine g_get (q := 37) fl_X7_10 dX7_cofactor_34 rfl rfl rfl ?_
          refine g_iload_n 1 (q := 38) dX7_cofactor_37 rfl rfl ?_
          obtain ⟨r5, e6, hf⟩ := Option.bind_eq_some_iff.mp hf
          refine g_callV (a := 1) (k2 := 0) (n2 := 0) (q := 41) (as := [.int a0]) (st := []) (st1 := [.int r5]) tm_X6_holds ml_X7_202 ti_X6_holds rfl rfl dX7_cofactor_38 rfl (ev_X6_holds e6) rfl rfl (Nat.le_of_ble_eq_true rfl) (by decide) rfl rfl (Or.inl rfl) rfl ?_
          refine g_if_ne (t := 47) (q := 44) dX7_cofactor_41 (by decide) rfl (fun c7 => ?_) (fun c7 => ?_)
          · rw [if_neg c7] at hf
            refine g_iload_n 3 (q := 48) dX7_cofactor_47 rfl rfl ?_
            refine g_iconst (q := 49) (v := 1) dX7_cofactor_48 rfl rfl ?_
            refine g_icmp_ne (t := 65) (q := 52) dX7_cofactor_49 (by decide) rfl (fun c8 => ?_) (fun c8 => ?_)
            · rw [if_neg c8] at hf
              refine g_lconst (q := 66) (v := 0) dX7_cofactor_65 rfl rfl ?_
              refine g_lstore (q := 68) (L' := [(0, .ref 0), (1, .int a0), (2, .int a1), (3, .int a2), (4, .int a3), (5, .long 0)]) dX7_cofactor_66 rfl (by decide) rfl ?_
              refine g_aload_n 0 (q := 69) dX7_cofactor_68 rfl rfl ?_
              refine g_iload 4 (q := 71) dX7_cofactor_69 rfl rfl ?_
              refine g_aload_n 0 (q := 72) dX7_cofactor_71 rfl rfl ?_
              refine g_aload_n 0 (q := 73) dX7_cofactor_72 rfl rfl ?_
              refine g_get (q := 76) fl_X7_10 dX7_cofactor_73 rfl rfl rfl ?_
              refine g_get (q := 79) fl_X7_102 dX7_cofactor_76 rfl rfl rfl ?_
              refine g_iload_n 1 (q := 80) dX7_cofactor_79 rfl rfl ?_
              obtain ⟨r9, e10, hf⟩ := Option.bind_eq_some_iff.mp hf
              refine g_laload (q := 81) dX7_cofactor_80 rfl rfl e10 ?_
              refine g_iload_n 2 (q := 82) dX7_cofactor_81 rfl rfl ?_
              refine g_lload 5 (q := 84) dX7_cofactor_82 rfl rfl ?_
              obtain ⟨r11, e12, hf⟩ := Option.bind_eq_some_iff.mp hf
              refine g_callV (a := 0) (k2 := 0) (n2 := 0) (q := 87) (as := [.long r9, .int a1, .long 0]) (st := [.int a3, .ref 0]) (st1 := [.long r11, .int a3, .ref 0]) tm_X7_substituted ml_X7_215 ti_X7_substituted rfl rfl dX7_cofactor_84 rfl (ev_X7_substituted e12) rfl rfl (Nat.le_of_ble_eq_true rfl) (by decide) rfl rfl (Or.inl rfl) rfl ?_
              obtain ⟨r13, e14, hf⟩ := Option.bind_eq_some_iff.mp hf
              refine g_callV (a := 0) (k2 := 0) (n2 := 0) (q := 90) (as := [.int a3, .long r11]) (st := []) (st1 := [.int r13.1]) tm_X7_store ml_X7_94 ti_X7_store rfl rfl dX7_cofactor_87 rfl (ev_X7_store e14) rfl rfl (Nat.le_of_ble_eq_true rfl) (by decide) rfl rfl (Or.inl (encX_len.trans encX_len.symm)) rfl ?_
              have hf := Option.some.inj hf
              subst hf
              exact g_ireturn dX7_cofactor_90 rfl ⟨rfl, rfl⟩
            · rw [if_pos c8] at hf
              refine g_aload_n 0 (q := 53) dX7_cofactor_52 rfl rfl ?_
              refine g_get (q := 56) fl_X7_10 dX7_cofactor_53 rfl rfl rfl ?_
              refine g_get (q := 59) fl_X7_75 dX7_cofactor_56 rfl rfl rfl ?_
              refine g_callS (k2 := 0) (n2 := 0) (q := 62) (as := [.int s_n]) (st := []) (st1 := [.long (f_X7_fullTable s_n)]) tm_X7_fullTable ml_X7_90 ts_X7_fullTable dX7_cofactor_59 rfl ev_X7_fullTable rfl rfl (Nat.le_of_ble_eq_true rfl) (by decide) rfl rfl (Or.inl rfl) rfl ?_
              refine g_goto (t := 66) dX7_cofactor_62 (by decide) ?_
              refine g_lstore (q := 68) (L' := [(0, .ref 0), (1, .int a0), (2, .int a1), (3, .int a2), (4, .int a3), (5, .long (f_X7_fullTable s_n))]) dX7_cofactor_66 rfl (by decide) rfl ?_
              refine g_aload_n 0 (q := 69) dX7_cofactor_68 rfl rfl ?_
              refine g_iload 4 (q := 71) dX7_cofactor_69 rfl rfl ?_
              refine g_aload_n 0 (q := 72) dX7_cofactor_71 rfl rfl ?_
              refine g_aload_n 0 (q := 73) dX7_cofactor_72 rfl rfl ?_
              refine g_get (q := 76) fl_X7_10 dX7_cofactor_73 rfl rfl rfl ?_
              refine g_get (q := 79) fl_X7_102 dX7_cofactor_76 rfl rfl rfl ?_
              refine g_iload_n 1 (q := 80) dX7_cofactor_79 rfl rfl ?_
              obtain ⟨r15, e16, hf⟩ := Option.bind_eq_some_iff.mp hf
              refine g_laload (q := 81) dX7_cofactor_80 rfl rfl e16 ?_
              refine g_iload_n 2 (q := 82) dX7_cofactor_81 rfl rfl ?_
              refine g_lload 5 (q := 84) dX7_cofactor_82 rfl rfl ?_
              obtain ⟨r17, e18, hf⟩ := Option.bind_eq_some_iff.mp hf
              refine g_callV (a := 0) (k2 := 0) (n2 := 0) (q := 87) (as := [.long r15, .int a1, .long (f_X7_fullTable s_n)]) (st := [.int a3, .ref 0]) (st1 := [.long r17, .int a3, .ref 0]) tm_X7_substituted ml_X7_215 ti_X7_substituted rfl rfl dX7_cofactor_84 rfl (ev_X7_substituted e18) rfl rfl (Nat.le_of_ble_eq_true rfl) (by decide) rfl rfl (Or.inl rfl) rfl ?_
              obtain ⟨r19, e20, hf⟩ := Option.bind_eq_some_iff.mp hf
              refine g_callV (a := 0) (k2 := 0) (n2 := 0) (q := 90) (as := [.int a3, .long r17]) (st := []) (st1 := [.int r19.1]) tm_X7_store ml_X7_94 ti_X7_store rfl rfl dX7_cofactor_87 rfl (ev_X7_store e20) rfl rfl (Nat.le_of_ble_eq_true rfl) (by decide) rfl rfl (Or.inl (encX_len.trans encX_len.symm)) rfl ?_
              have hf := Option.some.inj hf
              subst hf
              exact g_ireturn dX7_cofactor_90 rfl ⟨rfl, rfl⟩
          · rw [if_pos c7] at hf
            refine g_bipush (q := 46) (v := (-3)) dX7_cofactor_44 rfl rfl ?_
            have hf := Option.some.inj hf
            subst hf
            exact g_ireturn dX7_cofactor_46 rfl ⟨rfl, rfl⟩
        · rw [if_pos c4] at hf
          refine g_bipush (q := 32) (v := (-2)) dX7_cofactor_30 rfl rfl ?_
          have hf := Option.some.inj hf
          subst hf
          exact g_ireturn dX7_cofactor_32 rfl ⟨rfl, rfl⟩
def f_X7_substitute (a0 : Int32) (a1 : Int32) (a2 : Int32) (a3 : Int32) (s_n : Int32) (s_f : List Int64) (h_k : Int32) (h_s : List Int32) (h_c : List Int64) : Option (Int32 × List Int64 × Int32 × List Int32 × List Int64) := (if (f_X7_isSlot a0) = 0 then some ((-2), s_f, h_k, h_s, h_c) else (if (f_X7_isVariable a1 s_n) = 0 then some ((-2), s_f, h_k, h_s, h_c) else (if (f_X7_isSlot a2) = 0 then some ((-2), s_f, h_k, h_s, h_c) else (if (f_X7_isSlot a3) = 0 then some ((-2), s_f, h_k, h_s, h_c) else (f_X6_holds a0 s_f).bind fun r5 => (if r5 = 0 then some ((-3), s_f, h_k, h_s, h_c) else (f_X6_holds a2 s_f).bind fun r8 => (if r8 = 0 then some ((-3), s_f, h_k, h_s, h_c) else (tld s_f a0).bind fun r11 => (tld s_f a2).bind fun r13 => (f_X7_substituted r11 a1 r13 s_n).bind fun r15 => (f_X7_store a3 r15 s_f h_k h_s h_c).bind fun r17 => some (r17.1, r17.2.1, r17.2.2.1, r17.2.2.2.1, r17.2.2.2.2)))))))
set_option maxRecDepth 20000 in
set_option maxHeartbeats 4000000 in
theorem ev_X7_substitute {l : Launch} {E : tEn} {cr : Value} {tl : tHp} {x_hs : Int32} {s_n : Int32} {s_sp : Int64} {s_sb : Int64} {s_sc : Int32} {s_f : List Int64} {s_st : List Int32} {v_n : Int32} {v_sp : Int64} {v_sb : Int64} {v_sc : Int32} {v_f : List Int64} {v_st : List Int32} {h_k : Int32} {h_s : List Int32} {h_c : List Int64} {g_k : Int32} {g_v : Int32} {g_p : List Int32} {g_a : List Int32} {g_t : List Int32} {c_k : Int32} {c_t : List Int32} {c_p : List Int32} {i_l : Int32} {i_n : Int32} {i_f : Int64} {i_p : Int32} {i_o : Int32} {i_b : List Int32} {w_l : Int32} {w_s : List Int32} {x_e : List Int32} {x_l : List Int32} {a0 : Int32} {a1 : Int32} {a2 : Int32} {a3 : Int32} {res : Int32 × List Int64 × Int32 × List Int32 × List Int64} (hf : f_X7_substitute a0 a1 a2 a3 s_n s_f h_k h_s h_c = some res) : tEv l E yX7_substitute cX7_substitute 5 (some .int) 4 0 0 [.ref 0, .int a0, .int a1, .int a2, .int a3] (encX x_hs s_n s_sp s_sb s_sc s_f s_st v_n v_sp v_sb v_sc v_f v_st h_k h_s h_c g_k g_v g_p g_a g_t c_k c_t c_p i_l i_n i_f i_p i_o i_b w_l w_s x_e x_l cr tl) (fun r h' => r = some (.int res.1) ∧ h' = encX x_hs s_n s_sp s_sb s_sc (res.2.1) s_st v_n v_sp v_sb v_sc v_f v_st (res.2.2.1) (res.2.2.2.1) (res.2.2.2.2) g_k g_v g_p g_a g_t c_k c_t c_p i_l i_n i_f i_p i_o i_b w_l w_s x_e x_l cr tl) := by
  refine tEv.of (own := RX7) (ini := false) (L := [(0, .ref 0), (1, .int a0), (2, .int a1), (3, .int a2), (4, .int a3)]) (by decide +kernel) rfl (fun h9 => nomatch h9) rfl (Nat.le_of_ble_eq_true rfl) ?_
  rw [f_X7_substitute] at hf
  refine g_iload_n 1 (q := 1) dX7_substitute_0 rfl rfl ?_
  refine g_callS (k2 := 0) (n2 := 0) (q := 4) (as := [.int a0]) (st := []) (st1 := [.int (f_X7_isSlot a0)]) tm_X7_isSlot ml_X7_86 ts_X7_isSlot dX7_substitute_1 rfl ev_X7_isSlot rfl rfl (Nat.le_of_ble_eq_true rfl) (by decide) rfl rfl (Or.inl rfl) rfl ?_
  refine g_if_eq (t := 30) (q := 7) dX7_substitute_4 (by decide) rfl (fun c1 => ?_) (fun c1 => ?_)
  · rw [if_pos c1] at hf
    refine g_bipush (q := 32) (v := (-2)) dX7_substitute_30 rfl rfl ?_
    have hf := Option.some.inj hf
    subst hf
    exact g_ireturn dX7_substitute_32 rfl ⟨rfl, rfl⟩
  · rw [if_neg c1] at hf
    refine g_aload_n 0 (q := 8) dX7_substitute_7 rfl rfl ?_
    refine g_iload_n 2 (q := 9) dX7_substitute_8 rfl rfl ?_
    refine g_callV (a := 0) (k2 := 0) (n2 := 0) (q := 12) (as := [.int a1]) (st := []) (st1 := [.int (f_X7_isVariable a1 s_n)]) tm_X7_isVariable ml_X7_134 ti_X7_isVariable rfl rfl dX7_substitute_9 rfl ev_X7_isVariable rfl rfl (Nat.le_of_ble_eq_true rfl) (by decide) rfl rfl (Or.inl rfl) rfl ?_
    refine g_if_eq (t := 30) (q := 15) dX7_substitute_12 (by decide) rfl (fun c2 => ?_) (fun c2 => ?_)
    · rw [if_pos c2] at hf
      refine g_bipush (q := 32) (v := (-2)) dX7_substitute_30 rfl rfl ?_
      have hf := Option.some.inj hf
      subst hf
      exact g_ireturn dX7_substitute_32 rfl ⟨rfl, rfl⟩
    · rw [if_neg c2] at hf
      refine g_iload_n 3 (q := 16) dX7_substitute_15 rfl rfl ?_
      refine g_callS (k2 := 0) (n2 := 0) (q := 19) (as := [.int a2]) (st := []) (st1 := [.int (f_X7_isSlot a2)]) tm_X7_isSlot ml_X7_86 ts_X7_isSlot dX7_substitute_16 rfl ev_X7_isSlot rfl rfl (Nat.le_of_ble_eq_true rfl) (by decide) rfl rfl (Or.inl rfl) rfl ?_
      refine g_if_eq (t := 30) (q := 22) dX7_substitute_19 (by decide) rfl (fun c3 => ?_) (fun c3 => ?_)
      · rw [if_pos c3] at hf
        refine g_bipush (q := 32) (v := (-2)) dX7_substitute_30 rfl rfl ?_
        have hf := Option.some.inj hf
        subst hf
        exact g_ireturn dX7_substitute_32 rfl ⟨rfl, rfl⟩
      · rw [if_neg c3] at hf
        refine g_iload 4 (q := 24) dX7_substitute_22 rfl rfl ?_
        refine g_callS (k2 := 0) (n2 := 0) (q := 27) (as := [.int a3]) (st := []) (st1 := [.int (f_X7_isSlot a3)]) tm_X7_isSlot ml_X7_86 ts_X7_isSlot dX7_substitute_24 rfl ev_X7_isSlot rfl rfl (Nat.le_of_ble_eq_true rfl) (by decide) rfl rfl (Or.inl rfl) rfl ?_
        refine g_if_ne (t := 33) (q := 30) dX7_substitute_27 (by decide) rfl (fun c4 => ?_) (fun c4 => ?_)
        · rw [if_neg c4] at hf
          refine g_aload_n 0 (q := 34) dX7_substitute_33 rfl rfl ?_
          refine g_get (q := 37) fl_X7_10 dX7_substitute_34 rfl rfl rfl ?_
          refine g_iload_n 1 (q := 38) dX7_substitute_37 rfl rfl ?_
          obtain ⟨r5, e6, hf⟩ := Option.bind_eq_some_iff.mp hf
          refine g_callV (a := 1) (k2 := 0) (n2 := 0) (q := 41) (as := [.int a0]) (st := []) (st1 := [.int r5]) tm_X6_holds ml_X7_202 ti_X6_holds rfl rfl dX7_substitute_38 rfl (ev_X6_holds e6) rfl rfl (Nat.le_of_ble_eq_true rfl) (by decide) rfl rfl (Or.inl rfl) rfl ?_
          refine g_if_eq (t := 55) (q := 44) dX7_substitute_41 (by decide) rfl (fun c7 => ?_) (fun c7 => ?_)
          · rw [if_pos c7] at hf
            refine g_bipush (q := 57) (v := (-3)) dX7_substitute_55 rfl rfl ?_
            have hf := Option.some.inj hf
            subst hf
            exact g_ireturn dX7_substitute_57 rfl ⟨rfl, rfl⟩
          · rw [if_neg c7] at hf
            refine g_aload_n 0 (q := 45) dX7_substitute_44 rfl rfl ?_
            refine g_get (q := 48) fl_X7_10 dX7_substitute_45 rfl rfl rfl ?_
            refine g_iload_n 3 (q := 49) dX7_substitute_48 rfl rfl ?_
            obtain ⟨r8, e9, hf⟩ := Option.bind_eq_some_iff.mp hf
            refine g_callV (a := 1) (k2 := 0) (n2 := 0) (q := 52) (as := [.int a2]) (st := []) (st1 := [.int r8]) tm_X6_holds ml_X7_202 ti_X6_holds rfl rfl dX7_substitute_49 rfl (ev_X6_holds e9) rfl rfl (Nat.le_of_ble_eq_true rfl) (by decide) rfl rfl (Or.inl rfl) rfl ?_
            refine g_if_ne (t := 58) (q := 55) dX7_substitute_52 (by decide) rfl (fun c10 => ?_) (fun c10 => ?_)
            · rw [if_neg c10] at hf
              refine g_aload_n 0 (q := 59) dX7_substitute_58 rfl rfl ?_
              refine g_iload 4 (q := 61) dX7_substitute_59 rfl rfl ?_
              refine g_aload_n 0 (q := 62) dX7_substitute_61 rfl rfl ?_
              refine g_aload_n 0 (q := 63) dX7_substitute_62 rfl rfl ?_
              refine g_get (q := 66) fl_X7_10 dX7_substitute_63 rfl rfl rfl ?_
              refine g_get (q := 69) fl_X7_102 dX7_substitute_66 rfl rfl rfl ?_
              refine g_iload_n 1 (q := 70) dX7_substitute_69 rfl rfl ?_
              obtain ⟨r11, e12, hf⟩ := Option.bind_eq_some_iff.mp hf
              refine g_laload (q := 71) dX7_substitute_70 rfl rfl e12 ?_
              refine g_iload_n 2 (q := 72) dX7_substitute_71 rfl rfl ?_
              refine g_aload_n 0 (q := 73) dX7_substitute_72 rfl rfl ?_
              refine g_get (q := 76) fl_X7_10 dX7_substitute_73 rfl rfl rfl ?_
              refine g_get (q := 79) fl_X7_102 dX7_substitute_76 rfl rfl rfl ?_
              refine g_iload_n 3 (q := 80) dX7_substitute_79 rfl rfl ?_
              obtain ⟨r13, e14, hf⟩ := Option.bind_eq_some_iff.mp hf
              refine g_laload (q := 81) dX7_substitute_80 rfl rfl e14 ?_
              obtain ⟨r15, e16, hf⟩ := Option.bind_eq_some_iff.mp hf
              refine g_callV (a := 0) (k2 := 0) (n2 := 0) (q := 84) (as := [.long r11, .int a1, .long r13]) (st := [.int a3, .ref 0]) (st1 := [.long r15, .int a3, .ref 0]) tm_X7_substituted ml_X7_215 ti_X7_substituted rfl rfl dX7_substitute_81 rfl (ev_X7_substituted e16) rfl rfl (Nat.le_of_ble_eq_true rfl) (by decide) rfl rfl (Or.inl rfl) rfl ?_
              obtain ⟨r17, e18, hf⟩ := Option.bind_eq_some_iff.mp hf
              refine g_callV (a := 0) (k2 := 0) (n2 := 0) (q := 87) (as := [.int a3, .long r15]) (st := []) (st1 := [.int r17.1]) tm_X7_store ml_X7_94 ti_X7_store rfl rfl dX7_substitute_84 rfl (ev_X7_store e18) rfl rfl (Nat.le_of_ble_eq_true rfl) (by decide) rfl rfl (Or.inl (encX_len.trans encX_len.symm)) rfl ?_
              have hf := Option.some.inj hf
              subst hf
              exact g_ireturn dX7_substitute_87 rfl ⟨rfl, rfl⟩
            · rw [if_pos c10] at hf
              refine g_bipush (q := 57) (v := (-3)) dX7_substitute_55 rfl rfl ?_
              have hf := Option.some.inj hf
              subst hf
              exact g_ireturn dX7_substitute_57 rfl ⟨rfl, rfl⟩
        · rw [if_pos c4] at hf
          refine g_bipush (q := 32) (v := (-2)) dX7_substitute_30 rfl rfl ?_
          have hf := Option.some.inj hf
          subst hf
          exact g_ireturn dX7_substitute_32 rfl ⟨rfl, rfl⟩
def f_X7_exchange_L65 (w2 : Int32) (w3 : Int32) (w5 : Int64) (s_n : Int32) (K : Int64 → Option (Int32 × List Int64 × Int32 × List Int32 × List Int64)) : Nat → Int64 → Int32 → Option (Int32 × List Int64 × Int32 × List Int32 × List Int64)
  | 0, _, _ => none
  | fu + 1, v7, v9 => (if (f_X7_pointCount s_n) ≤ v9 then K v7 else f_X7_exchange_L65 w2 w3 w5 s_n K fu (v7 ||| (tlshl (Int32.toInt64 (f_X7_bitAt w5 (f_X7_withBit (f_X7_withBit v9 w2 (f_X7_bitAt (Int32.toInt64 v9) w3)) w3 (f_X7_bitAt (Int32.toInt64 v9) w2)))) v9)) (v9 + 1))
def f_X7_exchange (a0 : Int32) (a1 : Int32) (a2 : Int32) (a3 : Int32) (s_n : Int32) (s_f : List Int64) (h_k : Int32) (h_s : List Int32) (h_c : List Int64) : Option (Int32 × List Int64 × Int32 × List Int32 × List Int64) := (if (f_X7_isSlot a0) = 0 then some ((-2), s_f, h_k, h_s, h_c) else (if (f_X7_isVariable a1 s_n) = 0 then some ((-2), s_f, h_k, h_s, h_c) else (if (f_X7_isVariable a2 s_n) = 0 then some ((-2), s_f, h_k, h_s, h_c) else (if (f_X7_isSlot a3) = 0 then some ((-2), s_f, h_k, h_s, h_c) else (f_X6_holds a0 s_f).bind fun r5 => (if r5 = 0 then some ((-3), s_f, h_k, h_s, h_c) else (tld s_f a0).bind fun r8 => f_X7_exchange_L65 a1 a2 r8 s_n (fun y11 => (f_X7_store a3 y11 s_f h_k h_s h_c).bind fun r12 => some (r12.1, r12.2.1, r12.2.2.1, r12.2.2.2.1, r12.2.2.2.2)) tFU 0 0)))))
set_option maxRecDepth 20000 in
set_option maxHeartbeats 4000000 in
theorem ev_X7_exchange_L65 {l : Launch} {E : tEn} {cr : Value} {tl : tHp}  {x_hs : Int32} {s_n : Int32} {s_sp : Int64} {s_sb : Int64} {s_sc : Int32} {s_f : List Int64} {s_st : List Int32} {v_n : Int32} {v_sp : Int64} {v_sb : Int64} {v_sc : Int32} {v_f : List Int64} {v_st : List Int32} {h_k : Int32} {h_s : List Int32} {h_c : List Int64} {g_k : Int32} {g_v : Int32} {g_p : List Int32} {g_a : List Int32} {g_t : List Int32} {c_k : Int32} {c_t : List Int32} {c_p : List Int32} {i_l : Int32} {i_n : Int32} {i_f : Int64} {i_p : Int32} {i_o : Int32} {i_b : List Int32} {w_l : Int32} {w_s : List Int32} {x_e : List Int32} {x_l : List Int32} {w2 : Int32} {w3 : Int32} {w4 : Int32} {w5 : Int64} {K : Int64 → Option (Int32 × List Int64 × Int32 × List Int32 × List Int64)} (hK : ∀ (v7 : Int64)  (res : Int32 × List Int64 × Int32 × List Int32 × List Int64), K v7 = some res → tG l E RX7 cX7_exchange 11 (some .int) false 4 (fun r h' => r = some (.int res.1) ∧ h' = encX x_hs s_n s_sp s_sb s_sc (res.2.1) s_st v_n v_sp v_sb v_sc v_f v_st (res.2.2.1) (res.2.2.2.1) (res.2.2.2.2) g_k g_v g_p g_a g_t c_k c_t c_p i_l i_n i_f i_p i_o i_b w_l w_s x_e x_l cr tl) 0 0 132 [(0, .ref 0), (4, .int w4), (7, .long v7)] [] (encX x_hs s_n s_sp s_sb s_sc s_f s_st v_n v_sp v_sb v_sc v_f v_st h_k h_s h_c g_k g_v g_p g_a g_t c_k c_t c_p i_l i_n i_f i_p i_o i_b w_l w_s x_e x_l cr tl)) :
    ∀ (fu : Nat) (v7 : Int64) (v9 : Int32) (res : Int32 × List Int64 × Int32 × List Int32 × List Int64), f_X7_exchange_L65 w2 w3 w5 s_n K fu v7 v9 = some res → tG l E RX7 cX7_exchange 11 (some .int) false 4 (fun r h' => r = some (.int res.1) ∧ h' = encX x_hs s_n s_sp s_sb s_sc (res.2.1) s_st v_n v_sp v_sb v_sc v_f v_st (res.2.2.1) (res.2.2.2.1) (res.2.2.2.2) g_k g_v g_p g_a g_t c_k c_t c_p i_l i_n i_f i_p i_o i_b w_l w_s x_e x_l cr tl) 0 0 65 [(0, .ref 0), (2, .int w2), (3, .int w3), (4, .int w4), (5, .long w5), (7, .long v7), (9, .int v9)] [] (encX x_hs s_n s_sp s_sb s_sc s_f s_st v_n v_sp v_sb v_sc v_f v_st h_k h_s h_c g_k g_v g_p g_a g_t c_k c_t c_p i_l i_n i_f i_p i_o i_b w_l w_s x_e x_l cr tl) := by
  intro fu
  induction fu with
  | zero => intro v7 v9 res hf; exact nomatch (show none = some res from hf)
  | succ fu ih =>
    intro v7 v9 res hf
    rw [f_X7_exchange_L65] at hf
    refine g_iload 6 (q := 67) dX7_exchange_65 rfl rfl ?_
    refine g_aload_n 0 (q := 68) dX7_exchange_67 rfl rfl ?_
    refine g_get (q := 71) fl_X7_10 dX7_exchange_68 rfl rfl rfl ?_
    refine g_get (q := 74) fl_X7_75 dX7_exchange_71 rfl rfl rfl ?_
    refine g_callS (k2 := 0) (n2 := 0) (q := 77) (as := [.int s_n]) (st := [.int v9]) (st1 := [.int (f_X7_pointCount s_n), .int v9]) tm_X7_pointCount ml_X7_209 ts_X7_pointCount dX7_exchange_74 rfl ev_X7_pointCount rfl rfl (Nat.le_of_ble_eq_true rfl) (by decide) rfl rfl (Or.inl rfl) rfl ?_
    refine g_icmp_ge (t := 132) (q := 80) dX7_exchange_77 (by decide) rfl (fun c10 => ?_) (fun c10 => ?_)
    · rw [if_pos c10] at hf
      refine g_ls [0, 3, 5] rfl ?_
      exact hK _ _ hf
    · rw [if_neg c10] at hf
      refine g_iload 6 (q := 82) dX7_exchange_80 rfl rfl ?_
      refine g_iload_n 1 (q := 83) dX7_exchange_82 rfl rfl ?_
      refine g_iload 6 (q := 85) dX7_exchange_83 rfl rfl ?_
      refine g_i2l (q := 86) dX7_exchange_85 rfl ?_
      refine g_iload_n 2 (q := 87) dX7_exchange_86 rfl rfl ?_
      refine g_callS (k2 := 0) (n2 := 0) (q := 90) (as := [.long (Int32.toInt64 v9), .int w3]) (st := [.int w2, .int v9]) (st1 := [.int (f_X7_bitAt (Int32.toInt64 v9) w3), .int w2, .int v9]) tm_X7_bitAt ml_X7_115 ts_X7_bitAt dX7_exchange_87 rfl ev_X7_bitAt rfl rfl (Nat.le_of_ble_eq_true rfl) (by decide) rfl rfl (Or.inl rfl) rfl ?_
      refine g_callS (k2 := 0) (n2 := 0) (q := 93) (as := [.int v9, .int w2, .int (f_X7_bitAt (Int32.toInt64 v9) w3)]) (st := []) (st1 := [.int (f_X7_withBit v9 w2 (f_X7_bitAt (Int32.toInt64 v9) w3))]) tm_X7_withBit ml_X7_219 ts_X7_withBit dX7_exchange_90 rfl ev_X7_withBit rfl rfl (Nat.le_of_ble_eq_true rfl) (by decide) rfl rfl (Or.inl rfl) rfl ?_
      refine g_istore (q := 95) (L' := [(0, .ref 0), (2, .int w2), (3, .int w3), (4, .int w4), (5, .long w5), (7, .long v7), (9, .int v9), (10, .int (f_X7_withBit v9 w2 (f_X7_bitAt (Int32.toInt64 v9) w3)))]) dX7_exchange_93 rfl (by decide) rfl ?_
      refine g_iload 7 (q := 97) dX7_exchange_95 rfl rfl ?_
      refine g_iload_n 2 (q := 98) dX7_exchange_97 rfl rfl ?_
      refine g_iload 6 (q := 100) dX7_exchange_98 rfl rfl ?_
      refine g_i2l (q := 101) dX7_exchange_100 rfl ?_
      refine g_iload_n 1 (q := 102) dX7_exchange_101 rfl rfl ?_
      refine g_callS (k2 := 0) (n2 := 0) (q := 105) (as := [.long (Int32.toInt64 v9), .int w2]) (st := [.int w3, .int (f_X7_withBit v9 w2 (f_X7_bitAt (Int32.toInt64 v9) w3))]) (st1 := [.int (f_X7_bitAt (Int32.toInt64 v9) w2), .int w3, .int (f_X7_withBit v9 w2 (f_X7_bitAt (Int32.toInt64 v9) w3))]) tm_X7_bitAt ml_X7_115 ts_X7_bitAt dX7_exchange_102 rfl ev_X7_bitAt rfl rfl (Nat.le_of_ble_eq_true rfl) (by decide) rfl rfl (Or.inl rfl) rfl ?_
      refine g_callS (k2 := 0) (n2 := 0) (q := 108) (as := [.int (f_X7_withBit v9 w2 (f_X7_bitAt (Int32.toInt64 v9) w3)), .int w3, .int (f_X7_bitAt (Int32.toInt64 v9) w2)]) (st := []) (st1 := [.int (f_X7_withBit (f_X7_withBit v9 w2 (f_X7_bitAt (Int32.toInt64 v9) w3)) w3 (f_X7_bitAt (Int32.toInt64 v9) w2))]) tm_X7_withBit ml_X7_219 ts_X7_withBit dX7_exchange_105 rfl ev_X7_withBit rfl rfl (Nat.le_of_ble_eq_true rfl) (by decide) rfl rfl (Or.inl rfl) rfl ?_
      refine g_istore (q := 110) (L' := [(0, .ref 0), (2, .int w2), (3, .int w3), (4, .int w4), (5, .long w5), (7, .long v7), (9, .int v9), (10, .int (f_X7_withBit (f_X7_withBit v9 w2 (f_X7_bitAt (Int32.toInt64 v9) w3)) w3 (f_X7_bitAt (Int32.toInt64 v9) w2)))]) dX7_exchange_108 rfl (by decide) rfl ?_
      refine g_lload 5 (q := 112) dX7_exchange_110 rfl rfl ?_
      refine g_lload 4 (q := 114) dX7_exchange_112 rfl rfl ?_
      refine g_iload 7 (q := 116) dX7_exchange_114 rfl rfl ?_
      refine g_callS (k2 := 0) (n2 := 0) (q := 119) (as := [.long w5, .int (f_X7_withBit (f_X7_withBit v9 w2 (f_X7_bitAt (Int32.toInt64 v9) w3)) w3 (f_X7_bitAt (Int32.toInt64 v9) w2))]) (st := [.long v7]) (st1 := [.int (f_X7_bitAt w5 (f_X7_withBit (f_X7_withBit v9 w2 (f_X7_bitAt (Int32.toInt64 v9) w3)) w3 (f_X7_bitAt (Int32.toInt64 v9) w2))), .long v7]) tm_X7_bitAt ml_X7_115 ts_X7_bitAt dX7_exchange_116 rfl ev_X7_bitAt rfl rfl (Nat.le_of_ble_eq_true rfl) (by decide) rfl rfl (Or.inl rfl) rfl ?_
      refine g_i2l (q := 120) dX7_exchange_119 rfl ?_
      refine g_iload 6 (q := 122) dX7_exchange_120 rfl rfl ?_
      refine g_lshl (q := 123) dX7_exchange_122 rfl ?_
      refine g_lor (q := 124) dX7_exchange_123 rfl ?_
      refine g_lstore (q := 126) (L' := [(0, .ref 0), (2, .int w2), (3, .int w3), (4, .int w4), (5, .long w5), (7, .long (v7 ||| (tlshl (Int32.toInt64 (f_X7_bitAt w5 (f_X7_withBit (f_X7_withBit v9 w2 (f_X7_bitAt (Int32.toInt64 v9) w3)) w3 (f_X7_bitAt (Int32.toInt64 v9) w2)))) v9))), (9, .int v9), (10, .int (f_X7_withBit (f_X7_withBit v9 w2 (f_X7_bitAt (Int32.toInt64 v9) w3)) w3 (f_X7_bitAt (Int32.toInt64 v9) w2)))]) dX7_exchange_124 rfl (by decide) rfl ?_
      refine g_iinc 6 (q := 129) (v := (v9 + 1)) (L' := [(0, .ref 0), (2, .int w2), (3, .int w3), (4, .int w4), (5, .long w5), (7, .long (v7 ||| (tlshl (Int32.toInt64 (f_X7_bitAt w5 (f_X7_withBit (f_X7_withBit v9 w2 (f_X7_bitAt (Int32.toInt64 v9) w3)) w3 (f_X7_bitAt (Int32.toInt64 v9) w2)))) v9))), (9, .int (v9 + 1)), (10, .int (f_X7_withBit (f_X7_withBit v9 w2 (f_X7_bitAt (Int32.toInt64 v9) w3)) w3 (f_X7_bitAt (Int32.toInt64 v9) w2)))]) dX7_exchange_126 rfl rfl rfl (by decide) rfl ?_
      refine g_goto (t := 65) dX7_exchange_129 (by decide) ?_
      refine g_ls [0, 1, 2, 3, 4, 5, 6] rfl ?_
      exact ih _ _ _ hf
set_option maxRecDepth 20000 in
set_option maxHeartbeats 4000000 in
theorem ev_X7_exchange {l : Launch} {E : tEn} {cr : Value} {tl : tHp} {x_hs : Int32} {s_n : Int32} {s_sp : Int64} {s_sb : Int64} {s_sc : Int32} {s_f : List Int64} {s_st : List Int32} {v_n : Int32} {v_sp : Int64} {v_sb : Int64} {v_sc : Int32} {v_f : List Int64} {v_st : List Int32} {h_k : Int32} {h_s : List Int32} {h_c : List Int64} {g_k : Int32} {g_v : Int32} {g_p : List Int32} {g_a : List Int32} {g_t : List Int32} {c_k : Int32} {c_t : List Int32} {c_p : List Int32} {i_l : Int32} {i_n : Int32} {i_f : Int64} {i_p : Int32} {i_o : Int32} {i_b : List Int32} {w_l : Int32} {w_s : List Int32} {x_e : List Int32} {x_l : List Int32} {a0 : Int32} {a1 : Int32} {a2 : Int32} {a3 : Int32} {res : Int32 × List Int64 × Int32 × List Int32 × List Int64} (hf : f_X7_exchange a0 a1 a2 a3 s_n s_f h_k h_s h_c = some res) : tEv l E yX7_exchange cX7_exchange 11 (some .int) 4 0 0 [.ref 0, .int a0, .int a1, .int a2, .int a3] (encX x_hs s_n s_sp s_sb s_sc s_f s_st v_n v_sp v_sb v_sc v_f v_st h_k h_s h_c g_k g_v g_p g_a g_t c_k c_t c_p i_l i_n i_f i_p i_o i_b w_l w_s x_e x_l cr tl) (fun r h' => r = some (.int res.1) ∧ h' = encX x_hs s_n s_sp s_sb s_sc (res.2.1) s_st v_n v_sp v_sb v_sc v_f v_st (res.2.2.1) (res.2.2.2.1) (res.2.2.2.2) g_k g_v g_p g_a g_t c_k c_t c_p i_l i_n i_f i_p i_o i_b w_l w_s x_e x_l cr tl) := by
  refine tEv.of (own := RX7) (ini := false) (L := [(0, .ref 0), (1, .int a0), (2, .int a1), (3, .int a2), (4, .int a3)]) (by decide +kernel) rfl (fun h9 => nomatch h9) rfl (Nat.le_of_ble_eq_true rfl) ?_
  rw [f_X7_exchange] at hf
  refine g_iload_n 1 (q := 1) dX7_exchange_0 rfl rfl ?_
  refine g_callS (k2 := 0) (n2 := 0) (q := 4) (as := [.int a0]) (st := []) (st1 := [.int (f_X7_isSlot a0)]) tm_X7_isSlot ml_X7_86 ts_X7_isSlot dX7_exchange_1 rfl ev_X7_isSlot rfl rfl (Nat.le_of_ble_eq_true rfl) (by decide) rfl rfl (Or.inl rfl) rfl ?_
  refine g_if_eq (t := 31) (q := 7) dX7_exchange_4 (by decide) rfl (fun c1 => ?_) (fun c1 => ?_)
  · rw [if_pos c1] at hf
    refine g_bipush (q := 33) (v := (-2)) dX7_exchange_31 rfl rfl ?_
    have hf := Option.some.inj hf
    subst hf
    exact g_ireturn dX7_exchange_33 rfl ⟨rfl, rfl⟩
  · rw [if_neg c1] at hf
    refine g_aload_n 0 (q := 8) dX7_exchange_7 rfl rfl ?_
    refine g_iload_n 2 (q := 9) dX7_exchange_8 rfl rfl ?_
    refine g_callV (a := 0) (k2 := 0) (n2 := 0) (q := 12) (as := [.int a1]) (st := []) (st1 := [.int (f_X7_isVariable a1 s_n)]) tm_X7_isVariable ml_X7_134 ti_X7_isVariable rfl rfl dX7_exchange_9 rfl ev_X7_isVariable rfl rfl (Nat.le_of_ble_eq_true rfl) (by decide) rfl rfl (Or.inl rfl) rfl ?_
    refine g_if_eq (t := 31) (q := 15) dX7_exchange_12 (by decide) rfl (fun c2 => ?_) (fun c2 => ?_)
    · rw [if_pos c2] at hf
      refine g_bipush (q := 33) (v := (-2)) dX7_exchange_31 rfl rfl ?_
      have hf := Option.some.inj hf
      subst hf
      exact g_ireturn dX7_exchange_33 rfl ⟨rfl, rfl⟩
    · rw [if_neg c2] at hf
      refine g_aload_n 0 (q := 16) dX7_exchange_15 rfl rfl ?_
      refine g_iload_n 3 (q := 17) dX7_exchange_16 rfl rfl ?_
      refine g_callV (a := 0) (k2 := 0) (n2 := 0) (q := 20) (as := [.int a2]) (st := []) (st1 := [.int (f_X7_isVariable a2 s_n)]) tm_X7_isVariable ml_X7_134 ti_X7_isVariable rfl rfl dX7_exchange_17 rfl ev_X7_isVariable rfl rfl (Nat.le_of_ble_eq_true rfl) (by decide) rfl rfl (Or.inl rfl) rfl ?_
      refine g_if_eq (t := 31) (q := 23) dX7_exchange_20 (by decide) rfl (fun c3 => ?_) (fun c3 => ?_)
      · rw [if_pos c3] at hf
        refine g_bipush (q := 33) (v := (-2)) dX7_exchange_31 rfl rfl ?_
        have hf := Option.some.inj hf
        subst hf
        exact g_ireturn dX7_exchange_33 rfl ⟨rfl, rfl⟩
      · rw [if_neg c3] at hf
        refine g_iload 4 (q := 25) dX7_exchange_23 rfl rfl ?_
        refine g_callS (k2 := 0) (n2 := 0) (q := 28) (as := [.int a3]) (st := []) (st1 := [.int (f_X7_isSlot a3)]) tm_X7_isSlot ml_X7_86 ts_X7_isSlot dX7_exchange_25 rfl ev_X7_isSlot rfl rfl (Nat.le_of_ble_eq_true rfl) (by decide) rfl rfl (Or.inl rfl) rfl ?_
        refine g_if_ne (t := 34) (q := 31) dX7_exchange_28 (by decide) rfl (fun c4 => ?_) (fun c4 => ?_)
        · rw [if_neg c4] at hf
          refine g_aload_n 0 (q := 35) dX7_exchange_34 rfl rfl ?_
          refine g_get (q := 38) fl_X7_10 dX7_exchange_35 rfl rfl rfl ?_
          refine g_iload_n 1 (q := 39) dX7_exchange_38 rfl rfl ?_
          obtain ⟨r5, e6, hf⟩ := Option.bind_eq_some_iff.mp hf
          refine g_callV (a := 1) (k2 := 0) (n2 := 0) (q := 42) (as := [.int a0]) (st := []) (st1 := [.int r5]) tm_X6_holds ml_X7_202 ti_X6_holds rfl rfl dX7_exchange_39 rfl (ev_X6_holds e6) rfl rfl (Nat.le_of_ble_eq_true rfl) (by decide) rfl rfl (Or.inl rfl) rfl ?_
          refine g_if_ne (t := 48) (q := 45) dX7_exchange_42 (by decide) rfl (fun c7 => ?_) (fun c7 => ?_)
          · rw [if_neg c7] at hf
            refine g_aload_n 0 (q := 49) dX7_exchange_48 rfl rfl ?_
            refine g_get (q := 52) fl_X7_10 dX7_exchange_49 rfl rfl rfl ?_
            refine g_get (q := 55) fl_X7_102 dX7_exchange_52 rfl rfl rfl ?_
            refine g_iload_n 1 (q := 56) dX7_exchange_55 rfl rfl ?_
            obtain ⟨r8, e9, hf⟩ := Option.bind_eq_some_iff.mp hf
            refine g_laload (q := 57) dX7_exchange_56 rfl rfl e9 ?_
            refine g_lstore (q := 59) (L' := [(0, .ref 0), (1, .int a0), (2, .int a1), (3, .int a2), (4, .int a3), (5, .long r8)]) dX7_exchange_57 rfl (by decide) rfl ?_
            refine g_lconst (q := 60) (v := 0) dX7_exchange_59 rfl rfl ?_
            refine g_lstore (q := 62) (L' := [(0, .ref 0), (1, .int a0), (2, .int a1), (3, .int a2), (4, .int a3), (5, .long r8), (7, .long 0)]) dX7_exchange_60 rfl (by decide) rfl ?_
            refine g_iconst (q := 63) (v := 0) dX7_exchange_62 rfl rfl ?_
            refine g_istore (q := 65) (L' := [(0, .ref 0), (1, .int a0), (2, .int a1), (3, .int a2), (4, .int a3), (5, .long r8), (7, .long 0), (9, .int 0)]) dX7_exchange_63 rfl (by decide) rfl ?_
            refine g_ls [0, 2, 3, 4, 5, 6, 7] rfl ?_
            refine ev_X7_exchange_L65 (fun y11 res hf => ?_) tFU _ _ res hf
            refine g_aload_n 0 (q := 133) dX7_exchange_132 rfl rfl ?_
            refine g_iload 1 (q := 135) dX7_exchange_133 rfl rfl ?_
            refine g_lload 2 (q := 137) dX7_exchange_135 rfl rfl ?_
            obtain ⟨r12, e13, hf⟩ := Option.bind_eq_some_iff.mp hf
            refine g_callV (a := 0) (k2 := 0) (n2 := 0) (q := 140) (as := [.int a3, .long y11]) (st := []) (st1 := [.int r12.1]) tm_X7_store ml_X7_94 ti_X7_store rfl rfl dX7_exchange_137 rfl (ev_X7_store e13) rfl rfl (Nat.le_of_ble_eq_true rfl) (by decide) rfl rfl (Or.inl (encX_len.trans encX_len.symm)) rfl ?_
            have hf := Option.some.inj hf
            subst hf
            exact g_ireturn dX7_exchange_140 rfl ⟨rfl, rfl⟩
          · rw [if_pos c7] at hf
            refine g_bipush (q := 47) (v := (-3)) dX7_exchange_45 rfl rfl ?_
            have hf := Option.some.inj hf
            subst hf
            exact g_ireturn dX7_exchange_47 rfl ⟨rfl, rfl⟩
        · rw [if_pos c4] at hf
          refine g_bipush (q := 33) (v := (-2)) dX7_exchange_31 rfl rfl ?_
          have hf := Option.some.inj hf
          subst hf
          exact g_ireturn dX7_exchange_33 rfl ⟨rfl, rfl⟩
def f_X7_supersets_L5 (w0 : Int32) (w1 : Int32) (K : Int64 → Option (Int64)) : Nat → Int64 → Int32 → Option (Int64)
  | 0, _, _ => none
  | fu + 1, v2, v4 => (if w0 ≤ v4 then K v2 else (if (v4 &&& w1) = w1 then f_X7_supersets_L5 w0 w1 K fu (v2 ||| (tlshl 1 v4)) (v4 + 1) else f_X7_supersets_L5 w0 w1 K fu v2 (v4 + 1)))
def f_X7_supersets (a0 : Int32) (a1 : Int32)  : Option (Int64) := f_X7_supersets_L5 a0 a1 (fun y3 => some y3) tFU 0 0
set_option maxRecDepth 20000 in
set_option maxHeartbeats 4000000 in
theorem ev_X7_supersets_L5 {l : Launch} {E : tEn}   {h : tHp} {w0 : Int32} {w1 : Int32} {K : Int64 → Option (Int64)} (hK : ∀ (v2 : Int64)  (res : Int64), K v2 = some res → tG l E RX7 cX7_supersets 5 (some .long) false 1 (fun r h' => r = some (.long res) ∧ h' = h) 0 0 32 [(2, .long v2)] [] (h)) :
    ∀ (fu : Nat) (v2 : Int64) (v4 : Int32) (res : Int64), f_X7_supersets_L5 w0 w1 K fu v2 v4 = some res → tG l E RX7 cX7_supersets 5 (some .long) false 1 (fun r h' => r = some (.long res) ∧ h' = h) 0 0 5 [(0, .int w0), (1, .int w1), (2, .long v2), (4, .int v4)] [] (h) := by
  intro fu
  induction fu with
  | zero => intro v2 v4 res hf; exact nomatch (show none = some res from hf)
  | succ fu ih =>
    intro v2 v4 res hf
    rw [f_X7_supersets_L5] at hf
    refine g_iload 3 (q := 7) dX7_supersets_5 rfl rfl ?_
    refine g_iload_n 0 (q := 8) dX7_supersets_7 rfl rfl ?_
    refine g_icmp_ge (t := 32) (q := 11) dX7_supersets_8 (by decide) rfl (fun c1 => ?_) (fun c1 => ?_)
    · rw [if_pos c1] at hf
      refine g_ls [2] rfl ?_
      exact hK _ _ hf
    · rw [if_neg c1] at hf
      refine g_iload 3 (q := 13) dX7_supersets_11 rfl rfl ?_
      refine g_iload_n 1 (q := 14) dX7_supersets_13 rfl rfl ?_
      refine g_iand (q := 15) dX7_supersets_14 rfl ?_
      refine g_iload_n 1 (q := 16) dX7_supersets_15 rfl rfl ?_
      refine g_icmp_ne (t := 26) (q := 19) dX7_supersets_16 (by decide) rfl (fun c2 => ?_) (fun c2 => ?_)
      · rw [if_neg c2] at hf
        refine g_iinc 3 (q := 29) (v := (v4 + 1)) (L' := [(0, .int w0), (1, .int w1), (2, .long v2), (4, .int (v4 + 1))]) dX7_supersets_26 rfl rfl rfl (by decide) rfl ?_
        refine g_goto (t := 5) dX7_supersets_29 (by decide) ?_
        refine g_ls [0, 1, 2, 3] rfl ?_
        exact ih _ _ _ hf
      · rw [if_pos c2] at hf
        refine g_lload_n 2 (q := 20) dX7_supersets_19 rfl rfl ?_
        refine g_lconst (q := 21) (v := 1) dX7_supersets_20 rfl rfl ?_
        refine g_iload 3 (q := 23) dX7_supersets_21 rfl rfl ?_
        refine g_lshl (q := 24) dX7_supersets_23 rfl ?_
        refine g_lor (q := 25) dX7_supersets_24 rfl ?_
        refine g_lstore_n (q := 26) (L' := [(0, .int w0), (1, .int w1), (2, .long (v2 ||| (tlshl 1 v4))), (4, .int v4)]) dX7_supersets_25 rfl (by decide) rfl ?_
        refine g_iinc 3 (q := 29) (v := (v4 + 1)) (L' := [(0, .int w0), (1, .int w1), (2, .long (v2 ||| (tlshl 1 v4))), (4, .int (v4 + 1))]) dX7_supersets_26 rfl rfl rfl (by decide) rfl ?_
        refine g_goto (t := 5) dX7_supersets_29 (by decide) ?_
        refine g_ls [0, 1, 2, 3] rfl ?_
        exact ih _ _ _ hf
set_option maxRecDepth 20000 in
set_option maxHeartbeats 4000000 in
theorem ev_X7_supersets {l : Launch} {E : tEn}  {h : tHp} {a0 : Int32} {a1 : Int32} {res : Int64} (hf : f_X7_supersets a0 a1 = some res) : tEv l E yX7_supersets cX7_supersets 5 (some .long) 1 0 0 [.int a0, .int a1] (h) (fun r h' => r = some (.long res) ∧ h' = h) := by
  refine tEv.of (own := RX7) (ini := false) (L := [(0, .int a0), (1, .int a1)]) (by decide +kernel) rfl (fun h9 => nomatch h9) rfl (Nat.le_of_ble_eq_true rfl) ?_
  rw [f_X7_supersets] at hf
  refine g_lconst (q := 1) (v := 0) dX7_supersets_0 rfl rfl ?_
  refine g_lstore_n (q := 2) (L' := [(0, .int a0), (1, .int a1), (2, .long 0)]) dX7_supersets_1 rfl (by decide) rfl ?_
  refine g_iconst (q := 3) (v := 0) dX7_supersets_2 rfl rfl ?_
  refine g_istore (q := 5) (L' := [(0, .int a0), (1, .int a1), (2, .long 0), (4, .int 0)]) dX7_supersets_3 rfl (by decide) rfl ?_
  refine g_ls [0, 1, 2, 3] rfl ?_
  refine ev_X7_supersets_L5 (fun y3 res hf => ?_) tFU _ _ res hf
  refine g_lload_n 0 (q := 33) dX7_supersets_32 rfl rfl ?_
  have hf := Option.some.inj hf
  subst hf
  exact g_lreturn dX7_supersets_33 rfl ⟨rfl, rfl⟩
def f_X7_drawnTable_L20 (w2 : Int32) (w3 : Int32) (K : Int64 → Option (Int64)) : Nat → Int32 → Int64 → Int32 → Option (Int64)
  | 0, _, _, _ => none
  | fu + 1, v4, v5, v7 => (if w2 ≤ v7 then K v5 else (f_X7_supersets w3 ((tiushr ((v4 * 1103515245) + 12345) 16) &&& (w3 - 1))).bind fun r2 => f_X7_drawnTable_L20 w2 w3 K fu ((v4 * 1103515245) + 12345) (v5 ||| r2) (v7 + 1))
def f_X7_drawnTable (a0 : Int32) (a1 : Int32) (s_n : Int32) : Option (Int64) := f_X7_drawnTable_L20 a1 (f_X7_pointCount s_n) (fun y4 => some y4) tFU a0 0 0
set_option maxRecDepth 20000 in
set_option maxHeartbeats 4000000 in
theorem ev_X7_drawnTable_L20 {l : Launch} {E : tEn} {cr : Value} {tl : tHp}  {x_hs : Int32} {s_n : Int32} {s_sp : Int64} {s_sb : Int64} {s_sc : Int32} {s_f : List Int64} {s_st : List Int32} {v_n : Int32} {v_sp : Int64} {v_sb : Int64} {v_sc : Int32} {v_f : List Int64} {v_st : List Int32} {h_k : Int32} {h_s : List Int32} {h_c : List Int64} {g_k : Int32} {g_v : Int32} {g_p : List Int32} {g_a : List Int32} {g_t : List Int32} {c_k : Int32} {c_t : List Int32} {c_p : List Int32} {i_l : Int32} {i_n : Int32} {i_f : Int64} {i_p : Int32} {i_o : Int32} {i_b : List Int32} {w_l : Int32} {w_s : List Int32} {x_e : List Int32} {x_l : List Int32} {w2 : Int32} {w3 : Int32} {K : Int64 → Option (Int64)} (hK : ∀ (v5 : Int64)  (res : Int64), K v5 = some res → tG l E RX7 cX7_drawnTable 8 (some .long) false 2 (fun r h' => r = some (.long res) ∧ h' = encX x_hs s_n s_sp s_sb s_sc s_f s_st v_n v_sp v_sb v_sc v_f v_st h_k h_s h_c g_k g_v g_p g_a g_t c_k c_t c_p i_l i_n i_f i_p i_o i_b w_l w_s x_e x_l cr tl) 0 0 62 [(5, .long v5)] [] (encX x_hs s_n s_sp s_sb s_sc s_f s_st v_n v_sp v_sb v_sc v_f v_st h_k h_s h_c g_k g_v g_p g_a g_t c_k c_t c_p i_l i_n i_f i_p i_o i_b w_l w_s x_e x_l cr tl)) :
    ∀ (fu : Nat) (v4 : Int32) (v5 : Int64) (v7 : Int32) (res : Int64), f_X7_drawnTable_L20 w2 w3 K fu v4 v5 v7 = some res → tG l E RX7 cX7_drawnTable 8 (some .long) false 2 (fun r h' => r = some (.long res) ∧ h' = encX x_hs s_n s_sp s_sb s_sc s_f s_st v_n v_sp v_sb v_sc v_f v_st h_k h_s h_c g_k g_v g_p g_a g_t c_k c_t c_p i_l i_n i_f i_p i_o i_b w_l w_s x_e x_l cr tl) 0 0 20 [(2, .int w2), (3, .int w3), (4, .int v4), (5, .long v5), (7, .int v7)] [] (encX x_hs s_n s_sp s_sb s_sc s_f s_st v_n v_sp v_sb v_sc v_f v_st h_k h_s h_c g_k g_v g_p g_a g_t c_k c_t c_p i_l i_n i_f i_p i_o i_b w_l w_s x_e x_l cr tl) := by
  intro fu
  induction fu with
  | zero => intro v4 v5 v7 res hf; exact nomatch (show none = some res from hf)
  | succ fu ih =>
    intro v4 v5 v7 res hf
    rw [f_X7_drawnTable_L20] at hf
    refine g_iload 4 (q := 22) dX7_drawnTable_20 rfl rfl ?_
    refine g_iload_n 0 (q := 23) dX7_drawnTable_22 rfl rfl ?_
    refine g_icmp_ge (t := 62) (q := 26) dX7_drawnTable_23 (by decide) rfl (fun c1 => ?_) (fun c1 => ?_)
    · rw [if_pos c1] at hf
      refine g_ls [3] rfl ?_
      exact hK _ _ hf
    · rw [if_neg c1] at hf
      refine g_iload 2 (q := 28) dX7_drawnTable_26 rfl rfl ?_
      refine g_ldc_w (q := 31) kc_X7_311 dX7_drawnTable_28 rfl ?_
      refine g_imul (q := 32) dX7_drawnTable_31 rfl ?_
      refine g_sipush (q := 35) (v := 12345) dX7_drawnTable_32 rfl rfl ?_
      refine g_iadd (q := 36) dX7_drawnTable_35 rfl ?_
      refine g_istore (q := 38) (L' := [(2, .int w2), (3, .int w3), (4, .int ((v4 * 1103515245) + 12345)), (5, .long v5), (7, .int v7)]) dX7_drawnTable_36 rfl (by decide) rfl ?_
      refine g_lload 3 (q := 40) dX7_drawnTable_38 rfl rfl ?_
      refine g_iload_n 1 (q := 41) dX7_drawnTable_40 rfl rfl ?_
      refine g_iload 2 (q := 43) dX7_drawnTable_41 rfl rfl ?_
      refine g_bipush (q := 45) (v := 16) dX7_drawnTable_43 rfl rfl ?_
      refine g_iushr (q := 46) dX7_drawnTable_45 rfl ?_
      refine g_iload_n 1 (q := 47) dX7_drawnTable_46 rfl rfl ?_
      refine g_iconst (q := 48) (v := 1) dX7_drawnTable_47 rfl rfl ?_
      refine g_isub (q := 49) dX7_drawnTable_48 rfl ?_
      refine g_iand (q := 50) dX7_drawnTable_49 rfl ?_
      obtain ⟨r2, e3, hf⟩ := Option.bind_eq_some_iff.mp hf
      refine g_callS (k2 := 0) (n2 := 0) (q := 53) (as := [.int w3, .int ((tiushr ((v4 * 1103515245) + 12345) 16) &&& (w3 - 1))]) (st := [.long v5]) (st1 := [.long r2, .long v5]) tm_X7_supersets ml_X7_312 ts_X7_supersets dX7_drawnTable_50 rfl (ev_X7_supersets e3) rfl rfl (Nat.le_of_ble_eq_true rfl) (by decide) rfl rfl (Or.inl rfl) rfl ?_
      refine g_lor (q := 54) dX7_drawnTable_53 rfl ?_
      refine g_lstore (q := 56) (L' := [(2, .int w2), (3, .int w3), (4, .int ((v4 * 1103515245) + 12345)), (5, .long (v5 ||| r2)), (7, .int v7)]) dX7_drawnTable_54 rfl (by decide) rfl ?_
      refine g_iinc 4 (q := 59) (v := (v7 + 1)) (L' := [(2, .int w2), (3, .int w3), (4, .int ((v4 * 1103515245) + 12345)), (5, .long (v5 ||| r2)), (7, .int (v7 + 1))]) dX7_drawnTable_56 rfl rfl rfl (by decide) rfl ?_
      refine g_goto (t := 20) dX7_drawnTable_59 (by decide) ?_
      refine g_ls [0, 1, 2, 3, 4] rfl ?_
      exact ih _ _ _ _ hf
set_option maxRecDepth 20000 in
set_option maxHeartbeats 4000000 in
theorem ev_X7_drawnTable {l : Launch} {E : tEn} {cr : Value} {tl : tHp} {x_hs : Int32} {s_n : Int32} {s_sp : Int64} {s_sb : Int64} {s_sc : Int32} {s_f : List Int64} {s_st : List Int32} {v_n : Int32} {v_sp : Int64} {v_sb : Int64} {v_sc : Int32} {v_f : List Int64} {v_st : List Int32} {h_k : Int32} {h_s : List Int32} {h_c : List Int64} {g_k : Int32} {g_v : Int32} {g_p : List Int32} {g_a : List Int32} {g_t : List Int32} {c_k : Int32} {c_t : List Int32} {c_p : List Int32} {i_l : Int32} {i_n : Int32} {i_f : Int64} {i_p : Int32} {i_o : Int32} {i_b : List Int32} {w_l : Int32} {w_s : List Int32} {x_e : List Int32} {x_l : List Int32} {a0 : Int32} {a1 : Int32} {res : Int64} (hf : f_X7_drawnTable a0 a1 s_n = some res) : tEv l E yX7_drawnTable cX7_drawnTable 8 (some .long) 2 0 0 [.ref 0, .int a0, .int a1] (encX x_hs s_n s_sp s_sb s_sc s_f s_st v_n v_sp v_sb v_sc v_f v_st h_k h_s h_c g_k g_v g_p g_a g_t c_k c_t c_p i_l i_n i_f i_p i_o i_b w_l w_s x_e x_l cr tl) (fun r h' => r = some (.long res) ∧ h' = encX x_hs s_n s_sp s_sb s_sc s_f s_st v_n v_sp v_sb v_sc v_f v_st h_k h_s h_c g_k g_v g_p g_a g_t c_k c_t c_p i_l i_n i_f i_p i_o i_b w_l w_s x_e x_l cr tl) := by
  refine tEv.of (own := RX7) (ini := false) (L := [(0, .ref 0), (1, .int a0), (2, .int a1)]) (by decide +kernel) rfl (fun h9 => nomatch h9) rfl (Nat.le_of_ble_eq_true rfl) ?_
  rw [f_X7_drawnTable] at hf
  refine g_aload_n 0 (q := 1) dX7_drawnTable_0 rfl rfl ?_
  refine g_get (q := 4) fl_X7_10 dX7_drawnTable_1 rfl rfl rfl ?_
  refine g_get (q := 7) fl_X7_75 dX7_drawnTable_4 rfl rfl rfl ?_
  refine g_callS (k2 := 0) (n2 := 0) (q := 10) (as := [.int s_n]) (st := []) (st1 := [.int (f_X7_pointCount s_n)]) tm_X7_pointCount ml_X7_209 ts_X7_pointCount dX7_drawnTable_7 rfl ev_X7_pointCount rfl rfl (Nat.le_of_ble_eq_true rfl) (by decide) rfl rfl (Or.inl rfl) rfl ?_
  refine g_istore_n (q := 11) (L' := [(0, .ref 0), (1, .int a0), (2, .int a1), (3, .int (f_X7_pointCount s_n))]) dX7_drawnTable_10 rfl (by decide) rfl ?_
  refine g_iload_n 1 (q := 12) dX7_drawnTable_11 rfl rfl ?_
  refine g_istore (q := 14) (L' := [(0, .ref 0), (1, .int a0), (2, .int a1), (3, .int (f_X7_pointCount s_n)), (4, .int a0)]) dX7_drawnTable_12 rfl (by decide) rfl ?_
  refine g_lconst (q := 15) (v := 0) dX7_drawnTable_14 rfl rfl ?_
  refine g_lstore (q := 17) (L' := [(0, .ref 0), (1, .int a0), (2, .int a1), (3, .int (f_X7_pointCount s_n)), (4, .int a0), (5, .long 0)]) dX7_drawnTable_15 rfl (by decide) rfl ?_
  refine g_iconst (q := 18) (v := 0) dX7_drawnTable_17 rfl rfl ?_
  refine g_istore (q := 20) (L' := [(0, .ref 0), (1, .int a0), (2, .int a1), (3, .int (f_X7_pointCount s_n)), (4, .int a0), (5, .long 0), (7, .int 0)]) dX7_drawnTable_18 rfl (by decide) rfl ?_
  refine g_ls [2, 3, 4, 5, 6] rfl ?_
  refine ev_X7_drawnTable_L20 (fun y4 res hf => ?_) tFU _ _ _ res hf
  refine g_lload 0 (q := 64) dX7_drawnTable_62 rfl rfl ?_
  have hf := Option.some.inj hf
  subst hf
  exact g_lreturn dX7_drawnTable_64 rfl ⟨rfl, rfl⟩
def f_X7_random (a0 : Int32) (a1 : Int32) (a2 : Int32) (s_n : Int32) (s_f : List Int64) (h_k : Int32) (h_s : List Int32) (h_c : List Int64) : Option (Int32 × List Int64 × Int32 × List Int32 × List Int64) := (if (f_X7_isIndex a1 13) = 0 then some ((-2), s_f, h_k, h_s, h_c) else (if (f_X7_isSlot a2) = 0 then some ((-2), s_f, h_k, h_s, h_c) else (f_X7_drawnTable a0 a1 s_n).bind fun r3 => (f_X7_store a2 r3 s_f h_k h_s h_c).bind fun r5 => some (r5.1, r5.2.1, r5.2.2.1, r5.2.2.2.1, r5.2.2.2.2)))
set_option maxRecDepth 20000 in
set_option maxHeartbeats 4000000 in
theorem ev_X7_random {l : Launch} {E : tEn} {cr : Value} {tl : tHp} {x_hs : Int32} {s_n : Int32} {s_sp : Int64} {s_sb : Int64} {s_sc : Int32} {s_f : List Int64} {s_st : List Int32} {v_n : Int32} {v_sp : Int64} {v_sb : Int64} {v_sc : Int32} {v_f : List Int64} {v_st : List Int32} {h_k : Int32} {h_s : List Int32} {h_c : List Int64} {g_k : Int32} {g_v : Int32} {g_p : List Int32} {g_a : List Int32} {g_t : List Int32} {c_k : Int32} {c_t : List Int32} {c_p : List Int32} {i_l : Int32} {i_n : Int32} {i_f : Int64} {i_p : Int32} {i_o : Int32} {i_b : List Int32} {w_l : Int32} {w_s : List Int32} {x_e : List Int32} {x_l : List Int32} {a0 : Int32} {a1 : Int32} {a2 : Int32} {res : Int32 × List Int64 × Int32 × List Int32 × List Int64} (hf : f_X7_random a0 a1 a2 s_n s_f h_k h_s h_c = some res) : tEv l E yX7_random cX7_random 4 (some .int) 4 0 0 [.ref 0, .int a0, .int a1, .int a2] (encX x_hs s_n s_sp s_sb s_sc s_f s_st v_n v_sp v_sb v_sc v_f v_st h_k h_s h_c g_k g_v g_p g_a g_t c_k c_t c_p i_l i_n i_f i_p i_o i_b w_l w_s x_e x_l cr tl) (fun r h' => r = some (.int res.1) ∧ h' = encX x_hs s_n s_sp s_sb s_sc (res.2.1) s_st v_n v_sp v_sb v_sc v_f v_st (res.2.2.1) (res.2.2.2.1) (res.2.2.2.2) g_k g_v g_p g_a g_t c_k c_t c_p i_l i_n i_f i_p i_o i_b w_l w_s x_e x_l cr tl) := by
  refine tEv.of (own := RX7) (ini := false) (L := [(0, .ref 0), (1, .int a0), (2, .int a1), (3, .int a2)]) (by decide +kernel) rfl (fun h9 => nomatch h9) rfl (Nat.le_of_ble_eq_true rfl) ?_
  rw [f_X7_random] at hf
  refine g_iload_n 2 (q := 1) dX7_random_0 rfl rfl ?_
  refine g_bipush (q := 3) (v := 13) dX7_random_1 rfl rfl ?_
  refine g_callS (k2 := 0) (n2 := 0) (q := 6) (as := [.int a1, .int 13]) (st := []) (st1 := [.int (f_X7_isIndex a1 13)]) tm_X7_isIndex ml_X7_140 ts_X7_isIndex dX7_random_3 rfl ev_X7_isIndex rfl rfl (Nat.le_of_ble_eq_true rfl) (by decide) rfl rfl (Or.inl rfl) rfl ?_
  refine g_if_eq (t := 16) (q := 9) dX7_random_6 (by decide) rfl (fun c1 => ?_) (fun c1 => ?_)
  · rw [if_pos c1] at hf
    refine g_bipush (q := 18) (v := (-2)) dX7_random_16 rfl rfl ?_
    have hf := Option.some.inj hf
    subst hf
    exact g_ireturn dX7_random_18 rfl ⟨rfl, rfl⟩
  · rw [if_neg c1] at hf
    refine g_iload_n 3 (q := 10) dX7_random_9 rfl rfl ?_
    refine g_callS (k2 := 0) (n2 := 0) (q := 13) (as := [.int a2]) (st := []) (st1 := [.int (f_X7_isSlot a2)]) tm_X7_isSlot ml_X7_86 ts_X7_isSlot dX7_random_10 rfl ev_X7_isSlot rfl rfl (Nat.le_of_ble_eq_true rfl) (by decide) rfl rfl (Or.inl rfl) rfl ?_
    refine g_if_ne (t := 19) (q := 16) dX7_random_13 (by decide) rfl (fun c2 => ?_) (fun c2 => ?_)
    · rw [if_neg c2] at hf
      refine g_aload_n 0 (q := 20) dX7_random_19 rfl rfl ?_
      refine g_iload_n 3 (q := 21) dX7_random_20 rfl rfl ?_
      refine g_aload_n 0 (q := 22) dX7_random_21 rfl rfl ?_
      refine g_iload_n 1 (q := 23) dX7_random_22 rfl rfl ?_
      refine g_iload_n 2 (q := 24) dX7_random_23 rfl rfl ?_
      obtain ⟨r3, e4, hf⟩ := Option.bind_eq_some_iff.mp hf
      refine g_callV (a := 0) (k2 := 0) (n2 := 0) (q := 27) (as := [.int a0, .int a1]) (st := [.int a2, .ref 0]) (st1 := [.long r3, .int a2, .ref 0]) tm_X7_drawnTable ml_X7_223 ti_X7_drawnTable rfl rfl dX7_random_24 rfl (ev_X7_drawnTable e4) rfl rfl (Nat.le_of_ble_eq_true rfl) (by decide) rfl rfl (Or.inl rfl) rfl ?_
      obtain ⟨r5, e6, hf⟩ := Option.bind_eq_some_iff.mp hf
      refine g_callV (a := 0) (k2 := 0) (n2 := 0) (q := 30) (as := [.int a2, .long r3]) (st := []) (st1 := [.int r5.1]) tm_X7_store ml_X7_94 ti_X7_store rfl rfl dX7_random_27 rfl (ev_X7_store e6) rfl rfl (Nat.le_of_ble_eq_true rfl) (by decide) rfl rfl (Or.inl (encX_len.trans encX_len.symm)) rfl ?_
      have hf := Option.some.inj hf
      subst hf
      exact g_ireturn dX7_random_30 rfl ⟨rfl, rfl⟩
    · rw [if_pos c2] at hf
      refine g_bipush (q := 18) (v := (-2)) dX7_random_16 rfl rfl ?_
      have hf := Option.some.inj hf
      subst hf
      exact g_ireturn dX7_random_18 rfl ⟨rfl, rfl⟩
def f_X7_readOnceTrials_L29 (w1 : Int32) (w2 : Int32) (w3 : Int32) (s_n : Int32) (K : Int32 → Int32 → Int32 → List Int32 → List Int32 → List Int32 → Option (Int32 × Int32 × Int32 × List Int32 × List Int32 × List Int32)) : Nat → Int32 → Int32 → Int32 → Int32 → List Int32 → List Int32 → List Int32 → Option (Int32 × Int32 × Int32 × List Int32 × List Int32 × List Int32)
  | 0, _, _, _, _, _, _, _ => none
  | fu + 1, v4, v5, g_k, g_v, g_p, g_a, g_t => (if w3 ≤ v5 then K v4 g_k g_v g_p g_a g_t else (f_X7_drawnTable (w1 + v5) w2 s_n).bind fun r5 => (f_X7_whyNotReadOnce r5 s_n g_k g_v g_p g_a g_t).bind fun r7 => (if r7.1 = 0 then f_X7_readOnceTrials_L29 w1 w2 w3 s_n K fu (v4 + 1) (v5 + 1) (r7.2.1) (r7.2.2.1) (r7.2.2.2.1) (r7.2.2.2.2.1) (r7.2.2.2.2.2) else f_X7_readOnceTrials_L29 w1 w2 w3 s_n K fu v4 (v5 + 1) (r7.2.1) (r7.2.2.1) (r7.2.2.2.1) (r7.2.2.2.2.1) (r7.2.2.2.2.2)))
def f_X7_readOnceTrials (a0 : Int32) (a1 : Int32) (a2 : Int32) (s_n : Int32) (g_k : Int32) (g_v : Int32) (g_p : List Int32) (g_a : List Int32) (g_t : List Int32) : Option (Int32 × Int32 × Int32 × List Int32 × List Int32 × List Int32) := (if (f_X7_isIndex a1 13) = 0 then some ((-2), g_k, g_v, g_p, g_a, g_t) else (if a2 < 1 then some ((-2), g_k, g_v, g_p, g_a, g_t) else (if a2 ≤ 30 then f_X7_readOnceTrials_L29 a0 a1 a2 s_n (fun y10 k11 k12 k13 k14 k15 => some (y10, k11, k12, k13, k14, k15)) tFU 0 0 g_k g_v g_p g_a g_t else some ((-2), g_k, g_v, g_p, g_a, g_t))))
set_option maxRecDepth 20000 in
set_option maxHeartbeats 4000000 in
theorem ev_X7_readOnceTrials_L29 {l : Launch} {E : tEn} {cr : Value} {tl : tHp}  {x_hs : Int32} {s_n : Int32} {s_sp : Int64} {s_sb : Int64} {s_sc : Int32} {s_f : List Int64} {s_st : List Int32} {v_n : Int32} {v_sp : Int64} {v_sb : Int64} {v_sc : Int32} {v_f : List Int64} {v_st : List Int32} {h_k : Int32} {h_s : List Int32} {h_c : List Int64} {c_k : Int32} {c_t : List Int32} {c_p : List Int32} {i_l : Int32} {i_n : Int32} {i_f : Int64} {i_p : Int32} {i_o : Int32} {i_b : List Int32} {w_l : Int32} {w_s : List Int32} {x_e : List Int32} {x_l : List Int32} {w1 : Int32} {w2 : Int32} {w3 : Int32} {K : Int32 → Int32 → Int32 → List Int32 → List Int32 → List Int32 → Option (Int32 × Int32 × Int32 × List Int32 × List Int32 × List Int32)} (hK : ∀ (v4 : Int32) (g_k : Int32) (g_v : Int32) (g_p : List Int32) (g_a : List Int32) (g_t : List Int32) (res : Int32 × Int32 × Int32 × List Int32 × List Int32 × List Int32), K v4 g_k g_v g_p g_a g_t = some res → tG l E RX7 cX7_readOnceTrials 6 (some .int) false 6 (fun r h' => r = some (.int res.1) ∧ h' = encX x_hs s_n s_sp s_sb s_sc s_f s_st v_n v_sp v_sb v_sc v_f v_st h_k h_s h_c (res.2.1) (res.2.2.1) (res.2.2.2.1) (res.2.2.2.2.1) (res.2.2.2.2.2) c_k c_t c_p i_l i_n i_f i_p i_o i_b w_l w_s x_e x_l cr tl) 0 0 60 [(4, .int v4)] [] (encX x_hs s_n s_sp s_sb s_sc s_f s_st v_n v_sp v_sb v_sc v_f v_st h_k h_s h_c g_k g_v g_p g_a g_t c_k c_t c_p i_l i_n i_f i_p i_o i_b w_l w_s x_e x_l cr tl)) :
    ∀ (fu : Nat) (v4 : Int32) (v5 : Int32) (g_k : Int32) (g_v : Int32) (g_p : List Int32) (g_a : List Int32) (g_t : List Int32) (res : Int32 × Int32 × Int32 × List Int32 × List Int32 × List Int32), f_X7_readOnceTrials_L29 w1 w2 w3 s_n K fu v4 v5 g_k g_v g_p g_a g_t = some res → tG l E RX7 cX7_readOnceTrials 6 (some .int) false 6 (fun r h' => r = some (.int res.1) ∧ h' = encX x_hs s_n s_sp s_sb s_sc s_f s_st v_n v_sp v_sb v_sc v_f v_st h_k h_s h_c (res.2.1) (res.2.2.1) (res.2.2.2.1) (res.2.2.2.2.1) (res.2.2.2.2.2) c_k c_t c_p i_l i_n i_f i_p i_o i_b w_l w_s x_e x_l cr tl) 0 0 29 [(0, .ref 0), (1, .int w1), (2, .int w2), (3, .int w3), (4, .int v4), (5, .int v5)] [] (encX x_hs s_n s_sp s_sb s_sc s_f s_st v_n v_sp v_sb v_sc v_f v_st h_k h_s h_c g_k g_v g_p g_a g_t c_k c_t c_p i_l i_n i_f i_p i_o i_b w_l w_s x_e x_l cr tl) := by
  intro fu
  induction fu with
  | zero => intro v4 v5 g_k g_v g_p g_a g_t res hf; exact nomatch (show none = some res from hf)
  | succ fu ih =>
    intro v4 v5 g_k g_v g_p g_a g_t res hf
    rw [f_X7_readOnceTrials_L29] at hf
    refine g_iload 5 (q := 31) dX7_readOnceTrials_29 rfl rfl ?_
    refine g_iload_n 3 (q := 32) dX7_readOnceTrials_31 rfl rfl ?_
    refine g_icmp_ge (t := 60) (q := 35) dX7_readOnceTrials_32 (by decide) rfl (fun c4 => ?_) (fun c4 => ?_)
    · rw [if_pos c4] at hf
      refine g_ls [4] rfl ?_
      exact hK _ _ _ _ _ _ _ hf
    · rw [if_neg c4] at hf
      refine g_aload_n 0 (q := 36) dX7_readOnceTrials_35 rfl rfl ?_
      refine g_aload_n 0 (q := 37) dX7_readOnceTrials_36 rfl rfl ?_
      refine g_iload_n 1 (q := 38) dX7_readOnceTrials_37 rfl rfl ?_
      refine g_iload 5 (q := 40) dX7_readOnceTrials_38 rfl rfl ?_
      refine g_iadd (q := 41) dX7_readOnceTrials_40 rfl ?_
      refine g_iload_n 2 (q := 42) dX7_readOnceTrials_41 rfl rfl ?_
      obtain ⟨r5, e6, hf⟩ := Option.bind_eq_some_iff.mp hf
      refine g_callV (a := 0) (k2 := 0) (n2 := 0) (q := 45) (as := [.int (w1 + v5), .int w2]) (st := [.ref 0]) (st1 := [.long r5, .ref 0]) tm_X7_drawnTable ml_X7_223 ti_X7_drawnTable rfl rfl dX7_readOnceTrials_42 rfl (ev_X7_drawnTable e6) rfl rfl (Nat.le_of_ble_eq_true rfl) (by decide) rfl rfl (Or.inl rfl) rfl ?_
      obtain ⟨r7, e8, hf⟩ := Option.bind_eq_some_iff.mp hf
      refine g_callV (a := 0) (k2 := 0) (n2 := 0) (q := 48) (as := [.long r5]) (st := []) (st1 := [.int r7.1]) tm_X7_whyNotReadOnce ml_X7_154 ti_X7_whyNotReadOnce rfl rfl dX7_readOnceTrials_45 rfl (ev_X7_whyNotReadOnce e8) rfl rfl (Nat.le_of_ble_eq_true rfl) (by decide) rfl rfl (Or.inl (encX_len.trans encX_len.symm)) rfl ?_
      refine g_if_ne (t := 54) (q := 51) dX7_readOnceTrials_48 (by decide) rfl (fun c9 => ?_) (fun c9 => ?_)
      · rw [if_neg c9] at hf
        refine g_iinc 5 (q := 57) (v := (v5 + 1)) (L' := [(0, .ref 0), (1, .int w1), (2, .int w2), (3, .int w3), (4, .int v4), (5, .int (v5 + 1))]) dX7_readOnceTrials_54 rfl rfl rfl (by decide) rfl ?_
        refine g_goto (t := 29) dX7_readOnceTrials_57 (by decide) ?_
        refine g_ls [0, 1, 2, 3, 4, 5] rfl ?_
        exact ih _ _ _ _ _ _ _ _ hf
      · rw [if_pos c9] at hf
        refine g_iinc 4 (q := 54) (v := (v4 + 1)) (L' := [(0, .ref 0), (1, .int w1), (2, .int w2), (3, .int w3), (4, .int (v4 + 1)), (5, .int v5)]) dX7_readOnceTrials_51 rfl rfl rfl (by decide) rfl ?_
        refine g_iinc 5 (q := 57) (v := (v5 + 1)) (L' := [(0, .ref 0), (1, .int w1), (2, .int w2), (3, .int w3), (4, .int (v4 + 1)), (5, .int (v5 + 1))]) dX7_readOnceTrials_54 rfl rfl rfl (by decide) rfl ?_
        refine g_goto (t := 29) dX7_readOnceTrials_57 (by decide) ?_
        refine g_ls [0, 1, 2, 3, 4, 5] rfl ?_
        exact ih _ _ _ _ _ _ _ _ hf
set_option maxRecDepth 20000 in
set_option maxHeartbeats 4000000 in
theorem ev_X7_readOnceTrials {l : Launch} {E : tEn} {cr : Value} {tl : tHp} {x_hs : Int32} {s_n : Int32} {s_sp : Int64} {s_sb : Int64} {s_sc : Int32} {s_f : List Int64} {s_st : List Int32} {v_n : Int32} {v_sp : Int64} {v_sb : Int64} {v_sc : Int32} {v_f : List Int64} {v_st : List Int32} {h_k : Int32} {h_s : List Int32} {h_c : List Int64} {g_k : Int32} {g_v : Int32} {g_p : List Int32} {g_a : List Int32} {g_t : List Int32} {c_k : Int32} {c_t : List Int32} {c_p : List Int32} {i_l : Int32} {i_n : Int32} {i_f : Int64} {i_p : Int32} {i_o : Int32} {i_b : List Int32} {w_l : Int32} {w_s : List Int32} {x_e : List Int32} {x_l : List Int32} {a0 : Int32} {a1 : Int32} {a2 : Int32} {res : Int32 × Int32 × Int32 × List Int32 × List Int32 × List Int32} (hf : f_X7_readOnceTrials a0 a1 a2 s_n g_k g_v g_p g_a g_t = some res) : tEv l E yX7_readOnceTrials cX7_readOnceTrials 6 (some .int) 6 0 0 [.ref 0, .int a0, .int a1, .int a2] (encX x_hs s_n s_sp s_sb s_sc s_f s_st v_n v_sp v_sb v_sc v_f v_st h_k h_s h_c g_k g_v g_p g_a g_t c_k c_t c_p i_l i_n i_f i_p i_o i_b w_l w_s x_e x_l cr tl) (fun r h' => r = some (.int res.1) ∧ h' = encX x_hs s_n s_sp s_sb s_sc s_f s_st v_n v_sp v_sb v_sc v_f v_st h_k h_s h_c (res.2.1) (res.2.2.1) (res.2.2.2.1) (res.2.2.2.2.1) (res.2.2.2.2.2) c_k c_t c_p i_l i_n i_f i_p i_o i_b w_l w_s x_e x_l cr tl) := by
  refine tEv.of (own := RX7) (ini := false) (L := [(0, .ref 0), (1, .int a0), (2, .int a1), (3, .int a2)]) (by decide +kernel) rfl (fun h9 => nomatch h9) rfl (Nat.le_of_ble_eq_true rfl) ?_
  rw [f_X7_readOnceTrials] at hf
  refine g_iload_n 2 (q := 1) dX7_readOnceTrials_0 rfl rfl ?_
  refine g_bipush (q := 3) (v := 13) dX7_readOnceTrials_1 rfl rfl ?_
  refine g_callS (k2 := 0) (n2 := 0) (q := 6) (as := [.int a1, .int 13]) (st := []) (st1 := [.int (f_X7_isIndex a1 13)]) tm_X7_isIndex ml_X7_140 ts_X7_isIndex dX7_readOnceTrials_3 rfl ev_X7_isIndex rfl rfl (Nat.le_of_ble_eq_true rfl) (by decide) rfl rfl (Or.inl rfl) rfl ?_
  refine g_if_eq (t := 20) (q := 9) dX7_readOnceTrials_6 (by decide) rfl (fun c1 => ?_) (fun c1 => ?_)
  · rw [if_pos c1] at hf
    refine g_bipush (q := 22) (v := (-2)) dX7_readOnceTrials_20 rfl rfl ?_
    have hf := Option.some.inj hf
    subst hf
    exact g_ireturn dX7_readOnceTrials_22 rfl ⟨rfl, rfl⟩
  · rw [if_neg c1] at hf
    refine g_iload_n 3 (q := 10) dX7_readOnceTrials_9 rfl rfl ?_
    refine g_iconst (q := 11) (v := 1) dX7_readOnceTrials_10 rfl rfl ?_
    refine g_icmp_lt (t := 20) (q := 14) dX7_readOnceTrials_11 (by decide) rfl (fun c2 => ?_) (fun c2 => ?_)
    · rw [if_pos c2] at hf
      refine g_bipush (q := 22) (v := (-2)) dX7_readOnceTrials_20 rfl rfl ?_
      have hf := Option.some.inj hf
      subst hf
      exact g_ireturn dX7_readOnceTrials_22 rfl ⟨rfl, rfl⟩
    · rw [if_neg c2] at hf
      refine g_iload_n 3 (q := 15) dX7_readOnceTrials_14 rfl rfl ?_
      refine g_bipush (q := 17) (v := 30) dX7_readOnceTrials_15 rfl rfl ?_
      refine g_icmp_le (t := 23) (q := 20) dX7_readOnceTrials_17 (by decide) rfl (fun c3 => ?_) (fun c3 => ?_)
      · rw [if_pos c3] at hf
        refine g_iconst (q := 24) (v := 0) dX7_readOnceTrials_23 rfl rfl ?_
        refine g_istore (q := 26) (L' := [(0, .ref 0), (1, .int a0), (2, .int a1), (3, .int a2), (4, .int 0)]) dX7_readOnceTrials_24 rfl (by decide) rfl ?_
        refine g_iconst (q := 27) (v := 0) dX7_readOnceTrials_26 rfl rfl ?_
        refine g_istore (q := 29) (L' := [(0, .ref 0), (1, .int a0), (2, .int a1), (3, .int a2), (4, .int 0), (5, .int 0)]) dX7_readOnceTrials_27 rfl (by decide) rfl ?_
        refine g_ls [0, 1, 2, 3, 4, 5] rfl ?_
        refine ev_X7_readOnceTrials_L29 (fun y10 k11 k12 k13 k14 k15 res hf => ?_) tFU _ _ _ _ _ _ _ res hf
        refine g_iload 0 (q := 62) dX7_readOnceTrials_60 rfl rfl ?_
        have hf := Option.some.inj hf
        subst hf
        exact g_ireturn dX7_readOnceTrials_62 rfl ⟨rfl, rfl⟩
      · rw [if_neg c3] at hf
        refine g_bipush (q := 22) (v := (-2)) dX7_readOnceTrials_20 rfl rfl ?_
        have hf := Option.some.inj hf
        subst hf
        exact g_ireturn dX7_readOnceTrials_22 rfl ⟨rfl, rfl⟩
def f_X7_addSample (a0 : Int32) (a1 : Int32) (s_n : Int32) (s_sp : Int64) (s_sb : Int64) : Int32 × Int64 × Int64 := (if (f_X7_isPoint a0 s_n) = 0 then ((-2), s_sp, s_sb) else (if (f_X7_isBit a1) = 0 then ((-2), s_sp, s_sb) else ((f_J13_bitCount_95d88 (s_sp ||| (tlshl 1 a0))), (s_sp ||| (tlshl 1 a0)), ((s_sb &&& ((tlshl 1 a0) ^^^ (-1))) ||| (tlshl (Int32.toInt64 a1) a0)))))
set_option maxRecDepth 20000 in
set_option maxHeartbeats 4000000 in
theorem ev_X7_addSample {l : Launch} {E : tEn} {cr : Value} {tl : tHp} {x_hs : Int32} {s_n : Int32} {s_sp : Int64} {s_sb : Int64} {s_sc : Int32} {s_f : List Int64} {s_st : List Int32} {v_n : Int32} {v_sp : Int64} {v_sb : Int64} {v_sc : Int32} {v_f : List Int64} {v_st : List Int32} {h_k : Int32} {h_s : List Int32} {h_c : List Int64} {g_k : Int32} {g_v : Int32} {g_p : List Int32} {g_a : List Int32} {g_t : List Int32} {c_k : Int32} {c_t : List Int32} {c_p : List Int32} {i_l : Int32} {i_n : Int32} {i_f : Int64} {i_p : Int32} {i_o : Int32} {i_b : List Int32} {w_l : Int32} {w_s : List Int32} {x_e : List Int32} {x_l : List Int32} {a0 : Int32} {a1 : Int32} : tEv l E yX7_addSample cX7_addSample 3 (some .int) 3 0 0 [.ref 0, .int a0, .int a1] (encX x_hs s_n s_sp s_sb s_sc s_f s_st v_n v_sp v_sb v_sc v_f v_st h_k h_s h_c g_k g_v g_p g_a g_t c_k c_t c_p i_l i_n i_f i_p i_o i_b w_l w_s x_e x_l cr tl) (fun r h' => r = some (.int (f_X7_addSample a0 a1 s_n s_sp s_sb).1) ∧ h' = encX x_hs s_n ((f_X7_addSample a0 a1 s_n s_sp s_sb).2.1) ((f_X7_addSample a0 a1 s_n s_sp s_sb).2.2) s_sc s_f s_st v_n v_sp v_sb v_sc v_f v_st h_k h_s h_c g_k g_v g_p g_a g_t c_k c_t c_p i_l i_n i_f i_p i_o i_b w_l w_s x_e x_l cr tl) := by
  refine tEv.of (own := RX7) (ini := false) (L := [(0, .ref 0), (1, .int a0), (2, .int a1)]) (by decide +kernel) rfl (fun h9 => nomatch h9) rfl (Nat.le_of_ble_eq_true rfl) ?_
  obtain ⟨res, hf⟩ : ∃ z, f_X7_addSample a0 a1 s_n s_sp s_sb = z := ⟨_, rfl⟩
  rw [hf]
  rw [f_X7_addSample] at hf
  refine g_aload_n 0 (q := 1) dX7_addSample_0 rfl rfl ?_
  refine g_iload_n 1 (q := 2) dX7_addSample_1 rfl rfl ?_
  refine g_callV (a := 0) (k2 := 0) (n2 := 0) (q := 5) (as := [.int a0]) (st := []) (st1 := [.int (f_X7_isPoint a0 s_n)]) tm_X7_isPoint ml_X7_112 ti_X7_isPoint rfl rfl dX7_addSample_2 rfl ev_X7_isPoint rfl rfl (Nat.le_of_ble_eq_true rfl) (by decide) rfl rfl (Or.inl rfl) rfl ?_
  refine g_if_eq (t := 15) (q := 8) dX7_addSample_5 (by decide) rfl (fun c1 => ?_) (fun c1 => ?_)
  · rw [if_pos c1] at hf
    refine g_bipush (q := 17) (v := (-2)) dX7_addSample_15 rfl rfl ?_
    subst hf
    exact g_ireturn dX7_addSample_17 rfl ⟨rfl, rfl⟩
  · rw [if_neg c1] at hf
    refine g_iload_n 2 (q := 9) dX7_addSample_8 rfl rfl ?_
    refine g_callS (k2 := 0) (n2 := 0) (q := 12) (as := [.int a1]) (st := []) (st1 := [.int (f_X7_isBit a1)]) tm_X7_isBit ml_X7_212 ts_X7_isBit dX7_addSample_9 rfl ev_X7_isBit rfl rfl (Nat.le_of_ble_eq_true rfl) (by decide) rfl rfl (Or.inl rfl) rfl ?_
    refine g_if_ne (t := 18) (q := 15) dX7_addSample_12 (by decide) rfl (fun c2 => ?_) (fun c2 => ?_)
    · rw [if_neg c2] at hf
      refine g_aload_n 0 (q := 19) dX7_addSample_18 rfl rfl ?_
      refine g_get (q := 22) fl_X7_10 dX7_addSample_19 rfl rfl rfl ?_
      refine g_dup (q := 23) dX7_addSample_22 rfl rfl ?_
      refine g_get (q := 26) fl_X7_227 dX7_addSample_23 rfl rfl rfl ?_
      refine g_lconst (q := 27) (v := 1) dX7_addSample_26 rfl rfl ?_
      refine g_iload_n 1 (q := 28) dX7_addSample_27 rfl rfl ?_
      refine g_lshl (q := 29) dX7_addSample_28 rfl ?_
      refine g_lor (q := 30) dX7_addSample_29 rfl ?_
      refine g_put (q := 33) (h' := encX x_hs s_n (s_sp ||| (tlshl 1 a0)) s_sb s_sc s_f s_st v_n v_sp v_sb v_sc v_f v_st h_k h_s h_c g_k g_v g_p g_a g_t c_k c_t c_p i_l i_n i_f i_p i_o i_b w_l w_s x_e x_l cr tl) fp_X7_227 dX7_addSample_30 rfl rfl (Nat.le_of_ble_eq_true rfl) (fun _ => ⟨rfl, rfl⟩) rfl ?_
      refine g_aload_n 0 (q := 34) dX7_addSample_33 rfl rfl ?_
      refine g_get (q := 37) fl_X7_10 dX7_addSample_34 rfl rfl rfl ?_
      refine g_dup (q := 38) dX7_addSample_37 rfl rfl ?_
      refine g_get (q := 41) fl_X7_231 dX7_addSample_38 rfl rfl rfl ?_
      refine g_lconst (q := 42) (v := 1) dX7_addSample_41 rfl rfl ?_
      refine g_iload_n 1 (q := 43) dX7_addSample_42 rfl rfl ?_
      refine g_lshl (q := 44) dX7_addSample_43 rfl ?_
      refine g_ldc2_w (q := 47) kc_X7_106 dX7_addSample_44 rfl ?_
      refine g_lxor (q := 48) dX7_addSample_47 rfl ?_
      refine g_land (q := 49) dX7_addSample_48 rfl ?_
      refine g_put (q := 52) (h' := encX x_hs s_n (s_sp ||| (tlshl 1 a0)) (s_sb &&& ((tlshl 1 a0) ^^^ (-1))) s_sc s_f s_st v_n v_sp v_sb v_sc v_f v_st h_k h_s h_c g_k g_v g_p g_a g_t c_k c_t c_p i_l i_n i_f i_p i_o i_b w_l w_s x_e x_l cr tl) fp_X7_231 dX7_addSample_49 rfl rfl (Nat.le_of_ble_eq_true rfl) (fun _ => ⟨rfl, rfl⟩) rfl ?_
      refine g_aload_n 0 (q := 53) dX7_addSample_52 rfl rfl ?_
      refine g_get (q := 56) fl_X7_10 dX7_addSample_53 rfl rfl rfl ?_
      refine g_dup (q := 57) dX7_addSample_56 rfl rfl ?_
      refine g_get (q := 60) fl_X7_231 dX7_addSample_57 rfl rfl rfl ?_
      refine g_iload_n 2 (q := 61) dX7_addSample_60 rfl rfl ?_
      refine g_i2l (q := 62) dX7_addSample_61 rfl ?_
      refine g_iload_n 1 (q := 63) dX7_addSample_62 rfl rfl ?_
      refine g_lshl (q := 64) dX7_addSample_63 rfl ?_
      refine g_lor (q := 65) dX7_addSample_64 rfl ?_
      refine g_put (q := 68) (h' := encX x_hs s_n (s_sp ||| (tlshl 1 a0)) ((s_sb &&& ((tlshl 1 a0) ^^^ (-1))) ||| (tlshl (Int32.toInt64 a1) a0)) s_sc s_f s_st v_n v_sp v_sb v_sc v_f v_st h_k h_s h_c g_k g_v g_p g_a g_t c_k c_t c_p i_l i_n i_f i_p i_o i_b w_l w_s x_e x_l cr tl) fp_X7_231 dX7_addSample_65 rfl rfl (Nat.le_of_ble_eq_true rfl) (fun _ => ⟨rfl, rfl⟩) rfl ?_
      refine g_aload_n 0 (q := 69) dX7_addSample_68 rfl rfl ?_
      refine g_get (q := 72) fl_X7_10 dX7_addSample_69 rfl rfl rfl ?_
      refine g_get (q := 75) fl_X7_227 dX7_addSample_72 rfl rfl rfl ?_
      refine g_callS (k2 := 0) (n2 := 0) (q := 78) (as := [.long (s_sp ||| (tlshl 1 a0))]) (st := []) (st1 := [.int (f_J13_bitCount_95d88 (s_sp ||| (tlshl 1 a0)))]) tm_J13_bitCount_95d88 ml_X7_234 ts_J13_bitCount_95d88 dX7_addSample_75 rfl ev_J13_bitCount_95d88 rfl rfl (Nat.le_of_ble_eq_true rfl) (by decide) rfl rfl (Or.inl rfl) rfl ?_
      subst hf
      exact g_ireturn dX7_addSample_78 rfl ⟨rfl, rfl⟩
    · rw [if_pos c2] at hf
      refine g_bipush (q := 17) (v := (-2)) dX7_addSample_15 rfl rfl ?_
      subst hf
      exact g_ireturn dX7_addSample_17 rfl ⟨rfl, rfl⟩
def f_X7_removeSample (a0 : Int32) (s_n : Int32) (s_sp : Int64) (s_sb : Int64) : Int32 × Int64 × Int64 := (if (f_X7_isPoint a0 s_n) = 0 then ((-2), s_sp, s_sb) else (if (f_X7_bitAt s_sp a0) = 0 then ((-1), s_sp, s_sb) else ((f_J13_bitCount_95d88 (s_sp &&& ((tlshl 1 a0) ^^^ (-1)))), (s_sp &&& ((tlshl 1 a0) ^^^ (-1))), (s_sb &&& ((tlshl 1 a0) ^^^ (-1))))))
set_option maxRecDepth 20000 in
set_option maxHeartbeats 4000000 in
theorem ev_X7_removeSample {l : Launch} {E : tEn} {cr : Value} {tl : tHp} {x_hs : Int32} {s_n : Int32} {s_sp : Int64} {s_sb : Int64} {s_sc : Int32} {s_f : List Int64} {s_st : List Int32} {v_n : Int32} {v_sp : Int64} {v_sb : Int64} {v_sc : Int32} {v_f : List Int64} {v_st : List Int32} {h_k : Int32} {h_s : List Int32} {h_c : List Int64} {g_k : Int32} {g_v : Int32} {g_p : List Int32} {g_a : List Int32} {g_t : List Int32} {c_k : Int32} {c_t : List Int32} {c_p : List Int32} {i_l : Int32} {i_n : Int32} {i_f : Int64} {i_p : Int32} {i_o : Int32} {i_b : List Int32} {w_l : Int32} {w_s : List Int32} {x_e : List Int32} {x_l : List Int32} {a0 : Int32} : tEv l E yX7_removeSample cX7_removeSample 2 (some .int) 3 0 0 [.ref 0, .int a0] (encX x_hs s_n s_sp s_sb s_sc s_f s_st v_n v_sp v_sb v_sc v_f v_st h_k h_s h_c g_k g_v g_p g_a g_t c_k c_t c_p i_l i_n i_f i_p i_o i_b w_l w_s x_e x_l cr tl) (fun r h' => r = some (.int (f_X7_removeSample a0 s_n s_sp s_sb).1) ∧ h' = encX x_hs s_n ((f_X7_removeSample a0 s_n s_sp s_sb).2.1) ((f_X7_removeSample a0 s_n s_sp s_sb).2.2) s_sc s_f s_st v_n v_sp v_sb v_sc v_f v_st h_k h_s h_c g_k g_v g_p g_a g_t c_k c_t c_p i_l i_n i_f i_p i_o i_b w_l w_s x_e x_l cr tl) := by
  refine tEv.of (own := RX7) (ini := false) (L := [(0, .ref 0), (1, .int a0)]) (by decide +kernel) rfl (fun h9 => nomatch h9) rfl (Nat.le_of_ble_eq_true rfl) ?_
  obtain ⟨res, hf⟩ : ∃ z, f_X7_removeSample a0 s_n s_sp s_sb = z := ⟨_, rfl⟩
  rw [hf]
  rw [f_X7_removeSample] at hf
  refine g_aload_n 0 (q := 1) dX7_removeSample_0 rfl rfl ?_
  refine g_iload_n 1 (q := 2) dX7_removeSample_1 rfl rfl ?_
  refine g_callV (a := 0) (k2 := 0) (n2 := 0) (q := 5) (as := [.int a0]) (st := []) (st1 := [.int (f_X7_isPoint a0 s_n)]) tm_X7_isPoint ml_X7_112 ti_X7_isPoint rfl rfl dX7_removeSample_2 rfl ev_X7_isPoint rfl rfl (Nat.le_of_ble_eq_true rfl) (by decide) rfl rfl (Or.inl rfl) rfl ?_
  refine g_if_ne (t := 11) (q := 8) dX7_removeSample_5 (by decide) rfl (fun c1 => ?_) (fun c1 => ?_)
  · rw [if_neg c1] at hf
    refine g_aload_n 0 (q := 12) dX7_removeSample_11 rfl rfl ?_
    refine g_get (q := 15) fl_X7_10 dX7_removeSample_12 rfl rfl rfl ?_
    refine g_get (q := 18) fl_X7_227 dX7_removeSample_15 rfl rfl rfl ?_
    refine g_iload_n 1 (q := 19) dX7_removeSample_18 rfl rfl ?_
    refine g_callS (k2 := 0) (n2 := 0) (q := 22) (as := [.long s_sp, .int a0]) (st := []) (st1 := [.int (f_X7_bitAt s_sp a0)]) tm_X7_bitAt ml_X7_115 ts_X7_bitAt dX7_removeSample_19 rfl ev_X7_bitAt rfl rfl (Nat.le_of_ble_eq_true rfl) (by decide) rfl rfl (Or.inl rfl) rfl ?_
    refine g_if_ne (t := 27) (q := 25) dX7_removeSample_22 (by decide) rfl (fun c2 => ?_) (fun c2 => ?_)
    · rw [if_neg c2] at hf
      refine g_aload_n 0 (q := 28) dX7_removeSample_27 rfl rfl ?_
      refine g_get (q := 31) fl_X7_10 dX7_removeSample_28 rfl rfl rfl ?_
      refine g_dup (q := 32) dX7_removeSample_31 rfl rfl ?_
      refine g_get (q := 35) fl_X7_227 dX7_removeSample_32 rfl rfl rfl ?_
      refine g_lconst (q := 36) (v := 1) dX7_removeSample_35 rfl rfl ?_
      refine g_iload_n 1 (q := 37) dX7_removeSample_36 rfl rfl ?_
      refine g_lshl (q := 38) dX7_removeSample_37 rfl ?_
      refine g_ldc2_w (q := 41) kc_X7_106 dX7_removeSample_38 rfl ?_
      refine g_lxor (q := 42) dX7_removeSample_41 rfl ?_
      refine g_land (q := 43) dX7_removeSample_42 rfl ?_
      refine g_put (q := 46) (h' := encX x_hs s_n (s_sp &&& ((tlshl 1 a0) ^^^ (-1))) s_sb s_sc s_f s_st v_n v_sp v_sb v_sc v_f v_st h_k h_s h_c g_k g_v g_p g_a g_t c_k c_t c_p i_l i_n i_f i_p i_o i_b w_l w_s x_e x_l cr tl) fp_X7_227 dX7_removeSample_43 rfl rfl (Nat.le_of_ble_eq_true rfl) (fun _ => ⟨rfl, rfl⟩) rfl ?_
      refine g_aload_n 0 (q := 47) dX7_removeSample_46 rfl rfl ?_
      refine g_get (q := 50) fl_X7_10 dX7_removeSample_47 rfl rfl rfl ?_
      refine g_dup (q := 51) dX7_removeSample_50 rfl rfl ?_
      refine g_get (q := 54) fl_X7_231 dX7_removeSample_51 rfl rfl rfl ?_
      refine g_lconst (q := 55) (v := 1) dX7_removeSample_54 rfl rfl ?_
      refine g_iload_n 1 (q := 56) dX7_removeSample_55 rfl rfl ?_
      refine g_lshl (q := 57) dX7_removeSample_56 rfl ?_
      refine g_ldc2_w (q := 60) kc_X7_106 dX7_removeSample_57 rfl ?_
      refine g_lxor (q := 61) dX7_removeSample_60 rfl ?_
      refine g_land (q := 62) dX7_removeSample_61 rfl ?_
      refine g_put (q := 65) (h' := encX x_hs s_n (s_sp &&& ((tlshl 1 a0) ^^^ (-1))) (s_sb &&& ((tlshl 1 a0) ^^^ (-1))) s_sc s_f s_st v_n v_sp v_sb v_sc v_f v_st h_k h_s h_c g_k g_v g_p g_a g_t c_k c_t c_p i_l i_n i_f i_p i_o i_b w_l w_s x_e x_l cr tl) fp_X7_231 dX7_removeSample_62 rfl rfl (Nat.le_of_ble_eq_true rfl) (fun _ => ⟨rfl, rfl⟩) rfl ?_
      refine g_aload_n 0 (q := 66) dX7_removeSample_65 rfl rfl ?_
      refine g_get (q := 69) fl_X7_10 dX7_removeSample_66 rfl rfl rfl ?_
      refine g_get (q := 72) fl_X7_227 dX7_removeSample_69 rfl rfl rfl ?_
      refine g_callS (k2 := 0) (n2 := 0) (q := 75) (as := [.long (s_sp &&& ((tlshl 1 a0) ^^^ (-1)))]) (st := []) (st1 := [.int (f_J13_bitCount_95d88 (s_sp &&& ((tlshl 1 a0) ^^^ (-1))))]) tm_J13_bitCount_95d88 ml_X7_234 ts_J13_bitCount_95d88 dX7_removeSample_72 rfl ev_J13_bitCount_95d88 rfl rfl (Nat.le_of_ble_eq_true rfl) (by decide) rfl rfl (Or.inl rfl) rfl ?_
      subst hf
      exact g_ireturn dX7_removeSample_75 rfl ⟨rfl, rfl⟩
    · rw [if_pos c2] at hf
      refine g_iconst (q := 26) (v := (-1)) dX7_removeSample_25 rfl rfl ?_
      subst hf
      exact g_ireturn dX7_removeSample_26 rfl ⟨rfl, rfl⟩
  · rw [if_pos c1] at hf
    refine g_bipush (q := 10) (v := (-2)) dX7_removeSample_8 rfl rfl ?_
    subst hf
    exact g_ireturn dX7_removeSample_10 rfl ⟨rfl, rfl⟩
def f_X6_appendStep (a0 : Int32) (a1 : Int32) (a2 : Int32) (a3 : Int32) (s_sc : Int32) (s_st : List Int32) : Option (Int32 × List Int32) := (if 8 ≤ s_sc then some (s_sc, s_st) else (tst s_st (s_sc * 4) a0).bind fun z2 => (tst z2 ((s_sc * 4) + 1) a1).bind fun z4 => (tst z4 ((s_sc * 4) + 2) a2).bind fun z6 => (tst z6 ((s_sc * 4) + 3) a3).bind fun z8 => some ((s_sc + 1), z8))
set_option maxRecDepth 20000 in
set_option maxHeartbeats 4000000 in
theorem ev_X6_appendStep {l : Launch} {E : tEn} {cr : Value} {tl : tHp} {x_hs : Int32} {s_n : Int32} {s_sp : Int64} {s_sb : Int64} {s_sc : Int32} {s_f : List Int64} {s_st : List Int32} {v_n : Int32} {v_sp : Int64} {v_sb : Int64} {v_sc : Int32} {v_f : List Int64} {v_st : List Int32} {h_k : Int32} {h_s : List Int32} {h_c : List Int64} {g_k : Int32} {g_v : Int32} {g_p : List Int32} {g_a : List Int32} {g_t : List Int32} {c_k : Int32} {c_t : List Int32} {c_p : List Int32} {i_l : Int32} {i_n : Int32} {i_f : Int64} {i_p : Int32} {i_o : Int32} {i_b : List Int32} {w_l : Int32} {w_s : List Int32} {x_e : List Int32} {x_l : List Int32} {a0 : Int32} {a1 : Int32} {a2 : Int32} {a3 : Int32} {res : Int32 × List Int32} (hf : f_X6_appendStep a0 a1 a2 a3 s_sc s_st = some res) : tEv l E yX6_appendStep cX6_appendStep 6 none 1 0 0 [.ref 1, .int a0, .int a1, .int a2, .int a3] (encX x_hs s_n s_sp s_sb s_sc s_f s_st v_n v_sp v_sb v_sc v_f v_st h_k h_s h_c g_k g_v g_p g_a g_t c_k c_t c_p i_l i_n i_f i_p i_o i_b w_l w_s x_e x_l cr tl) (fun r h' => r = none ∧ h' = encX x_hs s_n s_sp s_sb (res.1) s_f (res.2) v_n v_sp v_sb v_sc v_f v_st h_k h_s h_c g_k g_v g_p g_a g_t c_k c_t c_p i_l i_n i_f i_p i_o i_b w_l w_s x_e x_l cr tl) := by
  refine tEv.of (own := RX6) (ini := false) (L := [(0, .ref 1), (1, .int a0), (2, .int a1), (3, .int a2), (4, .int a3)]) (by decide +kernel) rfl (fun h9 => nomatch h9) rfl (Nat.le_of_ble_eq_true rfl) ?_
  rw [f_X6_appendStep] at hf
  refine g_aload_n 0 (q := 1) dX6_appendStep_0 rfl rfl ?_
  refine g_get (q := 4) fl_X6_30 dX6_appendStep_1 rfl rfl rfl ?_
  refine g_bipush (q := 6) (v := 8) dX6_appendStep_4 rfl rfl ?_
  refine g_icmp_ge (t := 66) (q := 9) dX6_appendStep_6 (by decide) rfl (fun c1 => ?_) (fun c1 => ?_)
  · rw [if_pos c1] at hf
    have hf := Option.some.inj hf
    subst hf
    exact g_return dX6_appendStep_66 rfl ⟨rfl, rfl⟩
  · rw [if_neg c1] at hf
    refine g_aload_n 0 (q := 10) dX6_appendStep_9 rfl rfl ?_
    refine g_get (q := 13) fl_X6_30 dX6_appendStep_10 rfl rfl rfl ?_
    refine g_iconst (q := 14) (v := 4) dX6_appendStep_13 rfl rfl ?_
    refine g_imul (q := 15) dX6_appendStep_14 rfl ?_
    refine g_istore (q := 17) (L' := [(0, .ref 1), (1, .int a0), (2, .int a1), (3, .int a2), (4, .int a3), (5, .int (s_sc * 4))]) dX6_appendStep_15 rfl (by decide) rfl ?_
    refine g_aload_n 0 (q := 18) dX6_appendStep_17 rfl rfl ?_
    refine g_get (q := 21) fl_X6_26 dX6_appendStep_18 rfl rfl rfl ?_
    refine g_iload 5 (q := 23) dX6_appendStep_21 rfl rfl ?_
    refine g_iload_n 1 (q := 24) dX6_appendStep_23 rfl rfl ?_
    obtain ⟨z2, e3, hf⟩ := Option.bind_eq_some_iff.mp hf
    refine g_iastore (q := 25) (h' := encX x_hs s_n s_sp s_sb s_sc s_f z2 v_n v_sp v_sb v_sc v_f v_st h_k h_s h_c g_k g_v g_p g_a g_t c_k c_t c_p i_l i_n i_f i_p i_o i_b w_l w_s x_e x_l cr tl) dX6_appendStep_24 rfl rfl e3 rfl ?_
    refine g_aload_n 0 (q := 26) dX6_appendStep_25 rfl rfl ?_
    refine g_get (q := 29) fl_X6_26 dX6_appendStep_26 rfl rfl rfl ?_
    refine g_iload 5 (q := 31) dX6_appendStep_29 rfl rfl ?_
    refine g_iconst (q := 32) (v := 1) dX6_appendStep_31 rfl rfl ?_
    refine g_iadd (q := 33) dX6_appendStep_32 rfl ?_
    refine g_iload_n 2 (q := 34) dX6_appendStep_33 rfl rfl ?_
    obtain ⟨z4, e5, hf⟩ := Option.bind_eq_some_iff.mp hf
    refine g_iastore (q := 35) (h' := encX x_hs s_n s_sp s_sb s_sc s_f z4 v_n v_sp v_sb v_sc v_f v_st h_k h_s h_c g_k g_v g_p g_a g_t c_k c_t c_p i_l i_n i_f i_p i_o i_b w_l w_s x_e x_l cr tl) dX6_appendStep_34 rfl rfl e5 rfl ?_
    refine g_aload_n 0 (q := 36) dX6_appendStep_35 rfl rfl ?_
    refine g_get (q := 39) fl_X6_26 dX6_appendStep_36 rfl rfl rfl ?_
    refine g_iload 5 (q := 41) dX6_appendStep_39 rfl rfl ?_
    refine g_iconst (q := 42) (v := 2) dX6_appendStep_41 rfl rfl ?_
    refine g_iadd (q := 43) dX6_appendStep_42 rfl ?_
    refine g_iload_n 3 (q := 44) dX6_appendStep_43 rfl rfl ?_
    obtain ⟨z6, e7, hf⟩ := Option.bind_eq_some_iff.mp hf
    refine g_iastore (q := 45) (h' := encX x_hs s_n s_sp s_sb s_sc s_f z6 v_n v_sp v_sb v_sc v_f v_st h_k h_s h_c g_k g_v g_p g_a g_t c_k c_t c_p i_l i_n i_f i_p i_o i_b w_l w_s x_e x_l cr tl) dX6_appendStep_44 rfl rfl e7 rfl ?_
    refine g_aload_n 0 (q := 46) dX6_appendStep_45 rfl rfl ?_
    refine g_get (q := 49) fl_X6_26 dX6_appendStep_46 rfl rfl rfl ?_
    refine g_iload 5 (q := 51) dX6_appendStep_49 rfl rfl ?_
    refine g_iconst (q := 52) (v := 3) dX6_appendStep_51 rfl rfl ?_
    refine g_iadd (q := 53) dX6_appendStep_52 rfl ?_
    refine g_iload 4 (q := 55) dX6_appendStep_53 rfl rfl ?_
    obtain ⟨z8, e9, hf⟩ := Option.bind_eq_some_iff.mp hf
    refine g_iastore (q := 56) (h' := encX x_hs s_n s_sp s_sb s_sc s_f z8 v_n v_sp v_sb v_sc v_f v_st h_k h_s h_c g_k g_v g_p g_a g_t c_k c_t c_p i_l i_n i_f i_p i_o i_b w_l w_s x_e x_l cr tl) dX6_appendStep_55 rfl rfl e9 rfl ?_
    refine g_aload_n 0 (q := 57) dX6_appendStep_56 rfl rfl ?_
    refine g_dup (q := 58) dX6_appendStep_57 rfl rfl ?_
    refine g_get (q := 61) fl_X6_30 dX6_appendStep_58 rfl rfl rfl ?_
    refine g_iconst (q := 62) (v := 1) dX6_appendStep_61 rfl rfl ?_
    refine g_iadd (q := 63) dX6_appendStep_62 rfl ?_
    refine g_put (q := 66) (h' := encX x_hs s_n s_sp s_sb (s_sc + 1) s_f z8 v_n v_sp v_sb v_sc v_f v_st h_k h_s h_c g_k g_v g_p g_a g_t c_k c_t c_p i_l i_n i_f i_p i_o i_b w_l w_s x_e x_l cr tl) fp_X6_30 dX6_appendStep_63 rfl rfl (Nat.le_of_ble_eq_true rfl) (fun _ => ⟨rfl, rfl⟩) rfl ?_
    have hf := Option.some.inj hf
    subst hf
    exact g_return dX6_appendStep_66 rfl ⟨rfl, rfl⟩
def f_X7_addStep (a0 : Int32) (a1 : Int32) (a2 : Int32) (a3 : Int32) (s_sc : Int32) (s_st : List Int32) : Option (Int32 × Int32 × List Int32) := (if (f_X7_isIndex a0 6) = 0 then some ((-2), s_sc, s_st) else (if s_sc < 8 then (f_X6_appendStep a0 a1 a2 a3 s_sc s_st).bind fun r3 => some ((r3.1), r3.1, r3.2) else some ((-6), s_sc, s_st)))
set_option maxRecDepth 20000 in
set_option maxHeartbeats 4000000 in
theorem ev_X7_addStep {l : Launch} {E : tEn} {cr : Value} {tl : tHp} {x_hs : Int32} {s_n : Int32} {s_sp : Int64} {s_sb : Int64} {s_sc : Int32} {s_f : List Int64} {s_st : List Int32} {v_n : Int32} {v_sp : Int64} {v_sb : Int64} {v_sc : Int32} {v_f : List Int64} {v_st : List Int32} {h_k : Int32} {h_s : List Int32} {h_c : List Int64} {g_k : Int32} {g_v : Int32} {g_p : List Int32} {g_a : List Int32} {g_t : List Int32} {c_k : Int32} {c_t : List Int32} {c_p : List Int32} {i_l : Int32} {i_n : Int32} {i_f : Int64} {i_p : Int32} {i_o : Int32} {i_b : List Int32} {w_l : Int32} {w_s : List Int32} {x_e : List Int32} {x_l : List Int32} {a0 : Int32} {a1 : Int32} {a2 : Int32} {a3 : Int32} {res : Int32 × Int32 × List Int32} (hf : f_X7_addStep a0 a1 a2 a3 s_sc s_st = some res) : tEv l E yX7_addStep cX7_addStep 5 (some .int) 2 0 0 [.ref 0, .int a0, .int a1, .int a2, .int a3] (encX x_hs s_n s_sp s_sb s_sc s_f s_st v_n v_sp v_sb v_sc v_f v_st h_k h_s h_c g_k g_v g_p g_a g_t c_k c_t c_p i_l i_n i_f i_p i_o i_b w_l w_s x_e x_l cr tl) (fun r h' => r = some (.int res.1) ∧ h' = encX x_hs s_n s_sp s_sb (res.2.1) s_f (res.2.2) v_n v_sp v_sb v_sc v_f v_st h_k h_s h_c g_k g_v g_p g_a g_t c_k c_t c_p i_l i_n i_f i_p i_o i_b w_l w_s x_e x_l cr tl) := by
  refine tEv.of (own := RX7) (ini := false) (L := [(0, .ref 0), (1, .int a0), (2, .int a1), (3, .int a2), (4, .int a3)]) (by decide +kernel) rfl (fun h9 => nomatch h9) rfl (Nat.le_of_ble_eq_true rfl) ?_
  rw [f_X7_addStep] at hf
  refine g_iload_n 1 (q := 1) dX7_addStep_0 rfl rfl ?_
  refine g_bipush (q := 3) (v := 6) dX7_addStep_1 rfl rfl ?_
  refine g_callS (k2 := 0) (n2 := 0) (q := 6) (as := [.int a0, .int 6]) (st := []) (st1 := [.int (f_X7_isIndex a0 6)]) tm_X7_isIndex ml_X7_140 ts_X7_isIndex dX7_addStep_3 rfl ev_X7_isIndex rfl rfl (Nat.le_of_ble_eq_true rfl) (by decide) rfl rfl (Or.inl rfl) rfl ?_
  refine g_if_ne (t := 12) (q := 9) dX7_addStep_6 (by decide) rfl (fun c1 => ?_) (fun c1 => ?_)
  · rw [if_neg c1] at hf
    refine g_aload_n 0 (q := 13) dX7_addStep_12 rfl rfl ?_
    refine g_get (q := 16) fl_X7_10 dX7_addStep_13 rfl rfl rfl ?_
    refine g_get (q := 19) fl_X7_260 dX7_addStep_16 rfl rfl rfl ?_
    refine g_bipush (q := 21) (v := 8) dX7_addStep_19 rfl rfl ?_
    refine g_icmp_lt (t := 27) (q := 24) dX7_addStep_21 (by decide) rfl (fun c2 => ?_) (fun c2 => ?_)
    · rw [if_pos c2] at hf
      refine g_aload_n 0 (q := 28) dX7_addStep_27 rfl rfl ?_
      refine g_get (q := 31) fl_X7_10 dX7_addStep_28 rfl rfl rfl ?_
      refine g_iload_n 1 (q := 32) dX7_addStep_31 rfl rfl ?_
      refine g_iload_n 2 (q := 33) dX7_addStep_32 rfl rfl ?_
      refine g_iload_n 3 (q := 34) dX7_addStep_33 rfl rfl ?_
      refine g_iload 4 (q := 36) dX7_addStep_34 rfl rfl ?_
      obtain ⟨r3, e4, hf⟩ := Option.bind_eq_some_iff.mp hf
      refine g_callV (a := 1) (k2 := 0) (n2 := 0) (q := 39) (as := [.int a0, .int a1, .int a2, .int a3]) (st := []) (st1 := []) tm_X6_appendStep ml_X7_263 ti_X6_appendStep rfl rfl dX7_addStep_36 rfl (ev_X6_appendStep e4) rfl rfl (Nat.le_of_ble_eq_true rfl) (by decide) rfl rfl (Or.inl (encX_len.trans encX_len.symm)) rfl ?_
      refine g_aload_n 0 (q := 40) dX7_addStep_39 rfl rfl ?_
      refine g_get (q := 43) fl_X7_10 dX7_addStep_40 rfl rfl rfl ?_
      refine g_get (q := 46) fl_X7_260 dX7_addStep_43 rfl rfl rfl ?_
      have hf := Option.some.inj hf
      subst hf
      exact g_ireturn dX7_addStep_46 rfl ⟨rfl, rfl⟩
    · rw [if_neg c2] at hf
      refine g_bipush (q := 26) (v := (-6)) dX7_addStep_24 rfl rfl ?_
      have hf := Option.some.inj hf
      subst hf
      exact g_ireturn dX7_addStep_26 rfl ⟨rfl, rfl⟩
  · rw [if_pos c1] at hf
    refine g_bipush (q := 11) (v := (-2)) dX7_addStep_9 rfl rfl ?_
    have hf := Option.some.inj hf
    subst hf
    exact g_ireturn dX7_addStep_11 rfl ⟨rfl, rfl⟩
def f_X7_clearSteps  (s_sc : Int32) : Int32 × Int32 := (s_sc, 0)
set_option maxRecDepth 20000 in
set_option maxHeartbeats 4000000 in
theorem ev_X7_clearSteps {l : Launch} {E : tEn} {cr : Value} {tl : tHp} {x_hs : Int32} {s_n : Int32} {s_sp : Int64} {s_sb : Int64} {s_sc : Int32} {s_f : List Int64} {s_st : List Int32} {v_n : Int32} {v_sp : Int64} {v_sb : Int64} {v_sc : Int32} {v_f : List Int64} {v_st : List Int32} {h_k : Int32} {h_s : List Int32} {h_c : List Int64} {g_k : Int32} {g_v : Int32} {g_p : List Int32} {g_a : List Int32} {g_t : List Int32} {c_k : Int32} {c_t : List Int32} {c_p : List Int32} {i_l : Int32} {i_n : Int32} {i_f : Int64} {i_p : Int32} {i_o : Int32} {i_b : List Int32} {w_l : Int32} {w_s : List Int32} {x_e : List Int32} {x_l : List Int32}  : tEv l E yX7_clearSteps cX7_clearSteps 2 (some .int) 1 0 0 [.ref 0] (encX x_hs s_n s_sp s_sb s_sc s_f s_st v_n v_sp v_sb v_sc v_f v_st h_k h_s h_c g_k g_v g_p g_a g_t c_k c_t c_p i_l i_n i_f i_p i_o i_b w_l w_s x_e x_l cr tl) (fun r h' => r = some (.int (f_X7_clearSteps s_sc).1) ∧ h' = encX x_hs s_n s_sp s_sb ((f_X7_clearSteps s_sc).2) s_f s_st v_n v_sp v_sb v_sc v_f v_st h_k h_s h_c g_k g_v g_p g_a g_t c_k c_t c_p i_l i_n i_f i_p i_o i_b w_l w_s x_e x_l cr tl) := by
  refine tEv.of (own := RX7) (ini := false) (L := [(0, .ref 0)]) (by decide +kernel) rfl (fun h9 => nomatch h9) rfl (Nat.le_of_ble_eq_true rfl) ?_
  obtain ⟨res, hf⟩ : ∃ z, f_X7_clearSteps s_sc = z := ⟨_, rfl⟩
  rw [hf]
  rw [f_X7_clearSteps] at hf
  refine g_aload_n 0 (q := 1) dX7_clearSteps_0 rfl rfl ?_
  refine g_get (q := 4) fl_X7_10 dX7_clearSteps_1 rfl rfl rfl ?_
  refine g_get (q := 7) fl_X7_260 dX7_clearSteps_4 rfl rfl rfl ?_
  refine g_istore_n (q := 8) (L' := [(0, .ref 0), (1, .int s_sc)]) dX7_clearSteps_7 rfl (by decide) rfl ?_
  refine g_aload_n 0 (q := 9) dX7_clearSteps_8 rfl rfl ?_
  refine g_get (q := 12) fl_X7_10 dX7_clearSteps_9 rfl rfl rfl ?_
  refine g_iconst (q := 13) (v := 0) dX7_clearSteps_12 rfl rfl ?_
  refine g_put (q := 16) (h' := encX x_hs s_n s_sp s_sb 0 s_f s_st v_n v_sp v_sb v_sc v_f v_st h_k h_s h_c g_k g_v g_p g_a g_t c_k c_t c_p i_l i_n i_f i_p i_o i_b w_l w_s x_e x_l cr tl) fp_X7_260 dX7_clearSteps_13 rfl rfl (Nat.le_of_ble_eq_true rfl) (fun _ => ⟨rfl, rfl⟩) rfl ?_
  refine g_iload_n 1 (q := 17) dX7_clearSteps_16 rfl rfl ?_
  subst hf
  exact g_ireturn dX7_clearSteps_17 rfl ⟨rfl, rfl⟩
def f_X7_runStep (a0 : Int32) (s_n : Int32) (s_f : List Int64) (s_st : List Int32) (h_k : Int32) (h_s : List Int32) (h_c : List Int64) : Option (Int32 × List Int64 × Int32 × List Int32 × List Int64) := (tld s_st a0).bind fun r1 => (tld s_st (a0 + 1)).bind fun r3 => (tld s_st (a0 + 2)).bind fun r5 => (tld s_st (a0 + 3)).bind fun r7 => (if 3 ≤ r1 then (if r1 = 3 then (f_X7_dual r3 r7 s_n s_f h_k h_s h_c).bind fun r13 => some (r13.1, r13.2.1, r13.2.2.1, r13.2.2.2.1, r13.2.2.2.2) else (f_X7_cofactor r3 r5 ((r1 - 3) - 1) r7 s_n s_f h_k h_s h_c).bind fun r11 => some (r11.1, r11.2.1, r11.2.2.1, r11.2.2.2.1, r11.2.2.2.2)) else (f_X7_combine r1 r3 r5 r7 s_f h_k h_s h_c).bind fun r15 => some (r15.1, r15.2.1, r15.2.2.1, r15.2.2.2.1, r15.2.2.2.2))
set_option maxRecDepth 20000 in
set_option maxHeartbeats 4000000 in
theorem ev_X7_runStep {l : Launch} {E : tEn} {cr : Value} {tl : tHp} {x_hs : Int32} {s_n : Int32} {s_sp : Int64} {s_sb : Int64} {s_sc : Int32} {s_f : List Int64} {s_st : List Int32} {v_n : Int32} {v_sp : Int64} {v_sb : Int64} {v_sc : Int32} {v_f : List Int64} {v_st : List Int32} {h_k : Int32} {h_s : List Int32} {h_c : List Int64} {g_k : Int32} {g_v : Int32} {g_p : List Int32} {g_a : List Int32} {g_t : List Int32} {c_k : Int32} {c_t : List Int32} {c_p : List Int32} {i_l : Int32} {i_n : Int32} {i_f : Int64} {i_p : Int32} {i_o : Int32} {i_b : List Int32} {w_l : Int32} {w_s : List Int32} {x_e : List Int32} {x_l : List Int32} {a0 : Int32} {res : Int32 × List Int64 × Int32 × List Int32 × List Int64} (hf : f_X7_runStep a0 s_n s_f s_st h_k h_s h_c = some res) : tEv l E yX7_runStep cX7_runStep 6 (some .int) 5 0 0 [.ref 0, .int a0] (encX x_hs s_n s_sp s_sb s_sc s_f s_st v_n v_sp v_sb v_sc v_f v_st h_k h_s h_c g_k g_v g_p g_a g_t c_k c_t c_p i_l i_n i_f i_p i_o i_b w_l w_s x_e x_l cr tl) (fun r h' => r = some (.int res.1) ∧ h' = encX x_hs s_n s_sp s_sb s_sc (res.2.1) s_st v_n v_sp v_sb v_sc v_f v_st (res.2.2.1) (res.2.2.2.1) (res.2.2.2.2) g_k g_v g_p g_a g_t c_k c_t c_p i_l i_n i_f i_p i_o i_b w_l w_s x_e x_l cr tl) := by
  refine tEv.of (own := RX7) (ini := false) (L := [(0, .ref 0), (1, .int a0)]) (by decide +kernel) rfl (fun h9 => nomatch h9) rfl (Nat.le_of_ble_eq_true rfl) ?_
  rw [f_X7_runStep] at hf
  refine g_aload_n 0 (q := 1) dX7_runStep_0 rfl rfl ?_
  refine g_get (q := 4) fl_X7_10 dX7_runStep_1 rfl rfl rfl ?_
  refine g_get (q := 7) fl_X7_292 dX7_runStep_4 rfl rfl rfl ?_
  refine g_iload_n 1 (q := 8) dX7_runStep_7 rfl rfl ?_
  obtain ⟨r1, e2, hf⟩ := Option.bind_eq_some_iff.mp hf
  refine g_iaload (q := 9) dX7_runStep_8 rfl rfl e2 ?_
  refine g_istore_n (q := 10) (L' := [(0, .ref 0), (1, .int a0), (2, .int r1)]) dX7_runStep_9 rfl (by decide) rfl ?_
  refine g_aload_n 0 (q := 11) dX7_runStep_10 rfl rfl ?_
  refine g_get (q := 14) fl_X7_10 dX7_runStep_11 rfl rfl rfl ?_
  refine g_get (q := 17) fl_X7_292 dX7_runStep_14 rfl rfl rfl ?_
  refine g_iload_n 1 (q := 18) dX7_runStep_17 rfl rfl ?_
  refine g_iconst (q := 19) (v := 1) dX7_runStep_18 rfl rfl ?_
  refine g_iadd (q := 20) dX7_runStep_19 rfl ?_
  obtain ⟨r3, e4, hf⟩ := Option.bind_eq_some_iff.mp hf
  refine g_iaload (q := 21) dX7_runStep_20 rfl rfl e4 ?_
  refine g_istore_n (q := 22) (L' := [(0, .ref 0), (1, .int a0), (2, .int r1), (3, .int r3)]) dX7_runStep_21 rfl (by decide) rfl ?_
  refine g_aload_n 0 (q := 23) dX7_runStep_22 rfl rfl ?_
  refine g_get (q := 26) fl_X7_10 dX7_runStep_23 rfl rfl rfl ?_
  refine g_get (q := 29) fl_X7_292 dX7_runStep_26 rfl rfl rfl ?_
  refine g_iload_n 1 (q := 30) dX7_runStep_29 rfl rfl ?_
  refine g_iconst (q := 31) (v := 2) dX7_runStep_30 rfl rfl ?_
  refine g_iadd (q := 32) dX7_runStep_31 rfl ?_
  obtain ⟨r5, e6, hf⟩ := Option.bind_eq_some_iff.mp hf
  refine g_iaload (q := 33) dX7_runStep_32 rfl rfl e6 ?_
  refine g_istore (q := 35) (L' := [(0, .ref 0), (1, .int a0), (2, .int r1), (3, .int r3), (4, .int r5)]) dX7_runStep_33 rfl (by decide) rfl ?_
  refine g_aload_n 0 (q := 36) dX7_runStep_35 rfl rfl ?_
  refine g_get (q := 39) fl_X7_10 dX7_runStep_36 rfl rfl rfl ?_
  refine g_get (q := 42) fl_X7_292 dX7_runStep_39 rfl rfl rfl ?_
  refine g_iload_n 1 (q := 43) dX7_runStep_42 rfl rfl ?_
  refine g_iconst (q := 44) (v := 3) dX7_runStep_43 rfl rfl ?_
  refine g_iadd (q := 45) dX7_runStep_44 rfl ?_
  obtain ⟨r7, e8, hf⟩ := Option.bind_eq_some_iff.mp hf
  refine g_iaload (q := 46) dX7_runStep_45 rfl rfl e8 ?_
  refine g_istore (q := 48) (L' := [(0, .ref 0), (1, .int a0), (2, .int r1), (3, .int r3), (4, .int r5), (5, .int r7)]) dX7_runStep_46 rfl (by decide) rfl ?_
  refine g_iload_n 2 (q := 49) dX7_runStep_48 rfl rfl ?_
  refine g_iconst (q := 50) (v := 3) dX7_runStep_49 rfl rfl ?_
  refine g_icmp_ge (t := 64) (q := 53) dX7_runStep_50 (by decide) rfl (fun c9 => ?_) (fun c9 => ?_)
  · rw [if_pos c9] at hf
    refine g_iload_n 2 (q := 65) dX7_runStep_64 rfl rfl ?_
    refine g_iconst (q := 66) (v := 3) dX7_runStep_65 rfl rfl ?_
    refine g_icmp_ne (t := 77) (q := 69) dX7_runStep_66 (by decide) rfl (fun c10 => ?_) (fun c10 => ?_)
    · rw [if_neg c10] at hf
      refine g_aload_n 0 (q := 78) dX7_runStep_77 rfl rfl ?_
      refine g_iload_n 3 (q := 79) dX7_runStep_78 rfl rfl ?_
      refine g_iload 4 (q := 81) dX7_runStep_79 rfl rfl ?_
      refine g_iload_n 2 (q := 82) dX7_runStep_81 rfl rfl ?_
      refine g_iconst (q := 83) (v := 3) dX7_runStep_82 rfl rfl ?_
      refine g_isub (q := 84) dX7_runStep_83 rfl ?_
      refine g_iconst (q := 85) (v := 1) dX7_runStep_84 rfl rfl ?_
      refine g_isub (q := 86) dX7_runStep_85 rfl ?_
      refine g_iload 5 (q := 88) dX7_runStep_86 rfl rfl ?_
      obtain ⟨r11, e12, hf⟩ := Option.bind_eq_some_iff.mp hf
      refine g_callV (a := 0) (k2 := 0) (n2 := 0) (q := 91) (as := [.int r3, .int r5, .int ((r1 - 3) - 1), .int r7]) (st := []) (st1 := [.int r11.1]) tm_X7_cofactor ml_X7_303 ti_X7_cofactor rfl rfl dX7_runStep_88 rfl (ev_X7_cofactor e12) rfl rfl (Nat.le_of_ble_eq_true rfl) (by decide) rfl rfl (Or.inl (encX_len.trans encX_len.symm)) rfl ?_
      have hf := Option.some.inj hf
      subst hf
      exact g_ireturn dX7_runStep_91 rfl ⟨rfl, rfl⟩
    · rw [if_pos c10] at hf
      refine g_aload_n 0 (q := 70) dX7_runStep_69 rfl rfl ?_
      refine g_iload_n 3 (q := 71) dX7_runStep_70 rfl rfl ?_
      refine g_iload 5 (q := 73) dX7_runStep_71 rfl rfl ?_
      obtain ⟨r13, e14, hf⟩ := Option.bind_eq_some_iff.mp hf
      refine g_callV (a := 0) (k2 := 0) (n2 := 0) (q := 76) (as := [.int r3, .int r7]) (st := []) (st1 := [.int r13.1]) tm_X7_dual ml_X7_299 ti_X7_dual rfl rfl dX7_runStep_73 rfl (ev_X7_dual e14) rfl rfl (Nat.le_of_ble_eq_true rfl) (by decide) rfl rfl (Or.inl (encX_len.trans encX_len.symm)) rfl ?_
      have hf := Option.some.inj hf
      subst hf
      exact g_ireturn dX7_runStep_76 rfl ⟨rfl, rfl⟩
  · rw [if_neg c9] at hf
    refine g_aload_n 0 (q := 54) dX7_runStep_53 rfl rfl ?_
    refine g_iload_n 2 (q := 55) dX7_runStep_54 rfl rfl ?_
    refine g_iload_n 3 (q := 56) dX7_runStep_55 rfl rfl ?_
    refine g_iload 4 (q := 58) dX7_runStep_56 rfl rfl ?_
    refine g_iload 5 (q := 60) dX7_runStep_58 rfl rfl ?_
    obtain ⟨r15, e16, hf⟩ := Option.bind_eq_some_iff.mp hf
    refine g_callV (a := 0) (k2 := 0) (n2 := 0) (q := 63) (as := [.int r1, .int r3, .int r5, .int r7]) (st := []) (st1 := [.int r15.1]) tm_X7_combine ml_X7_295 ti_X7_combine rfl rfl dX7_runStep_60 rfl (ev_X7_combine e16) rfl rfl (Nat.le_of_ble_eq_true rfl) (by decide) rfl rfl (Or.inl (encX_len.trans encX_len.symm)) rfl ?_
    have hf := Option.some.inj hf
    subst hf
    exact g_ireturn dX7_runStep_63 rfl ⟨rfl, rfl⟩
