/-! what ties both systems, and each call; written by wip/whole/genapi.py -/
def rC (cr : Value) (tl : tHp) : Prop := (cr = .null ∧ tl = []) ∨ ∃ (kk : Int32) (ke : List Int64) (ks : List Int32), kk = nI CE.length ∧ ke = CE.map lN ∧ cr = .ref 23 ∧ tl = tlC kk ke ks
def jJ (hX hM : tHp) : Prop := ∃ (x_hs : Int32) (s_n : Int32) (s_sp : Int64) (s_sb : Int64) (s_sc : Int32) (s_f : List Int64) (s_st : List Int32) (v_n : Int32) (v_sp : Int64) (v_sb : Int64) (v_sc : Int32) (v_f : List Int64) (v_st : List Int32) (h_k : Int32) (h_s : List Int32) (h_c : List Int64) (g_k : Int32) (g_v : Int32) (g_p : List Int32) (g_a : List Int32) (g_t : List Int32) (c_k : Int32) (c_t : List Int32) (c_p : List Int32) (i_l : Int32) (i_n : Int32) (i_f : Int64) (i_p : Int32) (i_o : Int32) (i_b : List Int32) (w_l : Int32) (w_s : List Int32) (x_e : List Int32) (x_l : List Int32) (cr : Value) (tl : tHp) (m_n : Int32) (m_pt : Int32) (m_rc : Int32) (m_sa : Int64) (m_sb : Int64) (m_sc : Int32) (m_is : Int32) (m_os : Int32) (m_vn : Int32) (m_vc : Int32) (m_va : Int64) (m_vb : Int64) (m_ve : Int32) (m_no : Int32) (m_pl : Int32) (m_fa : Int32) (m_oc : Int32) (m_fu : Int32) (m_ke : Int32) (m_t : List Int64) (m_f : List Int32) (m_rs : List Int32) (m_rt : List Int64) (m_rf : List Int32) (m_st : List Int32) (m_ib : List Int32) (m_ob : List Int32) (m_al : List Int32) (m_el : List Int32) (m_vt : List Int64) (m_vf : List Int32) (m_vs : List Int32) (m_nr : List Int32) (m_ty : List Int32) (m_pa : List Int32) (m_fn : List Int64) (m_md : List Int64) (m_ms : List Int32) (m_mr : List Int32) (n : Nat) (sl : List (Option Nat)) (hi : List (Nat × Option Nat)) (sp sb c : Nat) (st : List Int32) (inp : List Nat) (out : List Int32), hX = encX x_hs s_n s_sp s_sb s_sc s_f s_st v_n v_sp v_sb v_sc v_f v_st h_k h_s h_c g_k g_v g_p g_a g_t c_k c_t c_p i_l i_n i_f i_p i_o i_b w_l w_s x_e x_l cr tl ∧ hM = encM m_n m_pt m_rc m_sa m_sb m_sc m_is m_os m_vn m_vc m_va m_vb m_ve m_no m_pl m_fa m_oc m_fu m_ke m_t m_f m_rs m_rt m_rf m_st m_ib m_ob m_al m_el m_vt m_vf m_vs m_nr m_ty m_pa m_fn m_md m_ms m_mr ∧ rN n s_n m_n m_pt ∧ rS n sl s_f m_t m_f ∧ rH n hi h_k h_s h_c m_rc m_rs m_rt m_rf ∧ rP n sp sb s_sp s_sb m_sa m_sb ∧ rT c st s_sc s_st m_sc m_st ∧ rI inp i_l i_b m_is m_ib ∧ rW out w_l w_s m_os m_ob ∧ rA x_l x_e m_al m_el ∧ rV x_hs v_n v_sp v_sb v_sc v_f v_st m_vn m_vc m_va m_vb m_vt m_vf m_vs ∧ rG g_p g_a g_t c_t c_p m_nr m_ty m_pa ∧ rF n m_fu m_fn m_md m_ms m_mr ∧ rC cr tl
theorem jJ_mk {x_hs : Int32} {s_n : Int32} {s_sp : Int64} {s_sb : Int64} {s_sc : Int32} {s_f : List Int64} {s_st : List Int32} {v_n : Int32} {v_sp : Int64} {v_sb : Int64} {v_sc : Int32} {v_f : List Int64} {v_st : List Int32} {h_k : Int32} {h_s : List Int32} {h_c : List Int64} {g_k : Int32} {g_v : Int32} {g_p : List Int32} {g_a : List Int32} {g_t : List Int32} {c_k : Int32} {c_t : List Int32} {c_p : List Int32} {i_l : Int32} {i_n : Int32} {i_f : Int64} {i_p : Int32} {i_o : Int32} {i_b : List Int32} {w_l : Int32} {w_s : List Int32} {x_e : List Int32} {x_l : List Int32} {cr : Value} {tl : tHp} {m_n : Int32} {m_pt : Int32} {m_rc : Int32} {m_sa : Int64} {m_sb : Int64} {m_sc : Int32} {m_is : Int32} {m_os : Int32} {m_vn : Int32} {m_vc : Int32} {m_va : Int64} {m_vb : Int64} {m_ve : Int32} {m_no : Int32} {m_pl : Int32} {m_fa : Int32} {m_oc : Int32} {m_fu : Int32} {m_ke : Int32} {m_t : List Int64} {m_f : List Int32} {m_rs : List Int32} {m_rt : List Int64} {m_rf : List Int32} {m_st : List Int32} {m_ib : List Int32} {m_ob : List Int32} {m_al : List Int32} {m_el : List Int32} {m_vt : List Int64} {m_vf : List Int32} {m_vs : List Int32} {m_nr : List Int32} {m_ty : List Int32} {m_pa : List Int32} {m_fn : List Int64} {m_md : List Int64} {m_ms : List Int32} {m_mr : List Int32} {n : Nat} {sl : List (Option Nat)} {hi : List (Nat × Option Nat)} {sp sb c : Nat} {st : List Int32} {inp : List Nat} {out : List Int32} (hN : rN n s_n m_n m_pt) (hS : rS n sl s_f m_t m_f) (hH : rH n hi h_k h_s h_c m_rc m_rs m_rt m_rf) (hP : rP n sp sb s_sp s_sb m_sa m_sb) (hT : rT c st s_sc s_st m_sc m_st) (hI : rI inp i_l i_b m_is m_ib) (hW : rW out w_l w_s m_os m_ob) (hA : rA x_l x_e m_al m_el) (hV : rV x_hs v_n v_sp v_sb v_sc v_f v_st m_vn m_vc m_va m_vb m_vt m_vf m_vs) (hG : rG g_p g_a g_t c_t c_p m_nr m_ty m_pa) (hF : rF n m_fu m_fn m_md m_ms m_mr) (hC : rC cr tl) : jJ (encX x_hs s_n s_sp s_sb s_sc s_f s_st v_n v_sp v_sb v_sc v_f v_st h_k h_s h_c g_k g_v g_p g_a g_t c_k c_t c_p i_l i_n i_f i_p i_o i_b w_l w_s x_e x_l cr tl) (encM m_n m_pt m_rc m_sa m_sb m_sc m_is m_os m_vn m_vc m_va m_vb m_ve m_no m_pl m_fa m_oc m_fu m_ke m_t m_f m_rs m_rt m_rf m_st m_ib m_ob m_al m_el m_vt m_vf m_vs m_nr m_ty m_pa m_fn m_md m_ms m_mr) := ⟨x_hs, s_n, s_sp, s_sb, s_sc, s_f, s_st, v_n, v_sp, v_sb, v_sc, v_f, v_st, h_k, h_s, h_c, g_k, g_v, g_p, g_a, g_t, c_k, c_t, c_p, i_l, i_n, i_f, i_p, i_o, i_b, w_l, w_s, x_e, x_l, cr, tl, m_n, m_pt, m_rc, m_sa, m_sb, m_sc, m_is, m_os, m_vn, m_vc, m_va, m_vb, m_ve, m_no, m_pl, m_fa, m_oc, m_fu, m_ke, m_t, m_f, m_rs, m_rt, m_rf, m_st, m_ib, m_ob, m_al, m_el, m_vt, m_vf, m_vs, m_nr, m_ty, m_pa, m_fn, m_md, m_ms, m_mr, n, sl, hi, sp, sb, c, st, inp, out, rfl, rfl, hN, hS, hH, hP, hT, hI, hW, hA, hV, hG, hF, hC⟩
theorem a_setVariables {l : Launch} {E : tEn} {hX hM : tHp} (h : jJ hX hM) (x0 : Int32) : tSameI l E jJ yX7_setVariables cX7_setVariables 3 yX8_setVariables cX8_setVariables 4 [.int x0] hX hM := by
  obtain ⟨x_hs, s_n, s_sp, s_sb, s_sc, s_f, s_st, v_n, v_sp, v_sb, v_sc, v_f, v_st, h_k, h_s, h_c, g_k, g_v, g_p, g_a, g_t, c_k, c_t, c_p, i_l, i_n, i_f, i_p, i_o, i_b, w_l, w_s, x_e, x_l, cr, tl, m_n, m_pt, m_rc, m_sa, m_sb, m_sc, m_is, m_os, m_vn, m_vc, m_va, m_vb, m_ve, m_no, m_pl, m_fa, m_oc, m_fu, m_ke, m_t, m_f, m_rs, m_rt, m_rf, m_st, m_ib, m_ob, m_al, m_el, m_vt, m_vf, m_vs, m_nr, m_ty, m_pa, m_fn, m_md, m_ms, m_mr, n, sl, hi, sp, sb, c, st, inp, out, rfl, rfl, hN, hS, hH, hP, hT, hI, hW, hA, hV, hG, hF, hC⟩ := h
  unfold tSameI
  obtain ⟨z, s_n', s_sp', s_sb', s_sc', s_f', h_k', m_n', m_pt', m_rc', m_sa', m_sb', m_sc', m_fu', m_ke', m_f', m_fn', m_md', m_ms', m_mr', n', sl', hi', sp', sb', c', st', e1, e2, hN', hS', hH', hP', hT', hF'⟩ := p_setVariables hN hS hH hP hT hF m_ke x0
  exact ⟨z, _, _, _, _, _, _, by decide, by decide, by decide, by decide, (ev_X7_setVariables e1), (ev_X8_setVariables e2), jJ_mk hN' hS' hH' hP' hT' hI hW hA hV hG hF' hC⟩
theorem a_variables {l : Launch} {E : tEn} {hX hM : tHp} (h : jJ hX hM)  : tSameI l E jJ yX7_variables cX7_variables 1 yX8_variables cX8_variables 1 [] hX hM := by
  obtain ⟨x_hs, s_n, s_sp, s_sb, s_sc, s_f, s_st, v_n, v_sp, v_sb, v_sc, v_f, v_st, h_k, h_s, h_c, g_k, g_v, g_p, g_a, g_t, c_k, c_t, c_p, i_l, i_n, i_f, i_p, i_o, i_b, w_l, w_s, x_e, x_l, cr, tl, m_n, m_pt, m_rc, m_sa, m_sb, m_sc, m_is, m_os, m_vn, m_vc, m_va, m_vb, m_ve, m_no, m_pl, m_fa, m_oc, m_fu, m_ke, m_t, m_f, m_rs, m_rt, m_rf, m_st, m_ib, m_ob, m_al, m_el, m_vt, m_vf, m_vs, m_nr, m_ty, m_pa, m_fn, m_md, m_ms, m_mr, n, sl, hi, sp, sb, c, st, inp, out, rfl, rfl, hN, hS, hH, hP, hT, hI, hW, hA, hV, hG, hF, hC⟩ := h
  unfold tSameI
  have e : f_X8_variables m_n = f_X7_variables s_n := by unfold f_X8_variables f_X7_variables; rw [hN.2.2.1, hN.2.2.2.1]
  have h2 := ev_X8_variables (l := l) (E := E) (m_n := m_n) (m_pt := m_pt) (m_rc := m_rc) (m_sa := m_sa) (m_sb := m_sb) (m_sc := m_sc) (m_is := m_is) (m_os := m_os) (m_vn := m_vn) (m_vc := m_vc) (m_va := m_va) (m_vb := m_vb) (m_ve := m_ve) (m_no := m_no) (m_pl := m_pl) (m_fa := m_fa) (m_oc := m_oc) (m_fu := m_fu) (m_ke := m_ke) (m_t := m_t) (m_f := m_f) (m_rs := m_rs) (m_rt := m_rt) (m_rf := m_rf) (m_st := m_st) (m_ib := m_ib) (m_ob := m_ob) (m_al := m_al) (m_el := m_el) (m_vt := m_vt) (m_vf := m_vf) (m_vs := m_vs) (m_nr := m_nr) (m_ty := m_ty) (m_pa := m_pa) (m_fn := m_fn) (m_md := m_md) (m_ms := m_ms) (m_mr := m_mr)
  rw [e] at h2
  exact ⟨_, _, _, _, _, _, _, by decide, by decide, by decide, by decide, ev_X7_variables, h2, jJ_mk hN hS hH hP hT hI hW hA hV hG hF hC⟩
theorem a_setTable {l : Launch} {E : tEn} {hX hM : tHp} (h : jJ hX hM) (x0 : Int32) (x1 : Int64) : tSameI l E jJ yX7_setTable cX7_setTable 4 yX8_setTable cX8_setTable 4 [.int x0, .long x1] hX hM := by
  obtain ⟨x_hs, s_n, s_sp, s_sb, s_sc, s_f, s_st, v_n, v_sp, v_sb, v_sc, v_f, v_st, h_k, h_s, h_c, g_k, g_v, g_p, g_a, g_t, c_k, c_t, c_p, i_l, i_n, i_f, i_p, i_o, i_b, w_l, w_s, x_e, x_l, cr, tl, m_n, m_pt, m_rc, m_sa, m_sb, m_sc, m_is, m_os, m_vn, m_vc, m_va, m_vb, m_ve, m_no, m_pl, m_fa, m_oc, m_fu, m_ke, m_t, m_f, m_rs, m_rt, m_rf, m_st, m_ib, m_ob, m_al, m_el, m_vt, m_vf, m_vs, m_nr, m_ty, m_pa, m_fn, m_md, m_ms, m_mr, n, sl, hi, sp, sb, c, st, inp, out, rfl, rfl, hN, hS, hH, hP, hT, hI, hW, hA, hV, hG, hF, hC⟩ := h
  unfold tSameI
  obtain ⟨z, s_f', h_k', h_s', h_c', m_rc', m_t', m_f', m_rs', m_rt', m_rf', sl', hi', e1, e2, hS', hH'⟩ := p_setTable hN hS hH x0 x1
  exact ⟨z, _, _, _, _, _, _, by decide, by decide, by decide, by decide, (ev_X7_setTable e1), (ev_X8_setTable e2), jJ_mk hN hS' hH' hP hT hI hW hA hV hG hF hC⟩
theorem a_table {l : Launch} {E : tEn} {hX hM : tHp} (h : jJ hX hM) (x0 : Int32) : tSameJ l E jJ yX7_table cX7_table 3 yX8_table cX8_table 2 [.int x0] hX hM := by
  obtain ⟨x_hs, s_n, s_sp, s_sb, s_sc, s_f, s_st, v_n, v_sp, v_sb, v_sc, v_f, v_st, h_k, h_s, h_c, g_k, g_v, g_p, g_a, g_t, c_k, c_t, c_p, i_l, i_n, i_f, i_p, i_o, i_b, w_l, w_s, x_e, x_l, cr, tl, m_n, m_pt, m_rc, m_sa, m_sb, m_sc, m_is, m_os, m_vn, m_vc, m_va, m_vb, m_ve, m_no, m_pl, m_fa, m_oc, m_fu, m_ke, m_t, m_f, m_rs, m_rt, m_rf, m_st, m_ib, m_ob, m_al, m_el, m_vt, m_vf, m_vs, m_nr, m_ty, m_pa, m_fn, m_md, m_ms, m_mr, n, sl, hi, sp, sb, c, st, inp, out, rfl, rfl, hN, hS, hH, hP, hT, hI, hW, hA, hV, hG, hF, hC⟩ := h
  unfold tSameJ
  obtain ⟨z, e1, e2⟩ := p_table hN hS x0
  exact ⟨z, _, _, _, _, _, _, by decide, by decide, by decide, by decide, (ev_X7_table e1), (ev_X8_table e2), jJ_mk hN hS hH hP hT hI hW hA hV hG hF hC⟩
theorem a_clear {l : Launch} {E : tEn} {hX hM : tHp} (h : jJ hX hM) (x0 : Int32) : tSameI l E jJ yX7_clear cX7_clear 3 yX8_clear cX8_clear 2 [.int x0] hX hM := by
  obtain ⟨x_hs, s_n, s_sp, s_sb, s_sc, s_f, s_st, v_n, v_sp, v_sb, v_sc, v_f, v_st, h_k, h_s, h_c, g_k, g_v, g_p, g_a, g_t, c_k, c_t, c_p, i_l, i_n, i_f, i_p, i_o, i_b, w_l, w_s, x_e, x_l, cr, tl, m_n, m_pt, m_rc, m_sa, m_sb, m_sc, m_is, m_os, m_vn, m_vc, m_va, m_vb, m_ve, m_no, m_pl, m_fa, m_oc, m_fu, m_ke, m_t, m_f, m_rs, m_rt, m_rf, m_st, m_ib, m_ob, m_al, m_el, m_vt, m_vf, m_vs, m_nr, m_ty, m_pa, m_fn, m_md, m_ms, m_mr, n, sl, hi, sp, sb, c, st, inp, out, rfl, rfl, hN, hS, hH, hP, hT, hI, hW, hA, hV, hG, hF, hC⟩ := h
  unfold tSameI
  obtain ⟨z, s_f', h_k', h_s', h_c', m_rc', m_f', m_rs', m_rt', m_rf', sl', hi', e1, e2, hS', hH'⟩ := p_clear hN hS hH x0
  exact ⟨z, _, _, _, _, _, _, by decide, by decide, by decide, by decide, (ev_X7_clear e1), (ev_X8_clear e2), jJ_mk hN hS' hH' hP hT hI hW hA hV hG hF hC⟩
theorem a_value {l : Launch} {E : tEn} {hX hM : tHp} (h : jJ hX hM) (x0 : Int32) (x1 : Int32) : tSameI l E jJ yX7_value cX7_value 4 yX8_value cX8_value 3 [.int x0, .int x1] hX hM := by
  obtain ⟨x_hs, s_n, s_sp, s_sb, s_sc, s_f, s_st, v_n, v_sp, v_sb, v_sc, v_f, v_st, h_k, h_s, h_c, g_k, g_v, g_p, g_a, g_t, c_k, c_t, c_p, i_l, i_n, i_f, i_p, i_o, i_b, w_l, w_s, x_e, x_l, cr, tl, m_n, m_pt, m_rc, m_sa, m_sb, m_sc, m_is, m_os, m_vn, m_vc, m_va, m_vb, m_ve, m_no, m_pl, m_fa, m_oc, m_fu, m_ke, m_t, m_f, m_rs, m_rt, m_rf, m_st, m_ib, m_ob, m_al, m_el, m_vt, m_vf, m_vs, m_nr, m_ty, m_pa, m_fn, m_md, m_ms, m_mr, n, sl, hi, sp, sb, c, st, inp, out, rfl, rfl, hN, hS, hH, hP, hT, hI, hW, hA, hV, hG, hF, hC⟩ := h
  unfold tSameI
  obtain ⟨z, e1, e2⟩ := p_value hN hS x0 x1
  exact ⟨z, _, _, _, _, _, _, by decide, by decide, by decide, by decide, (ev_X7_value e1), (ev_X8_value e2), jJ_mk hN hS hH hP hT hI hW hA hV hG hF hC⟩
theorem a_essential {l : Launch} {E : tEn} {hX hM : tHp} (h : jJ hX hM) (x0 : Int32) : tSameI l E jJ yX7_essential cX7_essential 3 yX8_essential cX8_essential 2 [.int x0] hX hM := by
  obtain ⟨x_hs, s_n, s_sp, s_sb, s_sc, s_f, s_st, v_n, v_sp, v_sb, v_sc, v_f, v_st, h_k, h_s, h_c, g_k, g_v, g_p, g_a, g_t, c_k, c_t, c_p, i_l, i_n, i_f, i_p, i_o, i_b, w_l, w_s, x_e, x_l, cr, tl, m_n, m_pt, m_rc, m_sa, m_sb, m_sc, m_is, m_os, m_vn, m_vc, m_va, m_vb, m_ve, m_no, m_pl, m_fa, m_oc, m_fu, m_ke, m_t, m_f, m_rs, m_rt, m_rf, m_st, m_ib, m_ob, m_al, m_el, m_vt, m_vf, m_vs, m_nr, m_ty, m_pa, m_fn, m_md, m_ms, m_mr, n, sl, hi, sp, sb, c, st, inp, out, rfl, rfl, hN, hS, hH, hP, hT, hI, hW, hA, hV, hG, hF, hC⟩ := h
  unfold tSameI
  obtain ⟨z, e1, e2⟩ := p_essential hN hS x0
  exact ⟨z, _, _, _, _, _, _, by decide, by decide, by decide, by decide, (ev_X7_essential e1), (ev_X8_essential e2), jJ_mk hN hS hH hP hT hI hW hA hV hG hF hC⟩
theorem a_isMonotone {l : Launch} {E : tEn} {hX hM : tHp} (h : jJ hX hM) (x0 : Int32) : tSameI l E jJ yX7_isMonotone cX7_isMonotone 3 yX8_isMonotone cX8_isMonotone 2 [.int x0] hX hM := by
  obtain ⟨x_hs, s_n, s_sp, s_sb, s_sc, s_f, s_st, v_n, v_sp, v_sb, v_sc, v_f, v_st, h_k, h_s, h_c, g_k, g_v, g_p, g_a, g_t, c_k, c_t, c_p, i_l, i_n, i_f, i_p, i_o, i_b, w_l, w_s, x_e, x_l, cr, tl, m_n, m_pt, m_rc, m_sa, m_sb, m_sc, m_is, m_os, m_vn, m_vc, m_va, m_vb, m_ve, m_no, m_pl, m_fa, m_oc, m_fu, m_ke, m_t, m_f, m_rs, m_rt, m_rf, m_st, m_ib, m_ob, m_al, m_el, m_vt, m_vf, m_vs, m_nr, m_ty, m_pa, m_fn, m_md, m_ms, m_mr, n, sl, hi, sp, sb, c, st, inp, out, rfl, rfl, hN, hS, hH, hP, hT, hI, hW, hA, hV, hG, hF, hC⟩ := h
  unfold tSameI
  obtain ⟨z, e1, e2⟩ := p_isMonotone hN hS x0
  exact ⟨z, _, _, _, _, _, _, by decide, by decide, by decide, by decide, (ev_X7_isMonotone e1), (ev_X8_isMonotone e2), jJ_mk hN hS hH hP hT hI hW hA hV hG hF hC⟩
theorem a_violatingPoint {l : Launch} {E : tEn} {hX hM : tHp} (h : jJ hX hM) (x0 : Int32) : tSameI l E jJ yX7_violatingPoint cX7_violatingPoint 3 yX8_violatingPoint cX8_violatingPoint 2 [.int x0] hX hM := by
  obtain ⟨x_hs, s_n, s_sp, s_sb, s_sc, s_f, s_st, v_n, v_sp, v_sb, v_sc, v_f, v_st, h_k, h_s, h_c, g_k, g_v, g_p, g_a, g_t, c_k, c_t, c_p, i_l, i_n, i_f, i_p, i_o, i_b, w_l, w_s, x_e, x_l, cr, tl, m_n, m_pt, m_rc, m_sa, m_sb, m_sc, m_is, m_os, m_vn, m_vc, m_va, m_vb, m_ve, m_no, m_pl, m_fa, m_oc, m_fu, m_ke, m_t, m_f, m_rs, m_rt, m_rf, m_st, m_ib, m_ob, m_al, m_el, m_vt, m_vf, m_vs, m_nr, m_ty, m_pa, m_fn, m_md, m_ms, m_mr, n, sl, hi, sp, sb, c, st, inp, out, rfl, rfl, hN, hS, hH, hP, hT, hI, hW, hA, hV, hG, hF, hC⟩ := h
  unfold tSameI
  obtain ⟨z, e1, e2⟩ := p_violatingPoint hN hS x0
  exact ⟨z, _, _, _, _, _, _, by decide, by decide, by decide, by decide, (ev_X7_violatingPoint e1), (ev_X8_violatingPoint e2), jJ_mk hN hS hH hP hT hI hW hA hV hG hF hC⟩
theorem a_primeImplicants {l : Launch} {E : tEn} {hX hM : tHp} (h : jJ hX hM) (x0 : Int32) : tSameI l E jJ yX7_primeImplicants cX7_primeImplicants 3 yX8_primeImplicants cX8_primeImplicants 3 [.int x0] hX hM := by
  obtain ⟨x_hs, s_n, s_sp, s_sb, s_sc, s_f, s_st, v_n, v_sp, v_sb, v_sc, v_f, v_st, h_k, h_s, h_c, g_k, g_v, g_p, g_a, g_t, c_k, c_t, c_p, i_l, i_n, i_f, i_p, i_o, i_b, w_l, w_s, x_e, x_l, cr, tl, m_n, m_pt, m_rc, m_sa, m_sb, m_sc, m_is, m_os, m_vn, m_vc, m_va, m_vb, m_ve, m_no, m_pl, m_fa, m_oc, m_fu, m_ke, m_t, m_f, m_rs, m_rt, m_rf, m_st, m_ib, m_ob, m_al, m_el, m_vt, m_vf, m_vs, m_nr, m_ty, m_pa, m_fn, m_md, m_ms, m_mr, n, sl, hi, sp, sb, c, st, inp, out, rfl, rfl, hN, hS, hH, hP, hT, hI, hW, hA, hV, hG, hF, hC⟩ := h
  unfold tSameI
  obtain ⟨z, g_k', g_v', g_p', g_a', e1, e2, hG'⟩ := p_primeImplicants hN hS hG g_k g_v x0
  exact ⟨z, _, _, _, _, _, _, by decide, by decide, by decide, by decide, (ev_X7_primeImplicants e1), (ev_X8_primeImplicants e2), jJ_mk hN hS hH hP hT hI hW hA hV hG' hF hC⟩
theorem a_primeImplicant {l : Launch} {E : tEn} {hX hM : tHp} (h : jJ hX hM) (x0 : Int32) (x1 : Int32) : tSameI l E jJ yX7_primeImplicant cX7_primeImplicant 4 yX8_primeImplicant cX8_primeImplicant 4 [.int x0, .int x1] hX hM := by
  obtain ⟨x_hs, s_n, s_sp, s_sb, s_sc, s_f, s_st, v_n, v_sp, v_sb, v_sc, v_f, v_st, h_k, h_s, h_c, g_k, g_v, g_p, g_a, g_t, c_k, c_t, c_p, i_l, i_n, i_f, i_p, i_o, i_b, w_l, w_s, x_e, x_l, cr, tl, m_n, m_pt, m_rc, m_sa, m_sb, m_sc, m_is, m_os, m_vn, m_vc, m_va, m_vb, m_ve, m_no, m_pl, m_fa, m_oc, m_fu, m_ke, m_t, m_f, m_rs, m_rt, m_rf, m_st, m_ib, m_ob, m_al, m_el, m_vt, m_vf, m_vs, m_nr, m_ty, m_pa, m_fn, m_md, m_ms, m_mr, n, sl, hi, sp, sb, c, st, inp, out, rfl, rfl, hN, hS, hH, hP, hT, hI, hW, hA, hV, hG, hF, hC⟩ := h
  unfold tSameI
  obtain ⟨z, g_k', g_v', g_p', g_a', e1, e2, hG'⟩ := p_primeImplicant hN hS hG g_k g_v x0 x1
  exact ⟨z, _, _, _, _, _, _, by decide, by decide, by decide, by decide, (ev_X7_primeImplicant e1), (ev_X8_primeImplicant e2), jJ_mk hN hS hH hP hT hI hW hA hV hG' hF hC⟩
theorem a_neighbors {l : Launch} {E : tEn} {hX hM : tHp} (h : jJ hX hM) (x0 : Int32) (x1 : Int32) : tSameI l E jJ yX7_neighbors cX7_neighbors 4 yX8_neighbors cX8_neighbors 4 [.int x0, .int x1] hX hM := by
  obtain ⟨x_hs, s_n, s_sp, s_sb, s_sc, s_f, s_st, v_n, v_sp, v_sb, v_sc, v_f, v_st, h_k, h_s, h_c, g_k, g_v, g_p, g_a, g_t, c_k, c_t, c_p, i_l, i_n, i_f, i_p, i_o, i_b, w_l, w_s, x_e, x_l, cr, tl, m_n, m_pt, m_rc, m_sa, m_sb, m_sc, m_is, m_os, m_vn, m_vc, m_va, m_vb, m_ve, m_no, m_pl, m_fa, m_oc, m_fu, m_ke, m_t, m_f, m_rs, m_rt, m_rf, m_st, m_ib, m_ob, m_al, m_el, m_vt, m_vf, m_vs, m_nr, m_ty, m_pa, m_fn, m_md, m_ms, m_mr, n, sl, hi, sp, sb, c, st, inp, out, rfl, rfl, hN, hS, hH, hP, hT, hI, hW, hA, hV, hG, hF, hC⟩ := h
  unfold tSameI
  obtain ⟨z, g_k', g_v', g_p', g_a', m_ve', m_nr', e1, e2, hG'⟩ := p_neighbors hN hS hG g_k g_v m_ve x0 x1
  exact ⟨z, _, _, _, _, _, _, by decide, by decide, by decide, by decide, (ev_X7_neighbors e1), (ev_X8_neighbors e2), jJ_mk hN hS hH hP hT hI hW hA hV hG' hF hC⟩
theorem a_inducedPath {l : Launch} {E : tEn} {hX hM : tHp} (h : jJ hX hM) (x0 : Int32) (x1 : Int32) : tSameI l E jJ yX7_inducedPath cX7_inducedPath 4 yX8_inducedPath cX8_inducedPath 5 [.int x0, .int x1] hX hM := by
  obtain ⟨x_hs, s_n, s_sp, s_sb, s_sc, s_f, s_st, v_n, v_sp, v_sb, v_sc, v_f, v_st, h_k, h_s, h_c, g_k, g_v, g_p, g_a, g_t, c_k, c_t, c_p, i_l, i_n, i_f, i_p, i_o, i_b, w_l, w_s, x_e, x_l, cr, tl, m_n, m_pt, m_rc, m_sa, m_sb, m_sc, m_is, m_os, m_vn, m_vc, m_va, m_vb, m_ve, m_no, m_pl, m_fa, m_oc, m_fu, m_ke, m_t, m_f, m_rs, m_rt, m_rf, m_st, m_ib, m_ob, m_al, m_el, m_vt, m_vf, m_vs, m_nr, m_ty, m_pa, m_fn, m_md, m_ms, m_mr, n, sl, hi, sp, sb, c, st, inp, out, rfl, rfl, hN, hS, hH, hP, hT, hI, hW, hA, hV, hG, hF, hC⟩ := h
  unfold tSameI
  obtain ⟨z, g_k', g_v', g_p', g_a', g_t', m_ve', m_nr', e1, e2, hG'⟩ := p_inducedPath hN hS hG g_k g_v m_ve x0 x1
  exact ⟨z, _, _, _, _, _, _, by decide, by decide, by decide, by decide, (ev_X7_inducedPath e1), (ev_X8_inducedPath e2), jJ_mk hN hS hH hP hT hI hW hA hV hG' hF hC⟩
theorem a_badClique {l : Launch} {E : tEn} {hX hM : tHp} (h : jJ hX hM) (x0 : Int32) : tSameI l E jJ yX7_badClique cX7_badClique 3 yX8_badClique cX8_badClique 3 [.int x0] hX hM := by
  obtain ⟨x_hs, s_n, s_sp, s_sb, s_sc, s_f, s_st, v_n, v_sp, v_sb, v_sc, v_f, v_st, h_k, h_s, h_c, g_k, g_v, g_p, g_a, g_t, c_k, c_t, c_p, i_l, i_n, i_f, i_p, i_o, i_b, w_l, w_s, x_e, x_l, cr, tl, m_n, m_pt, m_rc, m_sa, m_sb, m_sc, m_is, m_os, m_vn, m_vc, m_va, m_vb, m_ve, m_no, m_pl, m_fa, m_oc, m_fu, m_ke, m_t, m_f, m_rs, m_rt, m_rf, m_st, m_ib, m_ob, m_al, m_el, m_vt, m_vf, m_vs, m_nr, m_ty, m_pa, m_fn, m_md, m_ms, m_mr, n, sl, hi, sp, sb, c, st, inp, out, rfl, rfl, hN, hS, hH, hP, hT, hI, hW, hA, hV, hG, hF, hC⟩ := h
  unfold tSameI
  obtain ⟨z, g_k', g_v', g_p', g_a', m_ve', m_nr', e1, e2, hG'⟩ := p_badClique hN hS hG g_k g_v m_ve x0
  exact ⟨z, _, _, _, _, _, _, by decide, by decide, by decide, by decide, (ev_X7_badClique e1), (ev_X8_badClique e2), jJ_mk hN hS hH hP hT hI hW hA hV hG' hF hC⟩
theorem a_reason {l : Launch} {E : tEn} {hX hM : tHp} (h : jJ hX hM) (x0 : Int32) : tSameI l E jJ yX7_reason cX7_reason 3 yX8_reason cX8_reason 2 [.int x0] hX hM := by
  obtain ⟨x_hs, s_n, s_sp, s_sb, s_sc, s_f, s_st, v_n, v_sp, v_sb, v_sc, v_f, v_st, h_k, h_s, h_c, g_k, g_v, g_p, g_a, g_t, c_k, c_t, c_p, i_l, i_n, i_f, i_p, i_o, i_b, w_l, w_s, x_e, x_l, cr, tl, m_n, m_pt, m_rc, m_sa, m_sb, m_sc, m_is, m_os, m_vn, m_vc, m_va, m_vb, m_ve, m_no, m_pl, m_fa, m_oc, m_fu, m_ke, m_t, m_f, m_rs, m_rt, m_rf, m_st, m_ib, m_ob, m_al, m_el, m_vt, m_vf, m_vs, m_nr, m_ty, m_pa, m_fn, m_md, m_ms, m_mr, n, sl, hi, sp, sb, c, st, inp, out, rfl, rfl, hN, hS, hH, hP, hT, hI, hW, hA, hV, hG, hF, hC⟩ := h
  unfold tSameI
  obtain ⟨z, g_k', g_v', g_p', g_a', g_t', m_ve', m_nr', e1, e2, hG'⟩ := p_reason hN hS hG g_k g_v m_ve x0
  exact ⟨z, _, _, _, _, _, _, by decide, by decide, by decide, by decide, (ev_X7_reason e1), (ev_X8_reason e2), jJ_mk hN hS hH hP hT hI hW hA hV hG' hF hC⟩
theorem a_nodes {l : Launch} {E : tEn} {hX hM : tHp} (h : jJ hX hM) (x0 : Int32) : tSameI l E jJ yX7_nodes cX7_nodes 3 yX8_nodes cX8_nodes 3 [.int x0] hX hM := by
  obtain ⟨x_hs, s_n, s_sp, s_sb, s_sc, s_f, s_st, v_n, v_sp, v_sb, v_sc, v_f, v_st, h_k, h_s, h_c, g_k, g_v, g_p, g_a, g_t, c_k, c_t, c_p, i_l, i_n, i_f, i_p, i_o, i_b, w_l, w_s, x_e, x_l, cr, tl, m_n, m_pt, m_rc, m_sa, m_sb, m_sc, m_is, m_os, m_vn, m_vc, m_va, m_vb, m_ve, m_no, m_pl, m_fa, m_oc, m_fu, m_ke, m_t, m_f, m_rs, m_rt, m_rf, m_st, m_ib, m_ob, m_al, m_el, m_vt, m_vf, m_vs, m_nr, m_ty, m_pa, m_fn, m_md, m_ms, m_mr, n, sl, hi, sp, sb, c, st, inp, out, rfl, rfl, hN, hS, hH, hP, hT, hI, hW, hA, hV, hG, hF, hC⟩ := h
  unfold tSameI
  obtain ⟨z, g_k', g_v', g_p', g_a', g_t', c_k', c_t', c_p', m_ve', m_no', m_nr', m_ty', m_pa', e1, e2, hG'⟩ := p_nodes hN hS hG g_k g_v c_k m_ve m_no x0
  exact ⟨z, _, _, _, _, _, _, by decide, by decide, by decide, by decide, (ev_X7_nodes e1), (ev_X8_nodes e2), jJ_mk hN hS hH hP hT hI hW hA hV hG' hF hC⟩
theorem a_nodeType {l : Launch} {E : tEn} {hX hM : tHp} (h : jJ hX hM) (x0 : Int32) (x1 : Int32) : tSameI l E jJ yX7_nodeType cX7_nodeType 4 yX8_nodeType cX8_nodeType 4 [.int x0, .int x1] hX hM := by
  obtain ⟨x_hs, s_n, s_sp, s_sb, s_sc, s_f, s_st, v_n, v_sp, v_sb, v_sc, v_f, v_st, h_k, h_s, h_c, g_k, g_v, g_p, g_a, g_t, c_k, c_t, c_p, i_l, i_n, i_f, i_p, i_o, i_b, w_l, w_s, x_e, x_l, cr, tl, m_n, m_pt, m_rc, m_sa, m_sb, m_sc, m_is, m_os, m_vn, m_vc, m_va, m_vb, m_ve, m_no, m_pl, m_fa, m_oc, m_fu, m_ke, m_t, m_f, m_rs, m_rt, m_rf, m_st, m_ib, m_ob, m_al, m_el, m_vt, m_vf, m_vs, m_nr, m_ty, m_pa, m_fn, m_md, m_ms, m_mr, n, sl, hi, sp, sb, c, st, inp, out, rfl, rfl, hN, hS, hH, hP, hT, hI, hW, hA, hV, hG, hF, hC⟩ := h
  unfold tSameI
  obtain ⟨z, g_k', g_v', g_p', g_a', g_t', c_k', c_t', c_p', m_ve', m_no', m_nr', m_ty', m_pa', e1, e2, hG'⟩ := p_nodeType hN hS hG g_k g_v c_k m_ve m_no x0 x1
  exact ⟨z, _, _, _, _, _, _, by decide, by decide, by decide, by decide, (ev_X7_nodeType e1), (ev_X8_nodeType e2), jJ_mk hN hS hH hP hT hI hW hA hV hG' hF hC⟩
theorem a_parent {l : Launch} {E : tEn} {hX hM : tHp} (h : jJ hX hM) (x0 : Int32) (x1 : Int32) : tSameI l E jJ yX7_parent cX7_parent 4 yX8_parent cX8_parent 4 [.int x0, .int x1] hX hM := by
  obtain ⟨x_hs, s_n, s_sp, s_sb, s_sc, s_f, s_st, v_n, v_sp, v_sb, v_sc, v_f, v_st, h_k, h_s, h_c, g_k, g_v, g_p, g_a, g_t, c_k, c_t, c_p, i_l, i_n, i_f, i_p, i_o, i_b, w_l, w_s, x_e, x_l, cr, tl, m_n, m_pt, m_rc, m_sa, m_sb, m_sc, m_is, m_os, m_vn, m_vc, m_va, m_vb, m_ve, m_no, m_pl, m_fa, m_oc, m_fu, m_ke, m_t, m_f, m_rs, m_rt, m_rf, m_st, m_ib, m_ob, m_al, m_el, m_vt, m_vf, m_vs, m_nr, m_ty, m_pa, m_fn, m_md, m_ms, m_mr, n, sl, hi, sp, sb, c, st, inp, out, rfl, rfl, hN, hS, hH, hP, hT, hI, hW, hA, hV, hG, hF, hC⟩ := h
  unfold tSameI
  obtain ⟨z, g_k', g_v', g_p', g_a', g_t', c_k', c_t', c_p', m_ve', m_no', m_nr', m_ty', m_pa', e1, e2, hG'⟩ := p_parent hN hS hG g_k g_v c_k m_ve m_no x0 x1
  exact ⟨z, _, _, _, _, _, _, by decide, by decide, by decide, by decide, (ev_X7_parent e1), (ev_X8_parent e2), jJ_mk hN hS hH hP hT hI hW hA hV hG' hF hC⟩
theorem a_depth {l : Launch} {E : tEn} {hX hM : tHp} (h : jJ hX hM) (x0 : Int32) (x1 : Int32) : tSameI l E jJ yX7_depth cX7_depth 4 yX8_depth cX8_depth 7 [.int x0, .int x1] hX hM := by
  obtain ⟨x_hs, s_n, s_sp, s_sb, s_sc, s_f, s_st, v_n, v_sp, v_sb, v_sc, v_f, v_st, h_k, h_s, h_c, g_k, g_v, g_p, g_a, g_t, c_k, c_t, c_p, i_l, i_n, i_f, i_p, i_o, i_b, w_l, w_s, x_e, x_l, cr, tl, m_n, m_pt, m_rc, m_sa, m_sb, m_sc, m_is, m_os, m_vn, m_vc, m_va, m_vb, m_ve, m_no, m_pl, m_fa, m_oc, m_fu, m_ke, m_t, m_f, m_rs, m_rt, m_rf, m_st, m_ib, m_ob, m_al, m_el, m_vt, m_vf, m_vs, m_nr, m_ty, m_pa, m_fn, m_md, m_ms, m_mr, n, sl, hi, sp, sb, c, st, inp, out, rfl, rfl, hN, hS, hH, hP, hT, hI, hW, hA, hV, hG, hF, hC⟩ := h
  unfold tSameI
  obtain ⟨z, g_k', g_v', g_p', g_a', g_t', c_k', c_t', c_p', m_ve', m_no', m_nr', m_ty', m_pa', e1, e2, hG'⟩ := p_depth hN hS hG g_k g_v c_k m_ve m_no x0 x1
  exact ⟨z, _, _, _, _, _, _, by decide, by decide, by decide, by decide, (ev_X7_depth e1), (ev_X8_depth e2), jJ_mk hN hS hH hP hT hI hW hA hV hG' hF hC⟩
theorem a_writeFormula {l : Launch} {E : tEn} {hX hM : tHp} (h : jJ hX hM) (x0 : Int32) : tSameI l E jJ yX7_writeFormula cX7_writeFormula 3 yX8_writeFormula cX8_writeFormula 3 [.int x0] hX hM := by
  obtain ⟨x_hs, s_n, s_sp, s_sb, s_sc, s_f, s_st, v_n, v_sp, v_sb, v_sc, v_f, v_st, h_k, h_s, h_c, g_k, g_v, g_p, g_a, g_t, c_k, c_t, c_p, i_l, i_n, i_f, i_p, i_o, i_b, w_l, w_s, x_e, x_l, cr, tl, m_n, m_pt, m_rc, m_sa, m_sb, m_sc, m_is, m_os, m_vn, m_vc, m_va, m_vb, m_ve, m_no, m_pl, m_fa, m_oc, m_fu, m_ke, m_t, m_f, m_rs, m_rt, m_rf, m_st, m_ib, m_ob, m_al, m_el, m_vt, m_vf, m_vs, m_nr, m_ty, m_pa, m_fn, m_md, m_ms, m_mr, n, sl, hi, sp, sb, c, st, inp, out, rfl, rfl, hN, hS, hH, hP, hT, hI, hW, hA, hV, hG, hF, hC⟩ := h
  unfold tSameI
  obtain ⟨z, g_k', g_v', g_p', g_a', g_t', c_k', c_t', c_p', w_l', w_s', m_os', m_ve', m_no', m_ob', m_nr', m_ty', m_pa', out', e1, e2, hW', hG'⟩ := p_writeFormula hN hS hW hG g_k g_v c_k m_ve m_no x0
  exact ⟨z, _, _, _, _, _, _, by decide, by decide, by decide, by decide, (ev_X7_writeFormula e1), (ev_X8_writeFormula e2), jJ_mk hN hS hH hP hT hI hW' hA hV hG' hF hC⟩
theorem a_output {l : Launch} {E : tEn} {hX hM : tHp} (h : jJ hX hM) (x0 : Int32) : tSameI l E jJ yX7_output cX7_output 2 yX8_output cX8_output 2 [.int x0] hX hM := by
  obtain ⟨x_hs, s_n, s_sp, s_sb, s_sc, s_f, s_st, v_n, v_sp, v_sb, v_sc, v_f, v_st, h_k, h_s, h_c, g_k, g_v, g_p, g_a, g_t, c_k, c_t, c_p, i_l, i_n, i_f, i_p, i_o, i_b, w_l, w_s, x_e, x_l, cr, tl, m_n, m_pt, m_rc, m_sa, m_sb, m_sc, m_is, m_os, m_vn, m_vc, m_va, m_vb, m_ve, m_no, m_pl, m_fa, m_oc, m_fu, m_ke, m_t, m_f, m_rs, m_rt, m_rf, m_st, m_ib, m_ob, m_al, m_el, m_vt, m_vf, m_vs, m_nr, m_ty, m_pa, m_fn, m_md, m_ms, m_mr, n, sl, hi, sp, sb, c, st, inp, out, rfl, rfl, hN, hS, hH, hP, hT, hI, hW, hA, hV, hG, hF, hC⟩ := h
  unfold tSameI
  obtain ⟨z, e1, e2⟩ := p_output hW x0
  exact ⟨z, _, _, _, _, _, _, by decide, by decide, by decide, by decide, (ev_X7_output e1), (ev_X8_output e2), jJ_mk hN hS hH hP hT hI hW hA hV hG hF hC⟩
theorem a_feed {l : Launch} {E : tEn} {hX hM : tHp} (h : jJ hX hM) (x0 : Int32) : tSameI l E jJ yX7_feed cX7_feed 2 yX8_feed cX8_feed 2 [.int x0] hX hM := by
  obtain ⟨x_hs, s_n, s_sp, s_sb, s_sc, s_f, s_st, v_n, v_sp, v_sb, v_sc, v_f, v_st, h_k, h_s, h_c, g_k, g_v, g_p, g_a, g_t, c_k, c_t, c_p, i_l, i_n, i_f, i_p, i_o, i_b, w_l, w_s, x_e, x_l, cr, tl, m_n, m_pt, m_rc, m_sa, m_sb, m_sc, m_is, m_os, m_vn, m_vc, m_va, m_vb, m_ve, m_no, m_pl, m_fa, m_oc, m_fu, m_ke, m_t, m_f, m_rs, m_rt, m_rf, m_st, m_ib, m_ob, m_al, m_el, m_vt, m_vf, m_vs, m_nr, m_ty, m_pa, m_fn, m_md, m_ms, m_mr, n, sl, hi, sp, sb, c, st, inp, out, rfl, rfl, hN, hS, hH, hP, hT, hI, hW, hA, hV, hG, hF, hC⟩ := h
  unfold tSameI
  obtain ⟨z, i_l', i_b', m_is', m_ib', inp', e1, e2, hI'⟩ := p_feed hI x0
  exact ⟨z, _, _, _, _, _, _, by decide, by decide, by decide, by decide, (ev_X7_feed e1), (ev_X8_feed e2), jJ_mk hN hS hH hP hT hI' hW hA hV hG hF hC⟩
theorem a_parse {l : Launch} {E : tEn} {hX hM : tHp} (h : jJ hX hM) (x0 : Int32) : tSameI l E jJ yX7_parse cX7_parse 4 yX8_parse cX8_parse 4 [.int x0] hX hM := by
  obtain ⟨x_hs, s_n, s_sp, s_sb, s_sc, s_f, s_st, v_n, v_sp, v_sb, v_sc, v_f, v_st, h_k, h_s, h_c, g_k, g_v, g_p, g_a, g_t, c_k, c_t, c_p, i_l, i_n, i_f, i_p, i_o, i_b, w_l, w_s, x_e, x_l, cr, tl, m_n, m_pt, m_rc, m_sa, m_sb, m_sc, m_is, m_os, m_vn, m_vc, m_va, m_vb, m_ve, m_no, m_pl, m_fa, m_oc, m_fu, m_ke, m_t, m_f, m_rs, m_rt, m_rf, m_st, m_ib, m_ob, m_al, m_el, m_vt, m_vf, m_vs, m_nr, m_ty, m_pa, m_fn, m_md, m_ms, m_mr, n, sl, hi, sp, sb, c, st, inp, out, rfl, rfl, hN, hS, hH, hP, hT, hI, hW, hA, hV, hG, hF, hC⟩ := h
  unfold tSameI
  obtain ⟨z, s_f', h_k', h_s', h_c', i_l', i_n', i_f', i_p', i_o', m_rc', m_is', m_pl', m_fa', m_oc', m_t', m_f', m_rs', m_rt', m_rf', sl', hi', inp', e1, e2, hS', hH', hI'⟩ := p_parse hN hS hH hI i_n i_f i_p i_o m_pl m_fa m_oc x0
  exact ⟨z, _, _, _, _, _, _, by decide, by decide, by decide, by decide, (ev_X7_parse e1), (ev_X8_parse e2), jJ_mk hN hS' hH' hP hT hI' hW hA hV hG hF hC⟩
theorem a_combine {l : Launch} {E : tEn} {hX hM : tHp} (h : jJ hX hM) (x0 : Int32) (x1 : Int32) (x2 : Int32) (x3 : Int32) : tSameI l E jJ yX7_combine cX7_combine 5 yX8_combine cX8_combine 9 [.int x0, .int x1, .int x2, .int x3] hX hM := by
  obtain ⟨x_hs, s_n, s_sp, s_sb, s_sc, s_f, s_st, v_n, v_sp, v_sb, v_sc, v_f, v_st, h_k, h_s, h_c, g_k, g_v, g_p, g_a, g_t, c_k, c_t, c_p, i_l, i_n, i_f, i_p, i_o, i_b, w_l, w_s, x_e, x_l, cr, tl, m_n, m_pt, m_rc, m_sa, m_sb, m_sc, m_is, m_os, m_vn, m_vc, m_va, m_vb, m_ve, m_no, m_pl, m_fa, m_oc, m_fu, m_ke, m_t, m_f, m_rs, m_rt, m_rf, m_st, m_ib, m_ob, m_al, m_el, m_vt, m_vf, m_vs, m_nr, m_ty, m_pa, m_fn, m_md, m_ms, m_mr, n, sl, hi, sp, sb, c, st, inp, out, rfl, rfl, hN, hS, hH, hP, hT, hI, hW, hA, hV, hG, hF, hC⟩ := h
  unfold tSameI
  obtain ⟨z, s_f', h_k', h_s', h_c', m_rc', m_t', m_f', m_rs', m_rt', m_rf', sl', hi', e1, e2, hS', hH'⟩ := p_combine hN hS hH x0 x1 x2 x3
  exact ⟨z, _, _, _, _, _, _, by decide, by decide, by decide, by decide, (ev_X7_combine e1), (ev_X8_combine e2), jJ_mk hN hS' hH' hP hT hI hW hA hV hG hF hC⟩
theorem a_dual {l : Launch} {E : tEn} {hX hM : tHp} (h : jJ hX hM) (x0 : Int32) (x1 : Int32) : tSameI l E jJ yX7_dual cX7_dual 9 yX8_dual cX8_dual 6 [.int x0, .int x1] hX hM := by
  obtain ⟨x_hs, s_n, s_sp, s_sb, s_sc, s_f, s_st, v_n, v_sp, v_sb, v_sc, v_f, v_st, h_k, h_s, h_c, g_k, g_v, g_p, g_a, g_t, c_k, c_t, c_p, i_l, i_n, i_f, i_p, i_o, i_b, w_l, w_s, x_e, x_l, cr, tl, m_n, m_pt, m_rc, m_sa, m_sb, m_sc, m_is, m_os, m_vn, m_vc, m_va, m_vb, m_ve, m_no, m_pl, m_fa, m_oc, m_fu, m_ke, m_t, m_f, m_rs, m_rt, m_rf, m_st, m_ib, m_ob, m_al, m_el, m_vt, m_vf, m_vs, m_nr, m_ty, m_pa, m_fn, m_md, m_ms, m_mr, n, sl, hi, sp, sb, c, st, inp, out, rfl, rfl, hN, hS, hH, hP, hT, hI, hW, hA, hV, hG, hF, hC⟩ := h
  unfold tSameI
  obtain ⟨z, s_f', h_k', h_s', h_c', m_rc', m_t', m_f', m_rs', m_rt', m_rf', sl', hi', e1, e2, hS', hH'⟩ := p_dual hN hS hH x0 x1
  exact ⟨z, _, _, _, _, _, _, by decide, by decide, by decide, by decide, (ev_X7_dual e1), (ev_X8_dual e2), jJ_mk hN hS' hH' hP hT hI hW hA hV hG hF hC⟩
theorem a_cofactor {l : Launch} {E : tEn} {hX hM : tHp} (h : jJ hX hM) (x0 : Int32) (x1 : Int32) (x2 : Int32) (x3 : Int32) : tSameI l E jJ yX7_cofactor cX7_cofactor 7 yX8_cofactor cX8_cofactor 8 [.int x0, .int x1, .int x2, .int x3] hX hM := by
  obtain ⟨x_hs, s_n, s_sp, s_sb, s_sc, s_f, s_st, v_n, v_sp, v_sb, v_sc, v_f, v_st, h_k, h_s, h_c, g_k, g_v, g_p, g_a, g_t, c_k, c_t, c_p, i_l, i_n, i_f, i_p, i_o, i_b, w_l, w_s, x_e, x_l, cr, tl, m_n, m_pt, m_rc, m_sa, m_sb, m_sc, m_is, m_os, m_vn, m_vc, m_va, m_vb, m_ve, m_no, m_pl, m_fa, m_oc, m_fu, m_ke, m_t, m_f, m_rs, m_rt, m_rf, m_st, m_ib, m_ob, m_al, m_el, m_vt, m_vf, m_vs, m_nr, m_ty, m_pa, m_fn, m_md, m_ms, m_mr, n, sl, hi, sp, sb, c, st, inp, out, rfl, rfl, hN, hS, hH, hP, hT, hI, hW, hA, hV, hG, hF, hC⟩ := h
  unfold tSameI
  obtain ⟨z, s_f', h_k', h_s', h_c', m_rc', m_t', m_f', m_rs', m_rt', m_rf', sl', hi', e1, e2, hS', hH'⟩ := p_cofactor hN hS hH x0 x1 x2 x3
  exact ⟨z, _, _, _, _, _, _, by decide, by decide, by decide, by decide, (ev_X7_cofactor e1), (ev_X8_cofactor e2), jJ_mk hN hS' hH' hP hT hI hW hA hV hG hF hC⟩
theorem a_substitute {l : Launch} {E : tEn} {hX hM : tHp} (h : jJ hX hM) (x0 : Int32) (x1 : Int32) (x2 : Int32) (x3 : Int32) : tSameI l E jJ yX7_substitute cX7_substitute 5 yX8_substitute cX8_substitute 9 [.int x0, .int x1, .int x2, .int x3] hX hM := by
  obtain ⟨x_hs, s_n, s_sp, s_sb, s_sc, s_f, s_st, v_n, v_sp, v_sb, v_sc, v_f, v_st, h_k, h_s, h_c, g_k, g_v, g_p, g_a, g_t, c_k, c_t, c_p, i_l, i_n, i_f, i_p, i_o, i_b, w_l, w_s, x_e, x_l, cr, tl, m_n, m_pt, m_rc, m_sa, m_sb, m_sc, m_is, m_os, m_vn, m_vc, m_va, m_vb, m_ve, m_no, m_pl, m_fa, m_oc, m_fu, m_ke, m_t, m_f, m_rs, m_rt, m_rf, m_st, m_ib, m_ob, m_al, m_el, m_vt, m_vf, m_vs, m_nr, m_ty, m_pa, m_fn, m_md, m_ms, m_mr, n, sl, hi, sp, sb, c, st, inp, out, rfl, rfl, hN, hS, hH, hP, hT, hI, hW, hA, hV, hG, hF, hC⟩ := h
  unfold tSameI
  obtain ⟨z, s_f', h_k', h_s', h_c', m_rc', m_t', m_f', m_rs', m_rt', m_rf', sl', hi', e1, e2, hS', hH'⟩ := p_substitute hN hS hH x0 x1 x2 x3
  exact ⟨z, _, _, _, _, _, _, by decide, by decide, by decide, by decide, (ev_X7_substitute e1), (ev_X8_substitute e2), jJ_mk hN hS' hH' hP hT hI hW hA hV hG hF hC⟩
theorem a_exchange {l : Launch} {E : tEn} {hX hM : tHp} (h : jJ hX hM) (x0 : Int32) (x1 : Int32) (x2 : Int32) (x3 : Int32) : tSameI l E jJ yX7_exchange cX7_exchange 11 yX8_exchange cX8_exchange 9 [.int x0, .int x1, .int x2, .int x3] hX hM := by
  obtain ⟨x_hs, s_n, s_sp, s_sb, s_sc, s_f, s_st, v_n, v_sp, v_sb, v_sc, v_f, v_st, h_k, h_s, h_c, g_k, g_v, g_p, g_a, g_t, c_k, c_t, c_p, i_l, i_n, i_f, i_p, i_o, i_b, w_l, w_s, x_e, x_l, cr, tl, m_n, m_pt, m_rc, m_sa, m_sb, m_sc, m_is, m_os, m_vn, m_vc, m_va, m_vb, m_ve, m_no, m_pl, m_fa, m_oc, m_fu, m_ke, m_t, m_f, m_rs, m_rt, m_rf, m_st, m_ib, m_ob, m_al, m_el, m_vt, m_vf, m_vs, m_nr, m_ty, m_pa, m_fn, m_md, m_ms, m_mr, n, sl, hi, sp, sb, c, st, inp, out, rfl, rfl, hN, hS, hH, hP, hT, hI, hW, hA, hV, hG, hF, hC⟩ := h
  unfold tSameI
  obtain ⟨z, s_f', h_k', h_s', h_c', m_rc', m_t', m_f', m_rs', m_rt', m_rf', sl', hi', e1, e2, hS', hH'⟩ := p_exchange hN hS hH x0 x1 x2 x3
  exact ⟨z, _, _, _, _, _, _, by decide, by decide, by decide, by decide, (ev_X7_exchange e1), (ev_X8_exchange e2), jJ_mk hN hS' hH' hP hT hI hW hA hV hG hF hC⟩
theorem a_random {l : Launch} {E : tEn} {hX hM : tHp} (h : jJ hX hM) (x0 : Int32) (x1 : Int32) (x2 : Int32) : tSameI l E jJ yX7_random cX7_random 4 yX8_random cX8_random 4 [.int x0, .int x1, .int x2] hX hM := by
  obtain ⟨x_hs, s_n, s_sp, s_sb, s_sc, s_f, s_st, v_n, v_sp, v_sb, v_sc, v_f, v_st, h_k, h_s, h_c, g_k, g_v, g_p, g_a, g_t, c_k, c_t, c_p, i_l, i_n, i_f, i_p, i_o, i_b, w_l, w_s, x_e, x_l, cr, tl, m_n, m_pt, m_rc, m_sa, m_sb, m_sc, m_is, m_os, m_vn, m_vc, m_va, m_vb, m_ve, m_no, m_pl, m_fa, m_oc, m_fu, m_ke, m_t, m_f, m_rs, m_rt, m_rf, m_st, m_ib, m_ob, m_al, m_el, m_vt, m_vf, m_vs, m_nr, m_ty, m_pa, m_fn, m_md, m_ms, m_mr, n, sl, hi, sp, sb, c, st, inp, out, rfl, rfl, hN, hS, hH, hP, hT, hI, hW, hA, hV, hG, hF, hC⟩ := h
  unfold tSameI
  obtain ⟨z, s_f', h_k', h_s', h_c', m_rc', m_t', m_f', m_rs', m_rt', m_rf', sl', hi', e1, e2, hS', hH'⟩ := p_random hN hS hH x0 x1 x2
  exact ⟨z, _, _, _, _, _, _, by decide, by decide, by decide, by decide, (ev_X7_random e1), (ev_X8_random e2), jJ_mk hN hS' hH' hP hT hI hW hA hV hG hF hC⟩
theorem a_readOnceTrials {l : Launch} {E : tEn} {hX hM : tHp} (h : jJ hX hM) (x0 : Int32) (x1 : Int32) (x2 : Int32) : tSameI l E jJ yX7_readOnceTrials cX7_readOnceTrials 6 yX8_readOnceTrials cX8_readOnceTrials 6 [.int x0, .int x1, .int x2] hX hM := by
  obtain ⟨x_hs, s_n, s_sp, s_sb, s_sc, s_f, s_st, v_n, v_sp, v_sb, v_sc, v_f, v_st, h_k, h_s, h_c, g_k, g_v, g_p, g_a, g_t, c_k, c_t, c_p, i_l, i_n, i_f, i_p, i_o, i_b, w_l, w_s, x_e, x_l, cr, tl, m_n, m_pt, m_rc, m_sa, m_sb, m_sc, m_is, m_os, m_vn, m_vc, m_va, m_vb, m_ve, m_no, m_pl, m_fa, m_oc, m_fu, m_ke, m_t, m_f, m_rs, m_rt, m_rf, m_st, m_ib, m_ob, m_al, m_el, m_vt, m_vf, m_vs, m_nr, m_ty, m_pa, m_fn, m_md, m_ms, m_mr, n, sl, hi, sp, sb, c, st, inp, out, rfl, rfl, hN, hS, hH, hP, hT, hI, hW, hA, hV, hG, hF, hC⟩ := h
  unfold tSameI
  obtain ⟨z, g_k', g_v', g_p', g_a', g_t', m_ve', m_nr', e1, e2, hG'⟩ := p_readOnceTrials hN hG g_k g_v m_ve x0 x1 x2
  exact ⟨z, _, _, _, _, _, _, by decide, by decide, by decide, by decide, (ev_X7_readOnceTrials e1), (ev_X8_readOnceTrials e2), jJ_mk hN hS hH hP hT hI hW hA hV hG' hF hC⟩
theorem a_addSample {l : Launch} {E : tEn} {hX hM : tHp} (h : jJ hX hM) (x0 : Int32) (x1 : Int32) : tSameI l E jJ yX7_addSample cX7_addSample 3 yX8_addSample cX8_addSample 3 [.int x0, .int x1] hX hM := by
  obtain ⟨x_hs, s_n, s_sp, s_sb, s_sc, s_f, s_st, v_n, v_sp, v_sb, v_sc, v_f, v_st, h_k, h_s, h_c, g_k, g_v, g_p, g_a, g_t, c_k, c_t, c_p, i_l, i_n, i_f, i_p, i_o, i_b, w_l, w_s, x_e, x_l, cr, tl, m_n, m_pt, m_rc, m_sa, m_sb, m_sc, m_is, m_os, m_vn, m_vc, m_va, m_vb, m_ve, m_no, m_pl, m_fa, m_oc, m_fu, m_ke, m_t, m_f, m_rs, m_rt, m_rf, m_st, m_ib, m_ob, m_al, m_el, m_vt, m_vf, m_vs, m_nr, m_ty, m_pa, m_fn, m_md, m_ms, m_mr, n, sl, hi, sp, sb, c, st, inp, out, rfl, rfl, hN, hS, hH, hP, hT, hI, hW, hA, hV, hG, hF, hC⟩ := h
  unfold tSameI
  obtain ⟨z, s_sp', s_sb', m_sa', m_sb', sp', sb', e1, e2, hP'⟩ := p_addSample hN hP x0 x1
  have h1 := ev_X7_addSample (l := l) (E := E) (cr := cr) (tl := tl) (x_hs := x_hs) (s_n := s_n) (s_sp := s_sp) (s_sb := s_sb) (s_sc := s_sc) (s_f := s_f) (s_st := s_st) (v_n := v_n) (v_sp := v_sp) (v_sb := v_sb) (v_sc := v_sc) (v_f := v_f) (v_st := v_st) (h_k := h_k) (h_s := h_s) (h_c := h_c) (g_k := g_k) (g_v := g_v) (g_p := g_p) (g_a := g_a) (g_t := g_t) (c_k := c_k) (c_t := c_t) (c_p := c_p) (i_l := i_l) (i_n := i_n) (i_f := i_f) (i_p := i_p) (i_o := i_o) (i_b := i_b) (w_l := w_l) (w_s := w_s) (x_e := x_e) (x_l := x_l) (a0 := x0) (a1 := x1)
  rw [e1] at h1
  exact ⟨z, _, _, _, _, _, _, by decide, by decide, by decide, by decide, h1, (ev_X8_addSample e2), jJ_mk hN hS hH hP' hT hI hW hA hV hG hF hC⟩
theorem a_removeSample {l : Launch} {E : tEn} {hX hM : tHp} (h : jJ hX hM) (x0 : Int32) : tSameI l E jJ yX7_removeSample cX7_removeSample 2 yX8_removeSample cX8_removeSample 2 [.int x0] hX hM := by
  obtain ⟨x_hs, s_n, s_sp, s_sb, s_sc, s_f, s_st, v_n, v_sp, v_sb, v_sc, v_f, v_st, h_k, h_s, h_c, g_k, g_v, g_p, g_a, g_t, c_k, c_t, c_p, i_l, i_n, i_f, i_p, i_o, i_b, w_l, w_s, x_e, x_l, cr, tl, m_n, m_pt, m_rc, m_sa, m_sb, m_sc, m_is, m_os, m_vn, m_vc, m_va, m_vb, m_ve, m_no, m_pl, m_fa, m_oc, m_fu, m_ke, m_t, m_f, m_rs, m_rt, m_rf, m_st, m_ib, m_ob, m_al, m_el, m_vt, m_vf, m_vs, m_nr, m_ty, m_pa, m_fn, m_md, m_ms, m_mr, n, sl, hi, sp, sb, c, st, inp, out, rfl, rfl, hN, hS, hH, hP, hT, hI, hW, hA, hV, hG, hF, hC⟩ := h
  unfold tSameI
  obtain ⟨z, s_sp', s_sb', m_sa', m_sb', sp', sb', e1, e2, hP'⟩ := p_removeSample hN hP x0
  have h1 := ev_X7_removeSample (l := l) (E := E) (cr := cr) (tl := tl) (x_hs := x_hs) (s_n := s_n) (s_sp := s_sp) (s_sb := s_sb) (s_sc := s_sc) (s_f := s_f) (s_st := s_st) (v_n := v_n) (v_sp := v_sp) (v_sb := v_sb) (v_sc := v_sc) (v_f := v_f) (v_st := v_st) (h_k := h_k) (h_s := h_s) (h_c := h_c) (g_k := g_k) (g_v := g_v) (g_p := g_p) (g_a := g_a) (g_t := g_t) (c_k := c_k) (c_t := c_t) (c_p := c_p) (i_l := i_l) (i_n := i_n) (i_f := i_f) (i_p := i_p) (i_o := i_o) (i_b := i_b) (w_l := w_l) (w_s := w_s) (x_e := x_e) (x_l := x_l) (a0 := x0)
  rw [e1] at h1
  exact ⟨z, _, _, _, _, _, _, by decide, by decide, by decide, by decide, h1, (ev_X8_removeSample e2), jJ_mk hN hS hH hP' hT hI hW hA hV hG hF hC⟩
theorem a_extensions {l : Launch} {E : tEn} {hX hM : tHp} (h : jJ hX hM)  : tSameI l E jJ yX7_extensions cX7_extensions 4 yX8_extensions cX8_extensions 3 [] hX hM := by
  obtain ⟨x_hs, s_n, s_sp, s_sb, s_sc, s_f, s_st, v_n, v_sp, v_sb, v_sc, v_f, v_st, h_k, h_s, h_c, g_k, g_v, g_p, g_a, g_t, c_k, c_t, c_p, i_l, i_n, i_f, i_p, i_o, i_b, w_l, w_s, x_e, x_l, cr, tl, m_n, m_pt, m_rc, m_sa, m_sb, m_sc, m_is, m_os, m_vn, m_vc, m_va, m_vb, m_ve, m_no, m_pl, m_fa, m_oc, m_fu, m_ke, m_t, m_f, m_rs, m_rt, m_rf, m_st, m_ib, m_ob, m_al, m_el, m_vt, m_vf, m_vs, m_nr, m_ty, m_pa, m_fn, m_md, m_ms, m_mr, n, sl, hi, sp, sb, c, st, inp, out, rfl, rfl, hN, hS, hH, hP, hT, hI, hW, hA, hV, hG, hF, hC⟩ := h
  unfold tSameI
  obtain ⟨hn0, hn, e1, e2, e3⟩ := id hN
  obtain ⟨p1, p2, e4, e5, e6, e7⟩ := id hP
  obtain ⟨f1, f2, -⟩ := id hF
  have hp : ∃ z, f_X7_extensions s_n s_sp s_sb (nI CE.length) (CE.map lN) = some z ∧ f_X8_extensions m_sa m_sb m_fu m_fn = some z := by
    rw [e1, e4, e5, e6, e7, f1]
    exact p_extensions hn0 hn p1 p2 f2
  obtain ⟨z, g1, g2⟩ := hp
  rcases hC with ⟨rfl, rfl⟩ | ⟨kk, ke, ks, hk, he, rfl, rfl⟩
  · obtain ⟨ks, hb⟩ := X_build
    generalize hk : nI CE.length = kk at hb g1
    generalize he : CE.map lN = ke at hb g1
    have hk := hk.symm
    have he := he.symm
    exact ⟨z, _, _, _, _, _, _, by decide, by decide, by decide, by decide, ev_X7_extensions (ev_open0 hb) g1, ev_X8_extensions g2, jJ_mk hN hS hH hP hT hI hW hA hV hG hF (Or.inr ⟨kk, ke, ks, hk, he, rfl, rfl⟩)⟩
  · rw [← hk, ← he] at g1
    exact ⟨z, _, _, _, _, _, _, by decide, by decide, by decide, by decide, ev_X7_extensions ev_open1 g1, ev_X8_extensions g2, jJ_mk hN hS hH hP hT hI hW hA hV hG hF (Or.inr ⟨kk, ke, ks, hk, he, rfl, rfl⟩)⟩
theorem a_extension {l : Launch} {E : tEn} {hX hM : tHp} (h : jJ hX hM) (x0 : Int32) : tSameJ l E jJ yX7_extension cX7_extension 5 yX8_extension cX8_extension 4 [.int x0] hX hM := by
  obtain ⟨x_hs, s_n, s_sp, s_sb, s_sc, s_f, s_st, v_n, v_sp, v_sb, v_sc, v_f, v_st, h_k, h_s, h_c, g_k, g_v, g_p, g_a, g_t, c_k, c_t, c_p, i_l, i_n, i_f, i_p, i_o, i_b, w_l, w_s, x_e, x_l, cr, tl, m_n, m_pt, m_rc, m_sa, m_sb, m_sc, m_is, m_os, m_vn, m_vc, m_va, m_vb, m_ve, m_no, m_pl, m_fa, m_oc, m_fu, m_ke, m_t, m_f, m_rs, m_rt, m_rf, m_st, m_ib, m_ob, m_al, m_el, m_vt, m_vf, m_vs, m_nr, m_ty, m_pa, m_fn, m_md, m_ms, m_mr, n, sl, hi, sp, sb, c, st, inp, out, rfl, rfl, hN, hS, hH, hP, hT, hI, hW, hA, hV, hG, hF, hC⟩ := h
  unfold tSameJ
  obtain ⟨hn0, hn, e1, e2, e3⟩ := id hN
  obtain ⟨p1, p2, e4, e5, e6, e7⟩ := id hP
  obtain ⟨f1, f2, -⟩ := id hF
  have hp : ∃ z, f_X7_extension x0 s_n s_sp s_sb (nI CE.length) (CE.map lN) = some z ∧ f_X8_extension x0 m_sa m_sb m_fu m_fn = some z := by
    rw [e1, e4, e5, e6, e7, f1]
    exact p_extension hn0 hn p1 p2 f2 x0
  obtain ⟨z, g1, g2⟩ := hp
  rcases hC with ⟨rfl, rfl⟩ | ⟨kk, ke, ks, hk, he, rfl, rfl⟩
  · obtain ⟨ks, hb⟩ := X_build
    generalize hk : nI CE.length = kk at hb g1
    generalize he : CE.map lN = ke at hb g1
    have hk := hk.symm
    have he := he.symm
    exact ⟨z, _, _, _, _, _, _, by decide, by decide, by decide, by decide, ev_X7_extension (ev_open0 hb) g1, ev_X8_extension g2, jJ_mk hN hS hH hP hT hI hW hA hV hG hF (Or.inr ⟨kk, ke, ks, hk, he, rfl, rfl⟩)⟩
  · rw [← hk, ← he] at g1
    exact ⟨z, _, _, _, _, _, _, by decide, by decide, by decide, by decide, ev_X7_extension ev_open1 g1, ev_X8_extension g2, jJ_mk hN hS hH hP hT hI hW hA hV hG hF (Or.inr ⟨kk, ke, ks, hk, he, rfl, rfl⟩)⟩
theorem a_simplestExtension {l : Launch} {E : tEn} {hX hM : tHp} (h : jJ hX hM)  : tSameJ l E jJ yX7_simplestExtension cX7_simplestExtension 7 yX8_simplestExtension cX8_simplestExtension 3 [] hX hM := by
  obtain ⟨x_hs, s_n, s_sp, s_sb, s_sc, s_f, s_st, v_n, v_sp, v_sb, v_sc, v_f, v_st, h_k, h_s, h_c, g_k, g_v, g_p, g_a, g_t, c_k, c_t, c_p, i_l, i_n, i_f, i_p, i_o, i_b, w_l, w_s, x_e, x_l, cr, tl, m_n, m_pt, m_rc, m_sa, m_sb, m_sc, m_is, m_os, m_vn, m_vc, m_va, m_vb, m_ve, m_no, m_pl, m_fa, m_oc, m_fu, m_ke, m_t, m_f, m_rs, m_rt, m_rf, m_st, m_ib, m_ob, m_al, m_el, m_vt, m_vf, m_vs, m_nr, m_ty, m_pa, m_fn, m_md, m_ms, m_mr, n, sl, hi, sp, sb, c, st, inp, out, rfl, rfl, hN, hS, hH, hP, hT, hI, hW, hA, hV, hG, hF, hC⟩ := h
  unfold tSameJ
  obtain ⟨hn0, hn, e1, e2, e3⟩ := id hN
  obtain ⟨p1, p2, e4, e5, e6, e7⟩ := id hP
  obtain ⟨f1, f2, -⟩ := id hF
  have hp : ∃ z, f_X7_simplestExtension s_n s_sp s_sb (nI CE.length) (CE.map lN) = some z ∧ f_X8_simplestExtension m_n m_pt m_sa m_sb m_fu m_fn = some z := by
    rw [e1, e2, e3, e4, e5, e6, e7, f1]
    exact p_simplest hn0 hn p1 p2 f2
  obtain ⟨z, g1, g2⟩ := hp
  rcases hC with ⟨rfl, rfl⟩ | ⟨kk, ke, ks, hk, he, rfl, rfl⟩
  · obtain ⟨ks, hb⟩ := X_build
    generalize hk : nI CE.length = kk at hb g1
    generalize he : CE.map lN = ke at hb g1
    have hk := hk.symm
    have he := he.symm
    exact ⟨z, _, _, _, _, _, _, by decide, by decide, by decide, by decide, ev_X7_simplestExtension (ev_open0 hb) g1, ev_X8_simplestExtension g2, jJ_mk hN hS hH hP hT hI hW hA hV hG hF (Or.inr ⟨kk, ke, ks, hk, he, rfl, rfl⟩)⟩
  · rw [← hk, ← he] at g1
    exact ⟨z, _, _, _, _, _, _, by decide, by decide, by decide, by decide, ev_X7_simplestExtension ev_open1 g1, ev_X8_simplestExtension g2, jJ_mk hN hS hH hP hT hI hW hA hV hG hF (Or.inr ⟨kk, ke, ks, hk, he, rfl, rfl⟩)⟩
theorem a_readOnceCount {l : Launch} {E : tEn} {hX hM : tHp} (h : jJ hX hM) (x0 : Int32) : tSameI l E jJ yX7_readOnceCount cX7_readOnceCount 6 yX8_readOnceCount cX8_readOnceCount 4 [.int x0] hX hM := by
  obtain ⟨x_hs, s_n, s_sp, s_sb, s_sc, s_f, s_st, v_n, v_sp, v_sb, v_sc, v_f, v_st, h_k, h_s, h_c, g_k, g_v, g_p, g_a, g_t, c_k, c_t, c_p, i_l, i_n, i_f, i_p, i_o, i_b, w_l, w_s, x_e, x_l, cr, tl, m_n, m_pt, m_rc, m_sa, m_sb, m_sc, m_is, m_os, m_vn, m_vc, m_va, m_vb, m_ve, m_no, m_pl, m_fa, m_oc, m_fu, m_ke, m_t, m_f, m_rs, m_rt, m_rf, m_st, m_ib, m_ob, m_al, m_el, m_vt, m_vf, m_vs, m_nr, m_ty, m_pa, m_fn, m_md, m_ms, m_mr, n, sl, hi, sp, sb, c, st, inp, out, rfl, rfl, hN, hS, hH, hP, hT, hI, hW, hA, hV, hG, hF, hC⟩ := h
  unfold tSameI
  obtain ⟨hn0, hn, e1, e2, e3⟩ := id hN
  obtain ⟨p1, p2, e4, e5, e6, e7⟩ := id hP
  obtain ⟨f1, f2, -⟩ := id hF
  have hix := n_ix x0 (N := n + 1) (by omega) (by omega)
  have eX : s_n + 1 = nI (n + 1) := by rw [e1, nI_1]
  have eM : Int32.toInt64 m_n = lN (n + 1 - 1) := by rw [e2, nI_l (by omega)]; rfl
  have e0 : (0 : Int64) = lN 0 := rfl
  rcases hix with ⟨i1, i2⟩ | ⟨j, hj, -, i1, i2⟩
  · have b2 : f_X8_readOnceCount x0 m_n m_pt m_fu m_fn = some (-2) := by unfold f_X8_readOnceCount; rw [eM, e0, if_pos i2]
    exact ⟨-2, _, _, _, _, _, _, by decide, by decide, by decide, by decide, ev_X7_readOnceCount_bad (by rw [eX]; exact i1), ev_X8_readOnceCount b2, jJ_mk hN hS hH hP hT hI hW hA hV hG hF hC⟩
  have hp : ∃ z, f_X7_readOnceCount x0 s_n (nI CE.length) (CE.map lN) = some z ∧ f_X8_readOnceCount x0 m_n m_pt m_fu m_fn = some z := by
    unfold f_X8_readOnceCount
    rw [eM, e0, if_neg (ne10 i2), e1, e2, e3, f1]
    exact p_readOnceCount hn0 hn f2 x0
  have hc : ¬ f_X7_isIndex x0 (s_n + 1) = 0 := by rw [eX]; exact ne10 i1
  obtain ⟨z, g1, g2⟩ := hp
  rcases hC with ⟨rfl, rfl⟩ | ⟨kk, ke, ks, hk, he, rfl, rfl⟩
  · obtain ⟨ks, hb⟩ := X_build
    generalize hk : nI CE.length = kk at hb g1
    generalize he : CE.map lN = ke at hb g1
    have hk := hk.symm
    have he := he.symm
    exact ⟨z, _, _, _, _, _, _, by decide, by decide, by decide, by decide, ev_X7_readOnceCount (ev_open0 hb) hc g1, ev_X8_readOnceCount g2, jJ_mk hN hS hH hP hT hI hW hA hV hG hF (Or.inr ⟨kk, ke, ks, hk, he, rfl, rfl⟩)⟩
  · rw [← hk, ← he] at g1
    exact ⟨z, _, _, _, _, _, _, by decide, by decide, by decide, by decide, ev_X7_readOnceCount ev_open1 hc g1, ev_X8_readOnceCount g2, jJ_mk hN hS hH hP hT hI hW hA hV hG hF (Or.inr ⟨kk, ke, ks, hk, he, rfl, rfl⟩)⟩
theorem a_addStep {l : Launch} {E : tEn} {hX hM : tHp} (h : jJ hX hM) (x0 : Int32) (x1 : Int32) (x2 : Int32) (x3 : Int32) : tSameI l E jJ yX7_addStep cX7_addStep 5 yX8_addStep cX8_addStep 5 [.int x0, .int x1, .int x2, .int x3] hX hM := by
  obtain ⟨x_hs, s_n, s_sp, s_sb, s_sc, s_f, s_st, v_n, v_sp, v_sb, v_sc, v_f, v_st, h_k, h_s, h_c, g_k, g_v, g_p, g_a, g_t, c_k, c_t, c_p, i_l, i_n, i_f, i_p, i_o, i_b, w_l, w_s, x_e, x_l, cr, tl, m_n, m_pt, m_rc, m_sa, m_sb, m_sc, m_is, m_os, m_vn, m_vc, m_va, m_vb, m_ve, m_no, m_pl, m_fa, m_oc, m_fu, m_ke, m_t, m_f, m_rs, m_rt, m_rf, m_st, m_ib, m_ob, m_al, m_el, m_vt, m_vf, m_vs, m_nr, m_ty, m_pa, m_fn, m_md, m_ms, m_mr, n, sl, hi, sp, sb, c, st, inp, out, rfl, rfl, hN, hS, hH, hP, hT, hI, hW, hA, hV, hG, hF, hC⟩ := h
  unfold tSameI
  obtain ⟨z, s_sc', s_st', m_sc', m_st', c', st', e1, e2, hT'⟩ := p_addStep hT x0 x1 x2 x3
  exact ⟨z, _, _, _, _, _, _, by decide, by decide, by decide, by decide, (ev_X7_addStep e1), (ev_X8_addStep e2), jJ_mk hN hS hH hP hT' hI hW hA hV hG hF hC⟩
theorem a_clearSteps {l : Launch} {E : tEn} {hX hM : tHp} (h : jJ hX hM)  : tSameI l E jJ yX7_clearSteps cX7_clearSteps 2 yX8_clearSteps cX8_clearSteps 2 [] hX hM := by
  obtain ⟨x_hs, s_n, s_sp, s_sb, s_sc, s_f, s_st, v_n, v_sp, v_sb, v_sc, v_f, v_st, h_k, h_s, h_c, g_k, g_v, g_p, g_a, g_t, c_k, c_t, c_p, i_l, i_n, i_f, i_p, i_o, i_b, w_l, w_s, x_e, x_l, cr, tl, m_n, m_pt, m_rc, m_sa, m_sb, m_sc, m_is, m_os, m_vn, m_vc, m_va, m_vb, m_ve, m_no, m_pl, m_fa, m_oc, m_fu, m_ke, m_t, m_f, m_rs, m_rt, m_rf, m_st, m_ib, m_ob, m_al, m_el, m_vt, m_vf, m_vs, m_nr, m_ty, m_pa, m_fn, m_md, m_ms, m_mr, n, sl, hi, sp, sb, c, st, inp, out, rfl, rfl, hN, hS, hH, hP, hT, hI, hW, hA, hV, hG, hF, hC⟩ := h
  unfold tSameI
  obtain ⟨z, s_sc', m_sc', c', st', e1, e2, hT'⟩ := p_clearSteps hT
  have h1 := ev_X7_clearSteps (l := l) (E := E) (cr := cr) (tl := tl) (x_hs := x_hs) (s_n := s_n) (s_sp := s_sp) (s_sb := s_sb) (s_sc := s_sc) (s_f := s_f) (s_st := s_st) (v_n := v_n) (v_sp := v_sp) (v_sb := v_sb) (v_sc := v_sc) (v_f := v_f) (v_st := v_st) (h_k := h_k) (h_s := h_s) (h_c := h_c) (g_k := g_k) (g_v := g_v) (g_p := g_p) (g_a := g_a) (g_t := g_t) (c_k := c_k) (c_t := c_t) (c_p := c_p) (i_l := i_l) (i_n := i_n) (i_f := i_f) (i_p := i_p) (i_o := i_o) (i_b := i_b) (w_l := w_l) (w_s := w_s) (x_e := x_e) (x_l := x_l) 
  rw [e1] at h1
  have h2 := ev_X8_clearSteps (l := l) (E := E) (m_n := m_n) (m_pt := m_pt) (m_rc := m_rc) (m_sa := m_sa) (m_sb := m_sb) (m_sc := m_sc) (m_is := m_is) (m_os := m_os) (m_vn := m_vn) (m_vc := m_vc) (m_va := m_va) (m_vb := m_vb) (m_ve := m_ve) (m_no := m_no) (m_pl := m_pl) (m_fa := m_fa) (m_oc := m_oc) (m_fu := m_fu) (m_ke := m_ke) (m_t := m_t) (m_f := m_f) (m_rs := m_rs) (m_rt := m_rt) (m_rf := m_rf) (m_st := m_st) (m_ib := m_ib) (m_ob := m_ob) (m_al := m_al) (m_el := m_el) (m_vt := m_vt) (m_vf := m_vf) (m_vs := m_vs) (m_nr := m_nr) (m_ty := m_ty) (m_pa := m_pa) (m_fn := m_fn) (m_md := m_md) (m_ms := m_ms) (m_mr := m_mr) 
  rw [e2] at h2
  exact ⟨z, _, _, _, _, _, _, by decide, by decide, by decide, by decide, h1, h2, jJ_mk hN hS hH hP hT' hI hW hA hV hG hF hC⟩
theorem a_runSteps {l : Launch} {E : tEn} {hX hM : tHp} (h : jJ hX hM)  : tSameI l E jJ yX7_runSteps cX7_runSteps 3 yX8_runSteps cX8_runSteps 3 [] hX hM := by
  obtain ⟨x_hs, s_n, s_sp, s_sb, s_sc, s_f, s_st, v_n, v_sp, v_sb, v_sc, v_f, v_st, h_k, h_s, h_c, g_k, g_v, g_p, g_a, g_t, c_k, c_t, c_p, i_l, i_n, i_f, i_p, i_o, i_b, w_l, w_s, x_e, x_l, cr, tl, m_n, m_pt, m_rc, m_sa, m_sb, m_sc, m_is, m_os, m_vn, m_vc, m_va, m_vb, m_ve, m_no, m_pl, m_fa, m_oc, m_fu, m_ke, m_t, m_f, m_rs, m_rt, m_rf, m_st, m_ib, m_ob, m_al, m_el, m_vt, m_vf, m_vs, m_nr, m_ty, m_pa, m_fn, m_md, m_ms, m_mr, n, sl, hi, sp, sb, c, st, inp, out, rfl, rfl, hN, hS, hH, hP, hT, hI, hW, hA, hV, hG, hF, hC⟩ := h
  unfold tSameI
  obtain ⟨z, s_f', h_k', h_s', h_c', m_rc', m_t', m_f', m_rs', m_rt', m_rf', sl', hi', e1, e2, hS', hH'⟩ := p_runSteps hN hS hH hT
  exact ⟨z, _, _, _, _, _, _, by decide, by decide, by decide, by decide, (ev_X7_runSteps e1), (ev_X8_runSteps e2), jJ_mk hN hS' hH' hP hT hI hW hA hV hG hF hC⟩
theorem a_undo {l : Launch} {E : tEn} {hX hM : tHp} (h : jJ hX hM)  : tSameI l E jJ yX7_undo cX7_undo 2 yX8_undo cX8_undo 2 [] hX hM := by
  obtain ⟨x_hs, s_n, s_sp, s_sb, s_sc, s_f, s_st, v_n, v_sp, v_sb, v_sc, v_f, v_st, h_k, h_s, h_c, g_k, g_v, g_p, g_a, g_t, c_k, c_t, c_p, i_l, i_n, i_f, i_p, i_o, i_b, w_l, w_s, x_e, x_l, cr, tl, m_n, m_pt, m_rc, m_sa, m_sb, m_sc, m_is, m_os, m_vn, m_vc, m_va, m_vb, m_ve, m_no, m_pl, m_fa, m_oc, m_fu, m_ke, m_t, m_f, m_rs, m_rt, m_rf, m_st, m_ib, m_ob, m_al, m_el, m_vt, m_vf, m_vs, m_nr, m_ty, m_pa, m_fn, m_md, m_ms, m_mr, n, sl, hi, sp, sb, c, st, inp, out, rfl, rfl, hN, hS, hH, hP, hT, hI, hW, hA, hV, hG, hF, hC⟩ := h
  unfold tSameI
  obtain ⟨z, s_f', h_k', m_rc', m_t', m_f', sl', hi', e1, e2, hS', hH'⟩ := p_undo hS hH
  exact ⟨z, _, _, _, _, _, _, by decide, by decide, by decide, by decide, (ev_X7_undo e1), (ev_X8_undo e2), jJ_mk hN hS' hH' hP hT hI hW hA hV hG hF hC⟩
theorem a_save {l : Launch} {E : tEn} {hX hM : tHp} (h : jJ hX hM)  : tSameI l E jJ yX7_save cX7_save 1 yX8_save cX8_save 2 [] hX hM := by
  obtain ⟨x_hs, s_n, s_sp, s_sb, s_sc, s_f, s_st, v_n, v_sp, v_sb, v_sc, v_f, v_st, h_k, h_s, h_c, g_k, g_v, g_p, g_a, g_t, c_k, c_t, c_p, i_l, i_n, i_f, i_p, i_o, i_b, w_l, w_s, x_e, x_l, cr, tl, m_n, m_pt, m_rc, m_sa, m_sb, m_sc, m_is, m_os, m_vn, m_vc, m_va, m_vb, m_ve, m_no, m_pl, m_fa, m_oc, m_fu, m_ke, m_t, m_f, m_rs, m_rt, m_rf, m_st, m_ib, m_ob, m_al, m_el, m_vt, m_vf, m_vs, m_nr, m_ty, m_pa, m_fn, m_md, m_ms, m_mr, n, sl, hi, sp, sb, c, st, inp, out, rfl, rfl, hN, hS, hH, hP, hT, hI, hW, hA, hV, hG, hF, hC⟩ := h
  unfold tSameI
  obtain ⟨z, x_hs', v_n', v_sp', v_sb', v_sc', v_f', v_st', m_vn', m_vc', m_va', m_vb', m_vt', m_vf', m_vs', e1, e2, hV'⟩ := p_save hN hS hP hT hV
  exact ⟨z, _, _, _, _, _, _, by decide, by decide, by decide, by decide, (ev_X7_save e1), (ev_X8_save e2), jJ_mk hN hS hH hP hT hI hW hA hV' hG hF hC⟩
theorem a_restore {l : Launch} {E : tEn} {hX hM : tHp} (h : jJ hX hM)  : tSameI l E jJ yX7_restore cX7_restore 1 yX8_restore cX8_restore 2 [] hX hM := by
  obtain ⟨x_hs, s_n, s_sp, s_sb, s_sc, s_f, s_st, v_n, v_sp, v_sb, v_sc, v_f, v_st, h_k, h_s, h_c, g_k, g_v, g_p, g_a, g_t, c_k, c_t, c_p, i_l, i_n, i_f, i_p, i_o, i_b, w_l, w_s, x_e, x_l, cr, tl, m_n, m_pt, m_rc, m_sa, m_sb, m_sc, m_is, m_os, m_vn, m_vc, m_va, m_vb, m_ve, m_no, m_pl, m_fa, m_oc, m_fu, m_ke, m_t, m_f, m_rs, m_rt, m_rf, m_st, m_ib, m_ob, m_al, m_el, m_vt, m_vf, m_vs, m_nr, m_ty, m_pa, m_fn, m_md, m_ms, m_mr, n, sl, hi, sp, sb, c, st, inp, out, rfl, rfl, hN, hS, hH, hP, hT, hI, hW, hA, hV, hG, hF, hC⟩ := h
  unfold tSameI
  obtain ⟨z, s_n', s_sp', s_sb', s_sc', s_f', s_st', h_k', m_n', m_pt', m_rc', m_sa', m_sb', m_sc', m_fu', m_ke', m_t', m_f', m_st', m_fn', m_md', m_ms', m_mr', n', sl', hi', sp', sb', c', st', e1, e2, hN', hS', hH', hP', hT', hF'⟩ := p_restore hN hS hH hP hT hV hF m_ke
  exact ⟨z, _, _, _, _, _, _, by decide, by decide, by decide, by decide, (ev_X7_restore e1), (ev_X8_restore e2), jJ_mk hN' hS' hH' hP' hT' hI hW hA hV hG hF' hC⟩
theorem a_createArray {l : Launch} {E : tEn} {hX hM : tHp} (h : jJ hX hM) (x0 : Int32) (x1 : Int32) : tSameI l E jJ yX7_createArray cX7_createArray 4 yX8_createArray cX8_createArray 4 [.int x0, .int x1] hX hM := by
  obtain ⟨x_hs, s_n, s_sp, s_sb, s_sc, s_f, s_st, v_n, v_sp, v_sb, v_sc, v_f, v_st, h_k, h_s, h_c, g_k, g_v, g_p, g_a, g_t, c_k, c_t, c_p, i_l, i_n, i_f, i_p, i_o, i_b, w_l, w_s, x_e, x_l, cr, tl, m_n, m_pt, m_rc, m_sa, m_sb, m_sc, m_is, m_os, m_vn, m_vc, m_va, m_vb, m_ve, m_no, m_pl, m_fa, m_oc, m_fu, m_ke, m_t, m_f, m_rs, m_rt, m_rf, m_st, m_ib, m_ob, m_al, m_el, m_vt, m_vf, m_vs, m_nr, m_ty, m_pa, m_fn, m_md, m_ms, m_mr, n, sl, hi, sp, sb, c, st, inp, out, rfl, rfl, hN, hS, hH, hP, hT, hI, hW, hA, hV, hG, hF, hC⟩ := h
  unfold tSameI
  obtain ⟨z, x_e', x_l', m_al', m_el', e1, e2, hA'⟩ := p_createArray hA x0 x1
  exact ⟨z, _, _, _, _, _, _, by decide, by decide, by decide, by decide, (ev_X7_createArray e1), (ev_X8_createArray e2), jJ_mk hN hS hH hP hT hI hW hA' hV hG hF hC⟩
theorem a_setElement {l : Launch} {E : tEn} {hX hM : tHp} (h : jJ hX hM) (x0 : Int32) (x1 : Int32) (x2 : Int32) : tSameI l E jJ yX7_setElement cX7_setElement 4 yX8_setElement cX8_setElement 4 [.int x0, .int x1, .int x2] hX hM := by
  obtain ⟨x_hs, s_n, s_sp, s_sb, s_sc, s_f, s_st, v_n, v_sp, v_sb, v_sc, v_f, v_st, h_k, h_s, h_c, g_k, g_v, g_p, g_a, g_t, c_k, c_t, c_p, i_l, i_n, i_f, i_p, i_o, i_b, w_l, w_s, x_e, x_l, cr, tl, m_n, m_pt, m_rc, m_sa, m_sb, m_sc, m_is, m_os, m_vn, m_vc, m_va, m_vb, m_ve, m_no, m_pl, m_fa, m_oc, m_fu, m_ke, m_t, m_f, m_rs, m_rt, m_rf, m_st, m_ib, m_ob, m_al, m_el, m_vt, m_vf, m_vs, m_nr, m_ty, m_pa, m_fn, m_md, m_ms, m_mr, n, sl, hi, sp, sb, c, st, inp, out, rfl, rfl, hN, hS, hH, hP, hT, hI, hW, hA, hV, hG, hF, hC⟩ := h
  unfold tSameI
  obtain ⟨z, x_e', m_el', e1, e2, hA'⟩ := p_setElement hA x0 x1 x2
  exact ⟨z, _, _, _, _, _, _, by decide, by decide, by decide, by decide, (ev_X7_setElement e1), (ev_X8_setElement e2), jJ_mk hN hS hH hP hT hI hW hA' hV hG hF hC⟩
theorem a_element {l : Launch} {E : tEn} {hX hM : tHp} (h : jJ hX hM) (x0 : Int32) (x1 : Int32) : tSameJ l E jJ yX7_element cX7_element 3 yX8_element cX8_element 3 [.int x0, .int x1] hX hM := by
  obtain ⟨x_hs, s_n, s_sp, s_sb, s_sc, s_f, s_st, v_n, v_sp, v_sb, v_sc, v_f, v_st, h_k, h_s, h_c, g_k, g_v, g_p, g_a, g_t, c_k, c_t, c_p, i_l, i_n, i_f, i_p, i_o, i_b, w_l, w_s, x_e, x_l, cr, tl, m_n, m_pt, m_rc, m_sa, m_sb, m_sc, m_is, m_os, m_vn, m_vc, m_va, m_vb, m_ve, m_no, m_pl, m_fa, m_oc, m_fu, m_ke, m_t, m_f, m_rs, m_rt, m_rf, m_st, m_ib, m_ob, m_al, m_el, m_vt, m_vf, m_vs, m_nr, m_ty, m_pa, m_fn, m_md, m_ms, m_mr, n, sl, hi, sp, sb, c, st, inp, out, rfl, rfl, hN, hS, hH, hP, hT, hI, hW, hA, hV, hG, hF, hC⟩ := h
  unfold tSameJ
  obtain ⟨z, e1, e2⟩ := p_element hA x0 x1
  exact ⟨z, _, _, _, _, _, _, by decide, by decide, by decide, by decide, (ev_X7_element e1), (ev_X8_element e2), jJ_mk hN hS hH hP hT hI hW hA hV hG hF hC⟩
theorem a_compare {l : Launch} {E : tEn} {hX hM : tHp} (h : jJ hX hM) (x0 : Int32) (x1 : Int32) : tSameI l E jJ yX7_compare cX7_compare 5 yX8_compare cX8_compare 5 [.int x0, .int x1] hX hM := by
  obtain ⟨x_hs, s_n, s_sp, s_sb, s_sc, s_f, s_st, v_n, v_sp, v_sb, v_sc, v_f, v_st, h_k, h_s, h_c, g_k, g_v, g_p, g_a, g_t, c_k, c_t, c_p, i_l, i_n, i_f, i_p, i_o, i_b, w_l, w_s, x_e, x_l, cr, tl, m_n, m_pt, m_rc, m_sa, m_sb, m_sc, m_is, m_os, m_vn, m_vc, m_va, m_vb, m_ve, m_no, m_pl, m_fa, m_oc, m_fu, m_ke, m_t, m_f, m_rs, m_rt, m_rf, m_st, m_ib, m_ob, m_al, m_el, m_vt, m_vf, m_vs, m_nr, m_ty, m_pa, m_fn, m_md, m_ms, m_mr, n, sl, hi, sp, sb, c, st, inp, out, rfl, rfl, hN, hS, hH, hP, hT, hI, hW, hA, hV, hG, hF, hC⟩ := h
  unfold tSameI
  obtain ⟨z, g_k', g_v', g_p', g_a', e1, e2, hG'⟩ := p_compare hN hS hA hG g_k g_v x0 x1
  exact ⟨z, _, _, _, _, _, _, by decide, by decide, by decide, by decide, (ev_X7_compare e1), (ev_X8_compare e2), jJ_mk hN hS hH hP hT hI hW hA hV hG' hF hC⟩
theorem a_usedSlots {l : Launch} {E : tEn} {hX hM : tHp} (h : jJ hX hM)  : tSameI l E jJ yX7_usedSlots cX7_usedSlots 1 yX8_usedSlots cX8_usedSlots 3 [] hX hM := by
  obtain ⟨x_hs, s_n, s_sp, s_sb, s_sc, s_f, s_st, v_n, v_sp, v_sb, v_sc, v_f, v_st, h_k, h_s, h_c, g_k, g_v, g_p, g_a, g_t, c_k, c_t, c_p, i_l, i_n, i_f, i_p, i_o, i_b, w_l, w_s, x_e, x_l, cr, tl, m_n, m_pt, m_rc, m_sa, m_sb, m_sc, m_is, m_os, m_vn, m_vc, m_va, m_vb, m_ve, m_no, m_pl, m_fa, m_oc, m_fu, m_ke, m_t, m_f, m_rs, m_rt, m_rf, m_st, m_ib, m_ob, m_al, m_el, m_vt, m_vf, m_vs, m_nr, m_ty, m_pa, m_fn, m_md, m_ms, m_mr, n, sl, hi, sp, sb, c, st, inp, out, rfl, rfl, hN, hS, hH, hP, hT, hI, hW, hA, hV, hG, hF, hC⟩ := h
  unfold tSameI
  obtain ⟨z, e1, e2⟩ := p_usedSlots hN hS
  exact ⟨z, _, _, _, _, _, _, by decide, by decide, by decide, by decide, (ev_X7_usedSlots e1), (ev_X8_usedSlots e2), jJ_mk hN hS hH hP hT hI hW hA hV hG hF hC⟩
theorem a_undoable {l : Launch} {E : tEn} {hX hM : tHp} (h : jJ hX hM)  : tSameI l E jJ yX7_undoable cX7_undoable 1 yX8_undoable cX8_undoable 1 [] hX hM := by
  obtain ⟨x_hs, s_n, s_sp, s_sb, s_sc, s_f, s_st, v_n, v_sp, v_sb, v_sc, v_f, v_st, h_k, h_s, h_c, g_k, g_v, g_p, g_a, g_t, c_k, c_t, c_p, i_l, i_n, i_f, i_p, i_o, i_b, w_l, w_s, x_e, x_l, cr, tl, m_n, m_pt, m_rc, m_sa, m_sb, m_sc, m_is, m_os, m_vn, m_vc, m_va, m_vb, m_ve, m_no, m_pl, m_fa, m_oc, m_fu, m_ke, m_t, m_f, m_rs, m_rt, m_rf, m_st, m_ib, m_ob, m_al, m_el, m_vt, m_vf, m_vs, m_nr, m_ty, m_pa, m_fn, m_md, m_ms, m_mr, n, sl, hi, sp, sb, c, st, inp, out, rfl, rfl, hN, hS, hH, hP, hT, hI, hW, hA, hV, hG, hF, hC⟩ := h
  unfold tSameI
  have e : f_X8_undoable m_rc = f_X7_undoable h_k := by unfold f_X8_undoable f_X7_undoable; rw [hH.2.1.1, hH.2.2.1]
  have h2 := ev_X8_undoable (l := l) (E := E) (m_n := m_n) (m_pt := m_pt) (m_rc := m_rc) (m_sa := m_sa) (m_sb := m_sb) (m_sc := m_sc) (m_is := m_is) (m_os := m_os) (m_vn := m_vn) (m_vc := m_vc) (m_va := m_va) (m_vb := m_vb) (m_ve := m_ve) (m_no := m_no) (m_pl := m_pl) (m_fa := m_fa) (m_oc := m_oc) (m_fu := m_fu) (m_ke := m_ke) (m_t := m_t) (m_f := m_f) (m_rs := m_rs) (m_rt := m_rt) (m_rf := m_rf) (m_st := m_st) (m_ib := m_ib) (m_ob := m_ob) (m_al := m_al) (m_el := m_el) (m_vt := m_vt) (m_vf := m_vf) (m_vs := m_vs) (m_nr := m_nr) (m_ty := m_ty) (m_pa := m_pa) (m_fn := m_fn) (m_md := m_md) (m_ms := m_ms) (m_mr := m_mr)
  rw [e] at h2
  exact ⟨_, _, _, _, _, _, _, by decide, by decide, by decide, by decide, ev_X7_undoable, h2, jJ_mk hN hS hH hP hT hI hW hA hV hG hF hC⟩
theorem jJ_api (l : Launch) (E : tEn) : tApi l E jJ := by
  intro hX hM h
  refine ⟨?_, ?_, fun x0 => a_setVariables h x0, a_variables h, fun x0 x1 => a_setTable h x0 x1, fun x0 => a_table h x0, fun x0 => a_clear h x0, fun x0 x1 => a_value h x0 x1, fun x0 => a_essential h x0, fun x0 => a_isMonotone h x0, fun x0 => a_violatingPoint h x0, fun x0 => a_primeImplicants h x0, fun x0 x1 => a_primeImplicant h x0 x1, fun x0 x1 => a_neighbors h x0 x1, fun x0 x1 => a_inducedPath h x0 x1, fun x0 => a_badClique h x0, fun x0 => a_reason h x0, fun x0 => a_nodes h x0, fun x0 x1 => a_nodeType h x0 x1, fun x0 x1 => a_parent h x0 x1, fun x0 x1 => a_depth h x0 x1, fun x0 => a_writeFormula h x0, fun x0 => a_output h x0, fun x0 => a_feed h x0, fun x0 => a_parse h x0, fun x0 x1 x2 x3 => a_combine h x0 x1 x2 x3, fun x0 x1 => a_dual h x0 x1, fun x0 x1 x2 x3 => a_cofactor h x0 x1 x2 x3, fun x0 x1 x2 x3 => a_substitute h x0 x1 x2 x3, fun x0 x1 x2 x3 => a_exchange h x0 x1 x2 x3, fun x0 x1 x2 => a_random h x0 x1 x2, fun x0 x1 x2 => a_readOnceTrials h x0 x1 x2, fun x0 x1 => a_addSample h x0 x1, fun x0 => a_removeSample h x0, a_extensions h, fun x0 => a_extension h x0, a_simplestExtension h, fun x0 => a_readOnceCount h x0, fun x0 x1 x2 x3 => a_addStep h x0 x1 x2 x3, a_clearSteps h, a_runSteps h, a_undo h, a_save h, a_restore h, fun x0 x1 => a_createArray h x0 x1, fun x0 x1 x2 => a_setElement h x0 x1 x2, fun x0 x1 => a_element h x0 x1, fun x0 x1 => a_compare h x0 x1, a_usedSlots h, a_undoable h⟩
  · obtain ⟨x_hs, s_n, s_sp, s_sb, s_sc, s_f, s_st, v_n, v_sp, v_sb, v_sc, v_f, v_st, h_k, h_s, h_c, g_k, g_v, g_p, g_a, g_t, c_k, c_t, c_p, i_l, i_n, i_f, i_p, i_o, i_b, w_l, w_s, x_e, x_l, cr, tl, m_n, m_pt, m_rc, m_sa, m_sb, m_sc, m_is, m_os, m_vn, m_vc, m_va, m_vb, m_ve, m_no, m_pl, m_fa, m_oc, m_fu, m_ke, m_t, m_f, m_rs, m_rt, m_rf, m_st, m_ib, m_ob, m_al, m_el, m_vt, m_vf, m_vs, m_nr, m_ty, m_pa, m_fn, m_md, m_ms, m_mr, n, sl, hi, sp, sb, c, st, inp, out, rfl, rfl, hN, hS, hH, hP, hT, hI, hW, hA, hV, hG, hF, hC⟩ := h
    exact ⟨_, rfl⟩
  · obtain ⟨x_hs, s_n, s_sp, s_sb, s_sc, s_f, s_st, v_n, v_sp, v_sb, v_sc, v_f, v_st, h_k, h_s, h_c, g_k, g_v, g_p, g_a, g_t, c_k, c_t, c_p, i_l, i_n, i_f, i_p, i_o, i_b, w_l, w_s, x_e, x_l, cr, tl, m_n, m_pt, m_rc, m_sa, m_sb, m_sc, m_is, m_os, m_vn, m_vc, m_va, m_vb, m_ve, m_no, m_pl, m_fa, m_oc, m_fu, m_ke, m_t, m_f, m_rs, m_rt, m_rf, m_st, m_ib, m_ob, m_al, m_el, m_vt, m_vf, m_vs, m_nr, m_ty, m_pa, m_fn, m_md, m_ms, m_mr, n, sl, hi, sp, sb, c, st, inp, out, rfl, rfl, hN, hS, hH, hP, hT, hI, hW, hA, hV, hG, hF, hC⟩ := h
    exact ⟨_, rfl⟩
