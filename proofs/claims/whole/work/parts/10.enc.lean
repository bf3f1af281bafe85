/-! arrays copied, arrays filled; the two systems as heaps -/
def tFU : Nat := 1000
def tDP : Nat := 10
def tcpy {α : Type} (z : α) (xs ys : List α) (sp dp n : Int32) : Option (List α) :=
  if sp < 0 then none else if dp < 0 then none else if n < 0 then none else
  if xs.length < sp.toNatClampNeg + n.toNatClampNeg then none else if ys.length < dp.toNatClampNeg + n.toNatClampNeg then none else
  some ((List.range ys.length).map fun k => if dp.toNatClampNeg ≤ k ∧ k < dp.toNatClampNeg + n.toNatClampNeg then xs.getD (sp.toNatClampNeg + (k - dp.toNatClampNeg)) z else ys.getD k z)
theorem tcpy_some {α : Type} {z : α} {xs ys zs : List α} {sp dp n : Int32} (h : tcpy z xs ys sp dp n = some zs) : ¬ sp < 0 ∧ ¬ dp < 0 ∧ ¬ n < 0 ∧ sp.toNatClampNeg + n.toNatClampNeg ≤ xs.length ∧ dp.toNatClampNeg + n.toNatClampNeg ≤ ys.length ∧ zs.length = ys.length ∧ (fun j => zs.getD j z) = va_cpy (fun j => xs.getD j z) (fun j => ys.getD j z) sp.toNatClampNeg dp.toNatClampNeg n.toNatClampNeg := by
  unfold tcpy at h
  split at h
  · cases h
  split at h
  · cases h
  split at h
  · cases h
  split at h
  · cases h
  split at h
  · cases h
  next h1 h2 h3 h4 h5 =>
  cases h
  refine ⟨h1, h2, h3, by omega, by omega, by rw [List.length_map, List.length_range], ?_⟩
  funext j
  unfold va_cpy
  rw [List.getD_eq_getElem?_getD, List.getElem?_map]
  by_cases hj : j < ys.length
  · rw [List.getElem?_range hj]; rfl
  · rw [List.getElem?_eq_none (by rw [List.length_range]; omega)]
    show z = _
    rw [if_neg (by omega)]
    show z = ys.getD j z
    rw [List.getD_eq_getElem?_getD, List.getElem?_eq_none (by omega)]; rfl
section TCPY
variable {l : Launch} {E : tEn} {own : String} {cc : ByteArray} {nL : Nat} {ret : Option FieldType} {ini : Bool} {d : Nat} {Q : Option Value → tHp → Prop} {k n : Nat} {pc : Nat} {L : List (Nat × Value)} {st : List Value} {h : tHp}
theorem g_copyI {idx a0 a1 : Nat} {xs ys zs : List Int32} {sp dp nn : Int32} {q : Nat} {h' : tHp} (hl : Cond.methodLink own idx arraycopyName ∈ lw_tbl) (hd : decode cc pc = .ok (.invokestatic idx, 3)) (hq : pc + 3 = q) (hc0 : h[a0]? = some (.inr (.inl xs))) (hc1 : h[a1]? = some (.inr (.inl ys))) (hv : tcpy 0 xs ys sp dp nn = some zs) (hh : h.set a1 (.inr (.inl zs)) = h') (hdd : 2 ≤ d) (hst : (st.map fun v => v.category).sum ≤ 8)
    (kk : tG l E own cc nL ret ini d Q k n q L st h') : tG l E own cc nL ret ini d Q k n pc L (.int nn :: .int dp :: .ref a1 :: .int sp :: .ref a0 :: st) h := by
  subst hq; subst hh
  intro p e R s m args below meth c A ads0 X ads H locs cells slots ls h1 h2 h3 h4 h5 h6
  obtain ⟨z1, z2, z3, z4, z5, z6, z7⟩ := tcpy_some hv
  have hts := X.2.2.2.2.2.2.2.2.2.1.hts args
  refine va_copyi (D := E.1) (ty := .int) X.1 X.2.1 (X.2.2.1.trans h6.1.symm) X.2.2.2.2.2.2.1 (hts _ (tmem hl rfl)) (hts _ (tmem cp_nat rfl)) (hts _ (tmem cp_st rfl)) (hts _ (tmem cp_in rfl)) X.2.2.2.2.2.2.2.2.2.1.1 h4.2.1 h4.2.2 h5 a0 a1 0 0 (tw_get (E := E) h4.1 hc0) (tw_get (E := E) h4.1 hc1) rfl rfl rfl z1 z2 z3 z4 z5 (fun _ _ => rfl) (by rw [X.2.2.2.2.2.2.2.1]; omega) ?_ hd (fun H1 locs1 hP hD hS => ?_)
  · have e1 := X.2.2.2.2.2.2.2.2.1
    have e2 := t_sumcat (E := E) (ads := ads) hst
    have e3 : nativeFrameWords "java/lang/System" "arraycopy" 5 + 11 ≤ 64 := by decide +kernel
    rw [e1]; omega
  · rw [← z7, ← z6] at hP hD
    exact kk p e R s m args below meth c A ads0 X ads H1 locs1 cells slots ls h1 h2 h3 (tR_set (c := .inr (.inl zs)) h4.1 (List.getElem?_eq_some_iff.mp hc1).1 hP hD) hS h6
theorem g_copyJ {idx a0 a1 : Nat} {xs ys zs : List Int64} {sp dp nn : Int32} {q : Nat} {h' : tHp} (hl : Cond.methodLink own idx arraycopyName ∈ lw_tbl) (hd : decode cc pc = .ok (.invokestatic idx, 3)) (hq : pc + 3 = q) (hc0 : h[a0]? = some (.inr (.inr (.inl xs)))) (hc1 : h[a1]? = some (.inr (.inr (.inl ys)))) (hv : tcpy 0 xs ys sp dp nn = some zs) (hh : h.set a1 (.inr (.inr (.inl zs))) = h') (hdd : 2 ≤ d) (hst : (st.map fun v => v.category).sum ≤ 8)
    (kk : tG l E own cc nL ret ini d Q k n q L st h') : tG l E own cc nL ret ini d Q k n pc L (.int nn :: .int dp :: .ref a1 :: .int sp :: .ref a0 :: st) h := by
  subst hq; subst hh
  intro p e R s m args below meth c A ads0 X ads H locs cells slots ls h1 h2 h3 h4 h5 h6
  obtain ⟨z1, z2, z3, z4, z5, z6, z7⟩ := tcpy_some hv
  have hts := X.2.2.2.2.2.2.2.2.2.1.hts args
  refine va_copyl (D := E.1) (ty := .long) X.1 X.2.1 (X.2.2.1.trans h6.1.symm) X.2.2.2.2.2.2.1 (hts _ (tmem hl rfl)) (hts _ (tmem cp_nat rfl)) (hts _ (tmem cp_st rfl)) (hts _ (tmem cp_in rfl)) X.2.2.2.2.2.2.2.2.2.1.1 h4.2.1 h4.2.2 h5 a0 a1 1 1 (tw_get (E := E) h4.1 hc0) (tw_get (E := E) h4.1 hc1) rfl rfl rfl z1 z2 z3 z4 z5 (fun _ _ => rfl) (by rw [X.2.2.2.2.2.2.2.1]; omega) ?_ hd (fun H1 locs1 hP hD hS => ?_)
  · have e1 := X.2.2.2.2.2.2.2.2.1
    have e2 := t_sumcat (E := E) (ads := ads) hst
    have e3 : nativeFrameWords "java/lang/System" "arraycopy" 5 + 11 ≤ 64 := by decide +kernel
    rw [e1]; omega
  · rw [← z7, ← z6] at hP hD
    exact kk p e R s m args below meth c A ads0 X ads H1 locs1 cells slots ls h1 h2 h3 (tR_set (c := .inr (.inr (.inl zs))) h4.1 (List.getElem?_eq_some_iff.mp hc1).1 hP hD) hS h6
end TCPY
def encX (x_hs : Int32) (s_n : Int32) (s_sp : Int64) (s_sb : Int64) (s_sc : Int32) (s_f : List Int64) (s_st : List Int32) (v_n : Int32) (v_sp : Int64) (v_sb : Int64) (v_sc : Int32) (v_f : List Int64) (v_st : List Int32) (h_k : Int32) (h_s : List Int32) (h_c : List Int64) (g_k : Int32) (g_v : Int32) (g_p : List Int32) (g_a : List Int32) (g_t : List Int32) (c_k : Int32) (c_t : List Int32) (c_p : List Int32) (i_l : Int32) (i_n : Int32) (i_f : Int64) (i_p : Int32) (i_o : Int32) (i_b : List Int32) (w_l : Int32) (w_s : List Int32) (x_e : List Int32) (x_l : List Int32) (cr : Value) (tl : tHp) : tHp :=
  .inl (7, [.ref 1, .ref 4, .int x_hs, .ref 7, .ref 10, .ref 14, .ref 17, .ref 19, .ref 21, .ref 22, cr]) ::
  .inl (6, [.int s_n, .ref 2, .long s_sp, .long s_sb, .ref 3, .int s_sc]) ::
  .inr (.inr (.inl s_f)) ::
  .inr (.inl s_st) ::
  .inl (6, [.int v_n, .ref 5, .long v_sp, .long v_sb, .ref 6, .int v_sc]) ::
  .inr (.inr (.inl v_f)) ::
  .inr (.inl v_st) ::
  .inl (4, [.ref 8, .ref 9, .int h_k]) ::
  .inr (.inl h_s) ::
  .inr (.inr (.inl h_c)) ::
  .inl (3, [.ref 11, .int g_k, .int g_v, .ref 12, .ref 13]) ::
  .inr (.inl g_p) ::
  .inr (.inl g_a) ::
  .inr (.inl g_t) ::
  .inl (1, [.ref 15, .ref 16, .int c_k]) ::
  .inr (.inl c_t) ::
  .inr (.inl c_p) ::
  .inl (5, [.ref 18, .int i_l, .int i_n, .long i_f, .int i_p, .int i_o]) ::
  .inr (.inl i_b) ::
  .inl (2, [.ref 20, .int w_l]) ::
  .inr (.inl w_s) ::
  .inr (.inl x_e) ::
  .inr (.inl x_l) :: tl
theorem encX_len {x_hs : Int32} {s_n : Int32} {s_sp : Int64} {s_sb : Int64} {s_sc : Int32} {s_f : List Int64} {s_st : List Int32} {v_n : Int32} {v_sp : Int64} {v_sb : Int64} {v_sc : Int32} {v_f : List Int64} {v_st : List Int32} {h_k : Int32} {h_s : List Int32} {h_c : List Int64} {g_k : Int32} {g_v : Int32} {g_p : List Int32} {g_a : List Int32} {g_t : List Int32} {c_k : Int32} {c_t : List Int32} {c_p : List Int32} {i_l : Int32} {i_n : Int32} {i_f : Int64} {i_p : Int32} {i_o : Int32} {i_b : List Int32} {w_l : Int32} {w_s : List Int32} {x_e : List Int32} {x_l : List Int32} {cr : Value} {tl : tHp} : (encX x_hs s_n s_sp s_sb s_sc s_f s_st v_n v_sp v_sb v_sc v_f v_st h_k h_s h_c g_k g_v g_p g_a g_t c_k c_t c_p i_l i_n i_f i_p i_o i_b w_l w_s x_e x_l cr tl).length = tl.length + 23 := rfl
def tlC (k_k : Int32) (k_e : List Int64) (k_s : List Int32) : tHp := [.inl (0, [.ref 24, .int k_k]), .inr (.inr (.inl k_e)), .inr (.inl k_s)]
def encM (m_n : Int32) (m_pt : Int32) (m_rc : Int32) (m_sa : Int64) (m_sb : Int64) (m_sc : Int32) (m_is : Int32) (m_os : Int32) (m_vn : Int32) (m_vc : Int32) (m_va : Int64) (m_vb : Int64) (m_ve : Int32) (m_no : Int32) (m_pl : Int32) (m_fa : Int32) (m_oc : Int32) (m_fu : Int32) (m_ke : Int32) (m_t : List Int64) (m_f : List Int32) (m_rs : List Int32) (m_rt : List Int64) (m_rf : List Int32) (m_st : List Int32) (m_ib : List Int32) (m_ob : List Int32) (m_al : List Int32) (m_el : List Int32) (m_vt : List Int64) (m_vf : List Int32) (m_vs : List Int32) (m_nr : List Int32) (m_ty : List Int32) (m_pa : List Int32) (m_fn : List Int64) (m_md : List Int64) (m_ms : List Int32) (m_mr : List Int32) : tHp :=
  [.inl (8, [.int m_n, .int m_pt, .ref 1, .ref 2, .int m_rc, .ref 3, .ref 4, .ref 5, .long m_sa, .long m_sb, .int m_sc, .ref 6, .ref 7, .int m_is, .ref 8, .int m_os, .ref 9, .ref 10, .int m_vn, .int m_vc, .long m_va, .long m_vb, .ref 11, .ref 12, .ref 13, .ref 14, .int m_ve, .int m_no, .ref 15, .ref 16, .int m_pl, .int m_fa, .int m_oc, .int m_fu, .int m_ke, .ref 17, .ref 18, .ref 19, .ref 20]),
  .inr (.inr (.inl m_t)),
  .inr (.inr (.inr m_f)),
  .inr (.inl m_rs),
  .inr (.inr (.inl m_rt)),
  .inr (.inr (.inr m_rf)),
  .inr (.inl m_st),
  .inr (.inl m_ib),
  .inr (.inl m_ob),
  .inr (.inl m_al),
  .inr (.inl m_el),
  .inr (.inr (.inl m_vt)),
  .inr (.inr (.inr m_vf)),
  .inr (.inl m_vs),
  .inr (.inl m_nr),
  .inr (.inl m_ty),
  .inr (.inl m_pa),
  .inr (.inr (.inl m_fn)),
  .inr (.inr (.inl m_md)),
  .inr (.inl m_ms),
  .inr (.inl m_mr)]
theorem encM_len {m_n : Int32} {m_pt : Int32} {m_rc : Int32} {m_sa : Int64} {m_sb : Int64} {m_sc : Int32} {m_is : Int32} {m_os : Int32} {m_vn : Int32} {m_vc : Int32} {m_va : Int64} {m_vb : Int64} {m_ve : Int32} {m_no : Int32} {m_pl : Int32} {m_fa : Int32} {m_oc : Int32} {m_fu : Int32} {m_ke : Int32} {m_t : List Int64} {m_f : List Int32} {m_rs : List Int32} {m_rt : List Int64} {m_rf : List Int32} {m_st : List Int32} {m_ib : List Int32} {m_ob : List Int32} {m_al : List Int32} {m_el : List Int32} {m_vt : List Int64} {m_vf : List Int32} {m_vs : List Int32} {m_nr : List Int32} {m_ty : List Int32} {m_pa : List Int32} {m_fn : List Int64} {m_md : List Int64} {m_ms : List Int32} {m_mr : List Int32} : (encM m_n m_pt m_rc m_sa m_sb m_sc m_is m_os m_vn m_vc m_va m_vb m_ve m_no m_pl m_fa m_oc m_fu m_ke m_t m_f m_rs m_rt m_rf m_st m_ib m_ob m_al m_el m_vt m_vf m_vs m_nr m_ty m_pa m_fn m_md m_ms m_mr).length = 21 := rfl
theorem encC_len {x_hs : Int32} {s_n : Int32} {s_sp : Int64} {s_sb : Int64} {s_sc : Int32} {s_f : List Int64} {s_st : List Int32} {v_n : Int32} {v_sp : Int64} {v_sb : Int64} {v_sc : Int32} {v_f : List Int64} {v_st : List Int32} {h_k : Int32} {h_s : List Int32} {h_c : List Int64} {g_k : Int32} {g_v : Int32} {g_p : List Int32} {g_a : List Int32} {g_t : List Int32} {c_k : Int32} {c_t : List Int32} {c_p : List Int32} {i_l : Int32} {i_n : Int32} {i_f : Int64} {i_p : Int32} {i_o : Int32} {i_b : List Int32} {w_l : Int32} {w_s : List Int32} {x_e : List Int32} {x_l : List Int32} {k_k : Int32} {k_e : List Int64} {k_s : List Int32} {cr : Value} : (encX x_hs s_n s_sp s_sb s_sc s_f s_st v_n v_sp v_sb v_sc v_f v_st h_k h_s h_c g_k g_v g_p g_a g_t c_k c_t c_p i_l i_n i_f i_p i_o i_b w_l w_s x_e x_l cr (tlC k_k k_e k_s)).length = 26 := rfl
