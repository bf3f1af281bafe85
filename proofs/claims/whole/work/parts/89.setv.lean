/-! setting the variables; restoring -/
theorem n_in15 (x : Int32) : (f_X8_isIn x.toInt64 1 5 = 0 ∧ (x < 1 ∨ ¬ x ≤ 5)) ∨ ∃ k, 1 ≤ k ∧ k ≤ 5 ∧ x = nI k ∧ f_X8_isIn x.toInt64 1 5 = 1 := by
  unfold f_X8_isIn
  by_cases c1 : x < 1
  · left
    exact ⟨by rw [if_pos (show lg_cmp x.toInt64 1 < 0 from (lg_cmp_lt _ _).mpr ((fa_wide_lt x 1).mpr c1))], Or.inl c1⟩
  · have c1' : ¬ lg_cmp x.toInt64 1 < 0 := fun q => c1 ((fa_wide_lt x 1).mp ((lg_cmp_lt _ _).mp q))
    by_cases c2 : x ≤ 5
    · right
      have i1 : ¬ x.toInt < 1 := by rw [fa_lt] at c1; exact c1
      have i2 : x.toInt ≤ 5 := by rw [fa_le] at c2; exact c2
      rcases pk_ix x (n := 6) (by decide) with h | h | ⟨k, hk, rfl⟩
      · rw [fa_lt] at h
        have e : (0 : Int32).toInt = 0 := by decide
        rw [e] at h; omega
      · rw [fa_le, nI_toInt (by decide)] at h; omega
      · rw [nI_toInt (by omega)] at i1
        refine ⟨k, by omega, by omega, rfl, ?_⟩
        rw [if_neg c1', if_neg]
        rw [lg_cmp_gt]
        intro q
        have := (fa_wide_lt 5 (nI k)).mp q
        rw [fa_lt, nI_toInt (by omega)] at this
        have e : (5 : Int32).toInt = 5 := by decide
        rw [e] at this; omega
    · left
      refine ⟨?_, Or.inr c2⟩
      rw [if_neg c1', if_pos]
      rw [lg_cmp_gt]
      refine (fa_wide_lt 5 x).mpr ?_
      rw [fa_le] at c2
      rw [fa_lt]
      omega
theorem M_sv37 {K : List Int32 → Option (Int32 × Int32 × Int32 × Int32 × Int64 × Int64 × Int32 × Int32 × Int32 × List Int32 × List Int64 × List Int64 × List Int32 × List Int32)} {ws : List Int32} (hw : ws.length = 8) : ∀ (m k fu : Nat), k + m = 8 → m < fu → f_X8_setVariables_L37 K fu (nI k) (cpl k (List.replicate 8 0) ws) = K (List.replicate 8 0) := by
  have hr : (List.replicate 8 (0 : Int32)).length = 8 := rfl
  intro m
  induction m with
  | zero =>
    intro k fu hk hf
    obtain ⟨fu, rfl⟩ : ∃ q, fu = q + 1 := ⟨fu - 1, by omega⟩
    have : k = 8 := by omega
    subst this
    rw [f_X8_setVariables_L37, if_pos (by decide), cpl_N hr hw]
  | succ m ih =>
    intro k fu hk hf
    obtain ⟨fu, rfl⟩ : ∃ q, fu = q + 1 := ⟨fu - 1, by omega⟩
    have hl := cpl_len (k := k) hr hw (by omega)
    rw [f_X8_setVariables_L37, if_neg (by rw [show (8 : Int32) = nI 8 from rfl]; exact nI_ge (by omega) (by decide)), nar_0, tst_nI (by omega) (by omega), cpl_step hr hw (by omega) (by rw [List.getElem?_replicate, if_pos (by omega)]), Option.bind_some, nI_1]
    exact ih (k + 1) fu (by omega) (by omega)
theorem rS_none {n : Nat} {m_t : List Int64} (h : m_t.length = 8) : rS n (List.replicate 8 none) (List.replicate 8 (-1)) m_t (List.replicate 8 0) := by
  have e : ∀ (i t : Nat), (List.replicate 8 (none : Option Nat))[i]? ≠ some (some t) := by
    intro i t hh
    rw [List.getElem?_replicate] at hh
    split at hh
    · cases hh
    · cases hh
  exact ⟨rfl, fun i t hh => absurd hh (e i t), rfl, rfl, h, fun i t hh => absurd hh (e i t)⟩
theorem rH_none {n n' : Nat} {hi : List (Nat × Option Nat)} {h_k : Int32} {h_s : List Int32} {h_c : List Int64} {m_rc : Int32} {m_rs : List Int32} {m_rt : List Int64} {m_rf : List Int32} (h : rH n hi h_k h_s h_c m_rc m_rs m_rt m_rf) : rH n' [] 0 h_s h_c 0 m_rs m_rt m_rf :=
  ⟨fun q hq => (nomatch hq), ⟨rfl, pre.nil h.2.1.2.1.1, pre.nil h.2.1.2.2.1⟩, ⟨rfl, pre.nil h.2.2.2.1.1, pre.nil h.2.2.2.2.1.1, h.2.2.2.2.2.1, fun i s t hh => by cases hh⟩⟩
theorem rT_none {c : Nat} {st : List Int32} {s_sc : Int32} {s_st : List Int32} {m_sc : Int32} {m_st : List Int32} (h : rT c st s_sc s_st m_sc m_st) : rT 0 [] 0 s_st 0 m_st :=
  ⟨by omega, rfl, fun k hk => absurd hk (by omega), rfl, rfl, pre.nil h.2.2.2.2.2.1.1, pre.nil h.2.2.2.2.2.2.1⟩
theorem rP_none (n : Nat) : rP n 0 0 0 0 0 0 := ⟨tabs_pos n, rfl, rfl, rfl, rfl, rfl⟩
theorem M_setv {k : Nat} (hk0 : 1 ≤ k) (hk : k ≤ 5) {n : Nat} {m_fu : Int32} {m_f : List Int32} {m_fn m_md : List Int64} {m_ms m_mr : List Int32} (hf : m_f.length = 8) (hF : rF n m_fu m_fn m_md m_ms m_mr) (m_n m_pt m_rc : Int32) (m_sa m_sb : Int64) (m_sc m_ke : Int32) : ∃ (m_fu' m_ke' : Int32) (m_fn' m_md' : List Int64) (m_ms' m_mr' : List Int32), f_X8_setVariables (nI k) m_n m_pt m_rc m_sa m_sb m_sc m_fu m_ke m_f m_fn m_md m_ms m_mr = some (m_n, nI k, nI (pts k), 0, 0, 0, 0, m_fu', m_ke', List.replicate 8 0, m_fn', m_md', m_ms', m_mr') ∧ rF k m_fu' m_fn' m_md' m_ms' m_mr' := by
  obtain ⟨a1, a2, a3, a4, a5, a6, b1, b2⟩ := p_list hk0 hk hF.2.1.1 hF.2.2.1 hF.2.2.2.1 hF.2.2.2.2 m_fu m_ke
  refine ⟨a1, a2, a3, a4, a5, a6, ?_, b2⟩
  have hin : f_X8_isIn (nI k).toInt64 1 5 = 1 := by
    rcases n_in15 (nI k) with ⟨-, h⟩ | ⟨-, -, -, -, h⟩
    · rcases h with h | h
      · exact absurd h (by rw [show (1 : Int32) = nI 1 from rfl]; exact nI_nlt (by omega) (by omega))
      · exact absurd (show nI k ≤ 5 by rw [show (5 : Int32) = nI 5 from rfl]; exact nI_le (by omega) (by omega)) h
    · exact h
  have hL := M_sv37 (K := fun k5 => (f_X8_listFunctions (nI k) (nI (pts k)) m_fu m_ke m_fn m_md m_ms m_mr).bind fun r6 => some (m_n, nI k, nI (pts k), 0, 0, 0, 0, r6.1, r6.2.1, k5, r6.2.2.1, r6.2.2.2.1, r6.2.2.2.2.1, r6.2.2.2.2.2)) hf 8 0 tFU (by omega) (by unfold tFU; omega)
  have hL : f_X8_setVariables_L37 _ tFU 0 m_f = _ := hL
  unfold f_X8_setVariables
  have hsh : (1 : Int32) <<< (nI k &&& 31) = nI (pts k) := n_sh1 k (by omega)
  rw [if_neg (ne10 hin), hsh, hL, b1]; rfl
section SV
variable {n sp sb c : Nat} {sl : List (Option Nat)} {hi : List (Nat × Option Nat)} {st : List Int32} {s_n m_n m_pt : Int32} {s_f m_t : List Int64} {m_f : List Int32} {s_sp s_sb m_sa m_sb : Int64} {s_sc m_sc : Int32} {s_st m_st : List Int32} {h_k : Int32} {h_s : List Int32} {h_c : List Int64} {m_rc : Int32} {m_rs : List Int32} {m_rt : List Int64} {m_rf : List Int32} {m_fu : Int32} {m_fn m_md : List Int64} {m_ms m_mr : List Int32}
theorem p_setVariables (hN : rN n s_n m_n m_pt) (hS : rS n sl s_f m_t m_f) (hH : rH n hi h_k h_s h_c m_rc m_rs m_rt m_rf) (hP : rP n sp sb s_sp s_sb m_sa m_sb) (hT : rT c st s_sc s_st m_sc m_st) (hF : rF n m_fu m_fn m_md m_ms m_mr) (m_ke x0 : Int32) :
    ∃ (z s_n' : Int32) (s_sp' s_sb' : Int64) (s_sc' : Int32) (s_f' : List Int64) (h_k' : Int32) (m_n' m_pt' m_rc' : Int32) (m_sa' m_sb' : Int64) (m_sc' m_fu' m_ke' : Int32) (m_f' : List Int32) (m_fn' m_md' : List Int64) (m_ms' m_mr' : List Int32) (n' : Nat) (sl' : List (Option Nat)) (hi' : List (Nat × Option Nat)) (sp' sb' c' : Nat) (st' : List Int32), f_X7_setVariables x0 s_n s_sp s_sb s_sc s_f h_k = some (z, s_n', s_sp', s_sb', s_sc', s_f', h_k') ∧ f_X8_setVariables x0 m_n m_pt m_rc m_sa m_sb m_sc m_fu m_ke m_f m_fn m_md m_ms m_mr = some (z, m_n', m_pt', m_rc', m_sa', m_sb', m_sc', m_fu', m_ke', m_f', m_fn', m_md', m_ms', m_mr') ∧ rN n' s_n' m_n' m_pt' ∧ rS n' sl' s_f' m_t m_f' ∧ rH n' hi' h_k' h_s h_c m_rc' m_rs m_rt m_rf ∧ rP n' sp' sb' s_sp' s_sb' m_sa' m_sb' ∧ rT c' st' s_sc' s_st m_sc' m_st ∧ rF n' m_fu' m_fn' m_md' m_ms' m_mr' := by
  rcases n_in15 x0 with ⟨b1, b2⟩ | ⟨k, hk1, hk2, rfl, b1⟩
  · have hM : f_X8_setVariables x0 m_n m_pt m_rc m_sa m_sb m_sc m_fu m_ke m_f m_fn m_md m_ms m_mr = some (-2, m_n, m_pt, m_rc, m_sa, m_sb, m_sc, m_fu, m_ke, m_f, m_fn, m_md, m_ms, m_mr) := by unfold f_X8_setVariables; rw [if_pos b1]
    have hX : f_X7_setVariables x0 s_n s_sp s_sb s_sc s_f h_k = some (-2, s_n, s_sp, s_sb, s_sc, s_f, h_k) := by
      unfold f_X7_setVariables
      rcases b2 with b2 | b2
      · rw [if_pos b2]
      · rw [if_neg b2]
        split <;> rfl
    exact ⟨_, _, _, _, _, _, _, _, _, _, _, _, _, _, _, _, _, _, _, _, n, sl, hi, sp, sb, c, st, hX, hM, hN, hS, hH, hP, hT, hF⟩
  · have hN0 := hN
    obtain ⟨hn0, hn, rfl, rfl, rfl⟩ := hN
    have hl : s_f.length = 8 := by rw [hS.2.2.1, List.length_map]; exact hS.1
    have hlf : m_f.length = 8 := by rw [hS.2.2.2.1, List.length_map]; exact hS.1
    obtain ⟨a1, a2, a3, a4, a5, a6, c1, c2⟩ := M_setv hk1 hk2 hlf hF (nI n) (nI (pts n)) m_rc m_sa m_sb m_sc m_ke
    have hX : f_X7_setVariables (nI k) (nI n) s_sp s_sb s_sc s_f h_k = some (nI n, nI k, 0, 0, 0, List.replicate 8 (-1), 0) := by
      unfold f_X7_setVariables f_X6_startAnew tfill
      rw [if_neg (show ¬ nI k < 1 by rw [show (1 : Int32) = nI 1 from rfl]; exact nI_nlt (by omega) (by omega)), if_pos (show nI k ≤ 5 by rw [show (5 : Int32) = nI 5 from rfl]; exact nI_le (by omega) (by omega)), hl]; rfl
    exact ⟨_, _, _, _, _, _, _, _, _, _, _, _, _, _, _, _, _, _, _, _, k, List.replicate 8 none, [], 0, 0, 0, [], hX, c1, ⟨hk1, hk2, rfl, rfl, rfl⟩, rS_none hS.2.2.2.2.1, rH_none hH, rP_none k, rT_none hT, c2⟩
theorem M_r62 {xs ys : List Int64} {us ws : List Int32} {K : List Int64 → List Int32 → Option (Int32 × Int32 × Int32 × Int32 × Int64 × Int64 × Int32 × Int32 × Int32 × List Int64 × List Int32 × List Int32 × List Int64 × List Int64 × List Int32 × List Int32)} (hx : xs.length = 8) (hy : ys.length = 8) (hu : us.length = 8) (hw : ws.length = 8) (hb : ∀ v ∈ us, vp_nar .boolean v = v) : ∀ (m k fu : Nat), k + m = 8 → m < fu → f_X8_restore_L62 xs us K fu (nI k) (cpl k xs ys) (cpl k us ws) = K xs us := by
  intro m
  induction m with
  | zero =>
    intro k fu hk hf
    obtain ⟨fu, rfl⟩ : ∃ q, fu = q + 1 := ⟨fu - 1, by omega⟩
    have : k = 8 := by omega
    subst this
    rw [f_X8_restore_L62, if_pos (by decide), cpl_N hx hy, cpl_N hu hw]
  | succ m ih =>
    intro k fu hk hf
    obtain ⟨fu, rfl⟩ : ∃ q, fu = q + 1 := ⟨fu - 1, by omega⟩
    obtain ⟨v1, a1⟩ : ∃ v, xs[k]? = some v := ⟨xs[k]'(by omega), List.getElem?_eq_getElem _⟩
    obtain ⟨v2, a2⟩ : ∃ v, us[k]? = some v := ⟨us[k]'(by omega), List.getElem?_eq_getElem _⟩
    rw [f_X8_restore_L62, if_neg (by rw [show (8 : Int32) = nI 8 from rfl]; exact nI_ge (by omega) (by decide)), tld_nI (by omega), a1, Option.bind_some, tst_nI (by rw [cpl_len hx hy (by omega)]; omega) (by rw [cpl_len hx hy (by omega)]; decide), cpl_step hx hy (by omega) a1, Option.bind_some, tld_nI (by omega), a2, Option.bind_some, hb v2 (List.mem_of_getElem? a2), tst_nI (by rw [cpl_len hu hw (by omega)]; omega) (by rw [cpl_len hu hw (by omega)]; decide), cpl_step hu hw (by omega) a2, Option.bind_some, nI_1]
    exact ih (k + 1) fu (by omega) (by omega)
theorem M_r100 {us ws : List Int32} {K : List Int32 → Option (Int32 × Int32 × Int32 × Int32 × Int64 × Int64 × Int32 × Int32 × Int32 × List Int64 × List Int32 × List Int32 × List Int64 × List Int64 × List Int32 × List Int32)} (hu : us.length = 32) (hw : ws.length = 32) : ∀ (m k fu : Nat), k + m = 32 → m < fu → f_X8_restore_L100 us K fu (nI k) (cpl k us ws) = K us := by
  intro m
  induction m with
  | zero =>
    intro k fu hk hf
    obtain ⟨fu, rfl⟩ : ∃ q, fu = q + 1 := ⟨fu - 1, by omega⟩
    have : k = 32 := by omega
    subst this
    rw [f_X8_restore_L100, if_pos (by decide), cpl_N hu hw]
  | succ m ih =>
    intro k fu hk hf
    obtain ⟨fu, rfl⟩ : ∃ q, fu = q + 1 := ⟨fu - 1, by omega⟩
    obtain ⟨v2, a2⟩ : ∃ v, us[k]? = some v := ⟨us[k]'(by omega), List.getElem?_eq_getElem _⟩
    rw [f_X8_restore_L100, if_neg (by rw [show (32 : Int32) = nI 32 from rfl]; exact nI_ge (by omega) (by decide)), tld_nI (by omega), a2, Option.bind_some, tst_nI (by rw [cpl_len hu hw (by omega)]; omega) (by rw [cpl_len hu hw (by omega)]; decide), cpl_step hu hw (by omega) a2, Option.bind_some, nI_1]
    exact ih (k + 1) fu (by omega) (by omega)
theorem p_restore {x_hs v_n : Int32} {v_sp v_sb : Int64} {v_sc : Int32} {v_f : List Int64} {v_st : List Int32} {m_vn m_vc : Int32} {m_va m_vb : Int64} {m_vt : List Int64} {m_vf m_vs : List Int32} (hN : rN n s_n m_n m_pt) (hS : rS n sl s_f m_t m_f) (hH : rH n hi h_k h_s h_c m_rc m_rs m_rt m_rf) (hP : rP n sp sb s_sp s_sb m_sa m_sb) (hT : rT c st s_sc s_st m_sc m_st) (hV : rV x_hs v_n v_sp v_sb v_sc v_f v_st m_vn m_vc m_va m_vb m_vt m_vf m_vs) (hF : rF n m_fu m_fn m_md m_ms m_mr) (m_ke : Int32) :
    ∃ (z s_n' : Int32) (s_sp' s_sb' : Int64) (s_sc' : Int32) (s_f' : List Int64) (s_st' : List Int32) (h_k' : Int32) (m_n' m_pt' m_rc' : Int32) (m_sa' m_sb' : Int64) (m_sc' m_fu' m_ke' : Int32) (m_t' : List Int64) (m_f' m_st' : List Int32) (m_fn' m_md' : List Int64) (m_ms' m_mr' : List Int32) (n' : Nat) (sl' : List (Option Nat)) (hi' : List (Nat × Option Nat)) (sp' sb' c' : Nat) (st' : List Int32), f_X7_restore x_hs s_n s_sp s_sb s_sc s_f s_st v_n v_sp v_sb v_sc v_f v_st h_k = some (z, s_n', s_sp', s_sb', s_sc', s_f', s_st', h_k') ∧ f_X8_restore m_n m_pt m_rc m_sa m_sb m_sc m_vn m_vc m_va m_vb m_fu m_ke m_t m_f m_st m_vt m_vf m_vs m_fn m_md m_ms m_mr = some (z, m_n', m_pt', m_rc', m_sa', m_sb', m_sc', m_fu', m_ke', m_t', m_f', m_st', m_fn', m_md', m_ms', m_mr') ∧ rN n' s_n' m_n' m_pt' ∧ rS n' sl' s_f' m_t' m_f' ∧ rH n' hi' h_k' h_s h_c m_rc' m_rs m_rt m_rf ∧ rP n' sp' sb' s_sp' s_sb' m_sa' m_sb' ∧ rT c' st' s_sc' s_st' m_sc' m_st' ∧ rF n' m_fu' m_fn' m_md' m_ms' m_mr' := by
  obtain ⟨⟨l1, l2, l3, l4, l5⟩, hV⟩ := hV
  rcases hV with ⟨rfl, rfl⟩ | ⟨k, sl2, sp2, sb2, c2, st2, rfl, hk1, hk2, rfl, rfl, hS2, hP2, hT2⟩
  · have hX : f_X7_restore 0 s_n s_sp s_sb s_sc s_f s_st v_n v_sp v_sb v_sc v_f v_st h_k = some (-7, s_n, s_sp, s_sb, s_sc, s_f, s_st, h_k) := by unfold f_X7_restore; rw [if_pos rfl]
    have hM : f_X8_restore m_n m_pt m_rc m_sa m_sb m_sc (-1) m_vc m_va m_vb m_fu m_ke m_t m_f m_st m_vt m_vf m_vs m_fn m_md m_ms m_mr = some (-7, m_n, m_pt, m_rc, m_sa, m_sb, m_sc, m_fu, m_ke, m_t, m_f, m_st, m_fn, m_md, m_ms, m_mr) := by unfold f_X8_restore; rw [if_pos rfl]
    exact ⟨_, _, _, _, _, _, _, _, _, _, _, _, _, _, _, _, _, _, _, _, _, _, _, n, sl, hi, sp, sb, c, st, hX, hM, hN, hS, hH, hP, hT, hF⟩
  · obtain ⟨hn0, hn, rfl, rfl, rfl⟩ := hN
    have k1 : s_f.length = 8 := by rw [hS.2.2.1, List.length_map]; exact hS.1
    have k2 : m_f.length = 8 := by rw [hS.2.2.2.1, List.length_map]; exact hS.1
    have k3 := hT.2.2.2.2.2.1.1
    have k4 := hT.2.2.2.2.2.2.1
    have k5 := hS.2.2.2.2.1
    have hb : ∀ v ∈ m_vf, vp_nar .boolean v = v := fun v hv => by
      rw [hS2.2.2.2.1] at hv
      obtain ⟨q, -, rfl⟩ := List.mem_map.mp hv
      exact nar_fO q
    have hX : f_X7_restore 1 (nI n) s_sp s_sb s_sc s_f s_st (nI k) v_sp v_sb v_sc v_f v_st h_k = some (nI (usedN sl2 8), nI k, v_sp, v_sb, v_sc, v_f, v_st, 0) := by
      unfold f_X7_restore f_X6_copyFrom_1_4
      rw [if_neg z_1, show (8 : Int32) = nI 8 from rfl, show (32 : Int32) = nI 32 from rfl, tcpy_all _ (by decide) l1 k1, tcpy_all _ (by decide) l2 k3, Option.bind_some, Option.bind_some, Option.bind_some, X_used hk2 hS2]; rfl
    by_cases e : k = n
    · subst e
      have hM : f_X8_restore (nI k) (nI (pts k)) m_rc m_sa m_sb m_sc (nI k) m_vc m_va m_vb m_fu m_ke m_t m_f m_st m_vt m_vf m_vs m_fn m_md m_ms m_mr = some (nI (usedN sl2 8), nI k, nI (pts k), 0, m_va, m_vb, m_vc, m_fu, m_ke, m_vt, m_vf, m_vs, m_fn, m_md, m_ms, m_mr) := by
        unfold f_X8_restore
        rw [if_neg (nI_ne_m1 (by omega)), if_pos rfl]
        have a := M_r62 (ys := m_t) (ws := m_f) (K := fun k12 k13 => f_X8_restore_L100 m_vs (fun k19 => (f_X8_usedSlots k13).bind fun r20 => some (r20, nI k, nI (pts k), 0, m_va, m_vb, m_vc, m_fu, m_ke, k12, k13, k19, m_fn, m_md, m_ms, m_mr)) tFU 0 m_st) l3 k5 l4 k2 hb 8 0 tFU (by omega) (by decide)
        have a : f_X8_restore_L62 m_vt m_vf _ tFU 0 m_t m_f = _ := a
        rw [a]
        have b := M_r100 (ws := m_st) (K := fun k19 => (f_X8_usedSlots m_vf).bind fun r20 => some (r20, nI k, nI (pts k), 0, m_va, m_vb, m_vc, m_fu, m_ke, m_vt, m_vf, k19, m_fn, m_md, m_ms, m_mr)) l5 k4 32 0 tFU (by omega) (by decide)
        have b : f_X8_restore_L100 m_vs _ tFU 0 m_st = _ := b
        rw [b, M_used hS2]; rfl
      exact ⟨_, _, _, _, _, _, _, _, _, _, _, _, _, _, _, _, _, _, _, _, _, _, _, k, sl2, [], sp2, sb2, c2, st2, hX, hM, ⟨hk1, hk2, rfl, rfl, rfl⟩, hS2, rH_none hH, hP2, hT2, hF⟩
    · obtain ⟨a1, a2, a3, a4, a5, a6, q1, q2⟩ := M_setv hk1 hk2 k2 hF (nI n) (nI (pts n)) m_rc m_sa m_sb m_sc m_ke
      have hr8 : (List.replicate 8 (0 : Int32)).length = 8 := rfl
      have hM : f_X8_restore (nI n) (nI (pts n)) m_rc m_sa m_sb m_sc (nI k) m_vc m_va m_vb m_fu m_ke m_t m_f m_st m_vt m_vf m_vs m_fn m_md m_ms m_mr = some (nI (usedN sl2 8), nI k, nI (pts k), 0, m_va, m_vb, m_vc, a1, a2, m_vt, m_vf, m_vs, a3, a4, a5, a6) := by
        unfold f_X8_restore
        rw [if_neg (nI_ne_m1 (by omega)), if_neg (fun q => e ((nI_eq (by omega) (by omega)).mp q)), q1, Option.bind_some]
        have a := M_r62 (ys := m_t) (ws := List.replicate 8 0) (K := fun k24 k25 => f_X8_restore_L100 m_vs (fun k26 => (f_X8_usedSlots k25).bind fun r27 => some (r27, nI k, nI (pts k), 0, m_va, m_vb, m_vc, a1, a2, k24, k25, k26, a3, a4, a5, a6)) tFU 0 m_st) l3 k5 l4 hr8 hb 8 0 tFU (by omega) (by decide)
        have a : f_X8_restore_L62 m_vt m_vf _ tFU 0 m_t (List.replicate 8 0) = _ := a
        dsimp only
        rw [a]
        have b := M_r100 (ws := m_st) (K := fun k26 => (f_X8_usedSlots m_vf).bind fun r27 => some (r27, nI k, nI (pts k), 0, m_va, m_vb, m_vc, a1, a2, m_vt, m_vf, k26, a3, a4, a5, a6)) l5 k4 32 0 tFU (by omega) (by decide)
        have b : f_X8_restore_L100 m_vs _ tFU 0 m_st = _ := b
        rw [b, M_used hS2]; rfl
      exact ⟨_, _, _, _, _, _, _, _, _, _, _, _, _, _, _, _, _, _, _, _, _, _, _, k, sl2, [], sp2, sb2, c2, st2, hX, hM, ⟨hk1, hk2, rfl, rfl, rfl⟩, hS2, rH_none hH, hP2, hT2, q2⟩
end SV
