/-! lists with a capacity; the history -/
def eO (o : Option Nat) : Int64 := match o with
  | none => -1
  | some t => lN t
def fO (o : Option Nat) : Int32 := match o with
  | none => 0
  | some _ => 1
/-- ys stands at the head of xs, which has N places -/
def pre {α : Type} (N : Nat) (xs ys : List α) : Prop := xs.length = N ∧ ys <+: xs
theorem pre.le {α : Type} {N : Nat} {xs ys : List α} (h : pre N xs ys) : ys.length ≤ N := by
  rw [← h.1]; exact h.2.length_le
theorem pre.get {α : Type} {N : Nat} {xs ys : List α} (h : pre N xs ys) {j : Nat} (hj : j < ys.length) : xs[j]? = ys[j]? := by
  obtain ⟨t, ht⟩ := h.2
  rw [← ht, List.getElem?_append_left hj]
theorem pre.ld {α : Type} {N : Nat} {xs ys : List α} (h : pre N xs ys) (hN : N < 2 ^ 31) {j : Nat} (hj : j < ys.length) : tld xs (nI j) = ys[j]? := by
  rw [tld_nI (by have := h.le; omega), h.get hj]
theorem pre.push {α : Type} {N : Nat} {xs ys : List α} (h : pre N xs ys) (hN : N < 2 ^ 31) (hl : ys.length < N) (v : α) : ∃ zs, tst xs (nI ys.length) v = some zs ∧ pre N zs (ys ++ [v]) := by
  refine ⟨xs.set ys.length v, tst_nI (by rw [h.1]; exact hl) (by rw [h.1]; exact hN), by rw [List.length_set]; exact h.1, ?_⟩
  obtain ⟨t, ht⟩ := h.2
  rw [← ht, List.set_append, if_neg (by omega), Nat.sub_self]
  match t, ht with
  | [], ht => exfalso; rw [List.append_nil] at ht; have := h.1; rw [← ht] at this; omega
  | a :: t, _ => exact ⟨t, by rw [List.set_cons_zero, List.append_assoc]; rfl⟩
theorem pre.cut {α : Type} {N : Nat} {xs ys : List α} (h : pre N xs ys) (k : Nat) : pre N xs (ys.take k) := ⟨h.1, (List.take_prefix k ys).trans h.2⟩
theorem pre.nil {α : Type} {N : Nat} {xs : List α} (h : xs.length = N) : pre N xs [] := ⟨h, List.nil_prefix⟩
theorem pre.full {α : Type} {N : Nat} {xs ys : List α} (h : pre N xs ys) (hl : ys.length = N) : xs = ys := (h.2.eq_of_length (by rw [h.1, hl])).symm
def shl {α : Type} (k : Nat) (xs : List α) : List α := (xs.drop 1).take k ++ xs.drop k
theorem shl_get {α : Type} {k : Nat} {xs : List α} (hk : k < xs.length) (i : Nat) : (shl k xs)[i]? = if i < k then xs[i + 1]? else xs[i]? := by
  unfold shl
  have hl : ((xs.drop 1).take k).length = k := by rw [List.length_take, List.length_drop]; omega
  split
  · next h => rw [List.getElem?_append_left (by omega), List.getElem?_take, if_pos h, List.getElem?_drop]; congr 1; omega
  · next h => rw [List.getElem?_append_right (by omega), hl, List.getElem?_drop]; congr 1; omega
theorem shl_len {α : Type} {k : Nat} {xs : List α} (hk : k < xs.length) : (shl k xs).length = xs.length := by
  unfold shl
  rw [List.length_append, List.length_take, List.length_drop, List.length_drop]; omega
theorem shl_step {α : Type} {k : Nat} {xs : List α} {v : α} (hk : k + 1 < xs.length) (hv : xs[k + 1]? = some v) : (shl k xs).set k v = shl (k + 1) xs := by
  apply List.ext_getElem?
  intro i
  rw [shl_get hk]
  by_cases h : k = i
  · subst h
    rw [List.getElem?_set_self (by rw [shl_len (by omega)]; omega), if_pos (by omega), hv]
  · rw [List.getElem?_set_ne h, shl_get (by omega)]
    by_cases h2 : i < k
    · rw [if_pos h2, if_pos (by omega)]
    · rw [if_neg h2, if_neg (by omega)]
theorem shl_0 {α : Type} (xs : List α) : shl 0 xs = xs := rfl
theorem shl_pre {α : Type} {xs : List α} (hl : xs.length = 10) : pre 10 (shl 9 xs) xs.tail := by
  refine ⟨by rw [shl_len (by omega)]; exact hl, ?_⟩
  unfold shl
  rw [List.take_of_length_le (by rw [List.length_drop]; omega), List.drop_one]
  exact List.prefix_append _ _
theorem tcpy_shl {α : Type} (z : α) {xs : List α} (hl : xs.length = 10) : tcpy z xs xs 1 0 9 = some (shl 9 xs) := by
  unfold tcpy
  rw [if_neg (by decide), if_neg (by decide), if_neg (by decide), if_neg (by rw [hl]; decide), if_neg (by rw [hl]; decide)]
  congr 1
  apply List.ext_getElem?
  intro i
  rw [shl_get (by omega), List.getElem?_map]
  by_cases hi : i < 10
  · rw [List.getElem?_range (by omega)]
    show some (if _ ∧ _ then _ else _) = _
    have e1 : (0 : Int32).toNatClampNeg = 0 := by decide
    have e2 : (9 : Int32).toNatClampNeg = 9 := by decide
    have e3 : (1 : Int32).toNatClampNeg = 1 := by decide
    rw [e1, e2, e3]
    by_cases h9 : i < 9
    · rw [if_pos (by omega), if_pos h9, List.getD_eq_getElem?_getD, show 1 + (i - 0) = i + 1 from by omega, List.getElem?_eq_getElem (by omega)]; rfl
    · rw [if_neg (by omega), if_neg h9, List.getD_eq_getElem?_getD, List.getElem?_eq_getElem (by omega)]; rfl
  · rw [List.getElem?_eq_none (by rw [List.length_range]; omega), if_neg (by omega), List.getElem?_eq_none (by omega)]; rfl
/-- the history behind one more record -/
def hpush (hi : List (Nat × Option Nat)) (j : Nat) (o : Option Nat) : List (Nat × Option Nat) := (if hi.length = 10 then hi.tail else hi) ++ [(j, o)]
theorem hpush_len {hi : List (Nat × Option Nat)} (h : hi.length ≤ 10) (j : Nat) (o : Option Nat) : (hpush hi j o).length ≤ 10 := by
  unfold hpush
  rw [List.length_append]
  split
  · rw [List.length_tail, List.length_singleton]; omega
  · rw [List.length_singleton]; omega
def hX (hi : List (Nat × Option Nat)) (h_k : Int32) (h_s : List Int32) (h_c : List Int64) : Prop := h_k = nI hi.length ∧ pre 10 h_s (hi.map fun q => nI q.1) ∧ pre 10 h_c (hi.map fun q => eO q.2)
theorem nI_len_10 {k : Nat} (hk : k ≤ 10) : nI k = 10 ↔ k = 10 := by
  rw [show (10 : Int32) = nI 10 from rfl, nI_eq (by omega) (by omega)]
theorem X_remember {hi : List (Nat × Option Nat)} {h_k : Int32} {h_s : List Int32} {h_c : List Int64} (h : hX hi h_k h_s h_c) (j : Nat) (o : Option Nat) : ∃ r, f_X4_remember (nI j) (eO o) h_k h_s h_c = some r ∧ hX (hpush hi j o) r.1 r.2.1 r.2.2 := by
  obtain ⟨rfl, hs, hc⟩ := h
  have hl : hi.length ≤ 10 := by have := hs.le; rwa [List.length_map] at this
  unfold f_X4_remember hpush
  by_cases h10 : hi.length = 10
  · rw [if_neg (show ¬ nI hi.length < (10 : Int32) by rw [h10]; decide), if_pos h10]
    have es := hs.full (by rw [List.length_map]; exact h10)
    have ec := hc.full (by rw [List.length_map]; exact h10)
    subst es; subst ec
    rw [tcpy_shl _ (by rw [List.length_map]; exact h10), tcpy_shl _ (by rw [List.length_map]; exact h10)]
    have e9 : (9 : Int32) = nI (hi.tail.map fun q => nI q.1).length := by
      rw [List.length_map, List.length_tail, h10]; rfl
    have e9' : (9 : Int32) = nI (hi.tail.map fun q => eO q.2).length := by
      rw [List.length_map, List.length_tail, h10]; rfl
    have hp1 : pre 10 (shl 9 (hi.map fun q => nI q.1)) (hi.tail.map fun q => nI q.1) := by
      have := shl_pre (xs := hi.map fun q => nI q.1) (by rw [List.length_map]; exact h10)
      rwa [← List.map_tail] at this
    have hp2 : pre 10 (shl 9 (hi.map fun q => eO q.2)) (hi.tail.map fun q => eO q.2) := by
      have := shl_pre (xs := hi.map fun q => eO q.2) (by rw [List.length_map]; exact h10)
      rwa [← List.map_tail] at this
    obtain ⟨z1, e1, p1⟩ := hp1.push (by decide) (by rw [List.length_map, List.length_tail]; omega) (nI j)
    obtain ⟨z2, e2, p2⟩ := hp2.push (by decide) (by rw [List.length_map, List.length_tail]; omega) (eO o)
    rw [← e9] at e1
    rw [← e9'] at e2
    refine ⟨((9 : Int32) + 1, z1, z2), by rw [Option.bind_some, Option.bind_some, e1, Option.bind_some, e2, Option.bind_some], ?_, ?_, ?_⟩
    · show (9 : Int32) + 1 = _
      rw [List.length_append, List.length_tail, h10]; rfl
    · rw [List.map_append]; exact p1
    · rw [List.map_append]; exact p2
  · rw [if_pos (show nI hi.length < (10 : Int32) by rw [show (10 : Int32) = nI 10 from rfl]; exact nI_lt (by omega) (by omega)), if_neg h10]
    obtain ⟨z1, e1, p1⟩ := hs.push (by decide) (by rw [List.length_map]; omega) (nI j)
    obtain ⟨z2, e2, p2⟩ := hc.push (by decide) (by rw [List.length_map]; omega) (eO o)
    rw [List.length_map] at e1 e2
    refine ⟨(nI hi.length + 1, z1, z2), by simp only [e1, e2, Option.bind_some], ?_, ?_, ?_⟩
    · show nI hi.length + 1 = _
      rw [List.length_append]; exact nI_1 _
    · rw [List.map_append]; exact p1
    · rw [List.map_append]; exact p2
/-- the reference's history -/
def hM (hi : List (Nat × Option Nat)) (m_rc : Int32) (m_rs : List Int32) (m_rt : List Int64) (m_rf : List Int32) : Prop := m_rc = nI hi.length ∧ pre 10 m_rs (hi.map fun q => nI q.1) ∧ pre 10 m_rf (hi.map fun q => fO q.2) ∧ m_rt.length = 10 ∧ ∀ (i s t : Nat), hi[i]? = some (s, some t) → m_rt[i]? = some (lN t)
theorem nar_0 : vp_nar .boolean 0 = 0 := by decide +kernel
theorem nar_1 : vp_nar .boolean 1 = 1 := by decide +kernel
theorem nar_fO (o : Option Nat) : vp_nar .boolean (fO o) = fO o := by
  cases o with
  | none => exact nar_0
  | some t => exact nar_1
theorem M_recloop {K : List Int32 → List Int64 → List Int32 → Option (Int32 × List Int32 × List Int64 × List Int32)} {xs : List Int32} {ys : List Int64} {zs : List Int32} (hx : xs.length = 10) (hy : ys.length = 10) (hz : zs.length = 10) (hb : ∀ v ∈ zs, vp_nar .boolean v = v) : ∀ (m k fu : Nat), k + m = 9 → m < fu → f_X8_record_L11 K fu (nI (k + 1)) (shl k xs) (shl k ys) (shl k zs) = K (shl 9 xs) (shl 9 ys) (shl 9 zs) := by
  intro m
  induction m with
  | zero =>
    intro k fu hk hf
    obtain ⟨fu, rfl⟩ : ∃ q, fu = q + 1 := ⟨fu - 1, by omega⟩
    have : k = 9 := by omega
    subst this
    rw [f_X8_record_L11, if_pos (by decide)]
  | succ m ih =>
    intro k fu hk hf
    obtain ⟨fu, rfl⟩ : ∃ q, fu = q + 1 := ⟨fu - 1, by omega⟩
    rw [f_X8_record_L11, if_neg (by rw [show (10 : Int32) = nI 10 from rfl]; exact nI_ge (by omega) (by decide))]
    have g : ∀ {α : Type} {l : List α}, l.length = 10 → ∃ v, l[k + 1]? = some v ∧ (shl k l)[k + 1]? = some v := fun {α l} hl => ⟨l[k + 1]'(by omega), List.getElem?_eq_getElem _, by rw [shl_get (by omega), if_neg (by omega), List.getElem?_eq_getElem]⟩
    obtain ⟨v1, a1, b1⟩ := g hx
    obtain ⟨v2, a2, b2⟩ := g hy
    obtain ⟨v3, a3, b3⟩ := g hz
    have e : nI (k + 1) - 1 = nI k := nI_pred k
    rw [tld_nI (by omega), b1, e, Option.bind_some, tst_nI (by rw [shl_len (by omega)]; omega) (by rw [shl_len (by omega), hx]; decide), shl_step (by omega) a1, Option.bind_some]
    rw [tld_nI (by omega), b2, Option.bind_some, tst_nI (by rw [shl_len (by omega)]; omega) (by rw [shl_len (by omega), hy]; decide), shl_step (by omega) a2, Option.bind_some]
    rw [tld_nI (by omega), b3, Option.bind_some, hb v3 (List.mem_of_getElem? a3), tst_nI (by rw [shl_len (by omega)]; omega) (by rw [shl_len (by omega), hz]; decide), shl_step (by omega) a3, Option.bind_some]
    rw [nI_1]
    exact ih (k + 1) fu (by omega) (by omega)
theorem M_record {hi : List (Nat × Option Nat)} {sl : List (Option Nat)} {m_rc : Int32} {m_rs : List Int32} {m_rt : List Int64} {m_rf : List Int32} {m_t : List Int64} (h : hM hi m_rc m_rs m_rt m_rf) (hsl : sl.length = 8) (ht : m_t.length = 8) (htt : ∀ (i t : Nat), sl[i]? = some (some t) → m_t[i]? = some (lN t)) {j : Nat} (hj : j < 8) {o : Option Nat} (ho : sl[j]? = some o) :
    ∃ r, f_X8_record (nI j) m_rc m_t (sl.map fO) m_rs m_rt m_rf = some r ∧ hM (hpush hi j o) r.1 r.2.1 r.2.2.1 r.2.2.2 := by
  obtain ⟨rfl, hs, hf, hl, hv⟩ := h
  have hk : hi.length ≤ 10 := by have := hs.le; rwa [List.length_map] at this
  obtain ⟨tv, etv⟩ : ∃ v, m_t[j]? = some v := ⟨m_t[j]'(by omega), List.getElem?_eq_getElem _⟩
  have e1 : tld m_t (nI j) = some tv := by rw [tld_nI (by omega), etv]
  have e2 : tld (sl.map fO) (nI j) = some (fO o) := by rw [tld_nI (by omega), List.getElem?_map, ho]; rfl
  have key : ∀ t, o = some t → tv = lN t := by
    rintro t rfl
    have := htt j t ho
    rw [etv] at this
    exact Option.some.inj this
  unfold f_X8_record hpush
  by_cases h10 : hi.length = 10
  · rw [if_pos ((nI_len_10 hk).mpr h10), if_pos h10]
    have es := hs.full (by rw [List.length_map]; exact h10)
    have ef := hf.full (by rw [List.length_map]; exact h10)
    subst es; subst ef
    have L := M_recloop (K := fun k25 k26 k27 => (tst k25 (nI hi.length - 1) (nI j)).bind fun z28 => (tld m_t (nI j)).bind fun r30 => (tst k26 (nI hi.length - 1) r30).bind fun z32 => (tld (sl.map fO) (nI j)).bind fun r34 => (tst k27 (nI hi.length - 1) (vp_nar .boolean r34)).bind fun z36 => some (((nI hi.length - 1) + 1), z28, z32, z36)) (xs := hi.map fun q => nI q.1) (ys := m_rt) (zs := hi.map fun q => fO q.2) (by rw [List.length_map]; exact h10) hl (by rw [List.length_map]; exact h10) (fun v hv9 => by obtain ⟨q, -, rfl⟩ := List.mem_map.mp hv9; exact nar_fO q.2) 9 0 tFU (by omega) (by decide)
    rw [shl_0, shl_0, shl_0] at L
    have L2 : f_X8_record_L11 _ tFU 1 _ _ _ = _ := L
    rw [L2]
    have e9 : nI hi.length - 1 = nI 9 := by rw [h10]; rfl
    have hp1 : pre 10 (shl 9 (hi.map fun q => nI q.1)) (hi.tail.map fun q => nI q.1) := by
      have := shl_pre (xs := hi.map fun q => nI q.1) (by rw [List.length_map]; exact h10)
      rwa [← List.map_tail] at this
    have hp2 : pre 10 (shl 9 (hi.map fun q => fO q.2)) (hi.tail.map fun q => fO q.2) := by
      have := shl_pre (xs := hi.map fun q => fO q.2) (by rw [List.length_map]; exact h10)
      rwa [← List.map_tail] at this
    obtain ⟨z1, c1, p1⟩ := hp1.push (by decide) (by rw [List.length_map, List.length_tail]; omega) (nI j)
    obtain ⟨z2, c2, p2⟩ := hp2.push (by decide) (by rw [List.length_map, List.length_tail]; omega) (fO o)
    rw [List.length_map, List.length_tail, h10] at c1 c2
    have c3 : tst (shl 9 m_rt) (nI 9) tv = some ((shl 9 m_rt).set 9 tv) := tst_nI (by rw [shl_len (by omega)]; omega) (by rw [shl_len (by omega), hl]; decide)
    refine ⟨(nI hi.length - 1 + 1, z1, (shl 9 m_rt).set 9 tv, z2), ?_, ?_, ?_, ?_, ?_, ?_⟩
    · rw [e1, e2]
      simp only [Option.bind_some, nar_fO]
      rw [e9, show (9 : Nat) = 10 - 1 from rfl, c1]
      simp only [Option.bind_some]
      rw [show (10 : Nat) - 1 = 9 from rfl, c3]
      simp only [Option.bind_some]
      rw [show (9 : Nat) = 10 - 1 from rfl, c2]
      rfl
    · show nI hi.length - 1 + 1 = _
      rw [h10, List.length_append, List.length_tail, h10]; rfl
    · rw [List.map_append]; exact p1
    · rw [List.map_append]; exact p2
    · show ((shl 9 m_rt).set 9 tv).length = 10
      rw [List.length_set, shl_len (by omega), hl]
    · intro i s t hi9
      show ((shl 9 m_rt).set 9 tv)[i]? = _
      by_cases h9 : i < 9
      · rw [List.getElem?_append_left (by rw [List.length_tail]; omega), List.getElem?_tail] at hi9
        rw [List.getElem?_set_ne (by omega), shl_get (by omega), if_pos h9]
        exact hv (i + 1) s t hi9
      · by_cases h99 : i = 9
        · subst h99
          rw [List.getElem?_append_right (by rw [List.length_tail]; omega), List.length_tail, h10] at hi9
          have : (j, o) = (s, some t) := Option.some.inj hi9
          rw [List.getElem?_set_self (by rw [shl_len (by omega)]; omega), key t (by injection this)]
        · rw [List.getElem?_eq_none (by rw [List.length_append, List.length_tail, List.length_singleton]; omega)] at hi9
          cases hi9
  · rw [if_neg (fun q => h10 ((nI_len_10 hk).mp q)), if_neg h10]
    obtain ⟨z1, c1, p1⟩ := hs.push (by decide) (by rw [List.length_map]; omega) (nI j)
    obtain ⟨z2, c2, p2⟩ := hf.push (by decide) (by rw [List.length_map]; omega) (fO o)
    rw [List.length_map] at c1 c2
    have c3 : tst m_rt (nI hi.length) tv = some (m_rt.set hi.length tv) := tst_nI (by omega) (by omega)
    refine ⟨(nI hi.length + 1, z1, m_rt.set hi.length tv, z2), by simp only [c1, e1, c3, e2, nar_fO, c2, Option.bind_some], ?_, ?_, ?_, ?_, ?_⟩
    · show nI hi.length + 1 = _
      rw [List.length_append]; exact nI_1 _
    · rw [List.map_append]; exact p1
    · rw [List.map_append]; exact p2
    · show (m_rt.set hi.length tv).length = 10
      rw [List.length_set, hl]
    · intro i s t hi9
      show (m_rt.set hi.length tv)[i]? = _
      by_cases h9 : i < hi.length
      · rw [List.getElem?_append_left h9] at hi9
        rw [List.getElem?_set_ne (by omega)]
        exact hv i s t hi9
      · by_cases h99 : i = hi.length
        · subst h99
          rw [List.getElem?_append_right (by omega), Nat.sub_self] at hi9
          have : (j, o) = (s, some t) := Option.some.inj hi9
          rw [List.getElem?_set_self (by omega), key t (by injection this)]
        · rw [List.getElem?_eq_none (by rw [List.length_append, List.length_singleton]; omega)] at hi9
          cases hi9
