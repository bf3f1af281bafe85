/-! the calls about primes, graph, reasons -/
theorem z_m5 : ¬ (-5 : Int32) = 0 := by decide
theorem oI_some {p : Nat} (hp : p < 2 ^ 31) : ¬ oI (some p) = -1 := nI_ne_m1 hp
theorem p_draw {n : Nat} {sl : List (Option Nat)} {s_f m_t : List Int64} {m_f : List Int32} {g_p g_a : List Int32} (hn : n ≤ 5) (hS : rS n sl s_f m_t m_f) (hp : g_p.length = 32) (ha : g_a.length = 5) (g_k g_v : Int32) (x : Int32) :
    (f_X8_isSlot x = 0 ∧ f_X7_drawGraph x (nI n) s_f g_k g_v g_p g_a = some (-2, g_k, g_v, g_p, g_a) ∧ f_X8_wrongOrNot x (nI n) (nI (pts n)) m_t m_f = some (-2)) ∨
    (f_X8_isSlot x = 1 ∧ ∃ e, ¬ e = 0 ∧ f_X7_drawGraph x (nI n) s_f g_k g_v g_p g_a = some (e, g_k, g_v, g_p, g_a) ∧ f_X8_wrongOrNot x (nI n) (nI (pts n)) m_t m_f = some e) ∨
    (∃ (t : Nat) (g_p' : List Int32), f_X8_isSlot x = 1 ∧ t < tabs n ∧ mon n t ∧ tld m_t x = some (lN t) ∧ pre 32 g_p' ((PL n t (pts n)).map nI) ∧ f_X7_drawGraph x (nI n) s_f g_k g_v g_p g_a = some (0, nI (PL n t (pts n)).length, nI (VS n t (pts n)), g_p', adjL (NB n t (pts n))) ∧ f_X8_wrongOrNot x (nI n) (nI (pts n)) m_t m_f = some 0) := by
  have h32 := pts_32 hn
  unfold f_X7_drawGraph f_X8_wrongOrNot
  rcases X_slot3 hn hS x with ⟨a1, a2, a3, a4⟩ | ⟨j, hj, rfl, ho, a1, a2, a3, a4, a5, a6, a7⟩ | ⟨j, t, hj, rfl, ho, a1, a2, a3, a4, a5, a6, a7, a8, a9⟩
  · left
    rw [a3, a4, Option.bind_some, Option.bind_some, if_neg z_m2, if_neg z_m2, Option.bind_some]
    exact ⟨a2, rfl, rfl⟩
  · right; left
    rw [a3, a4, Option.bind_some, Option.bind_some, if_neg z_m3, if_neg z_m3, Option.bind_some]
    exact ⟨a2, _, z_m3, rfl, rfl⟩
  · have ht := tabs63 hn a8
    simp only [a3, a4, Option.bind_some, if_true, a5, a9, X_vio hn ht, M_vio hn ht]
    cases hv : ff (vio n t) (pts n) 0 with
    | some p =>
      right; left
      have hp2 := (ff_some hv).2.1
      rw [if_neg (oI_some (by omega)), if_neg (oI_some (by omega))]
      exact ⟨a2, _, z_m4, rfl, rfl⟩
    | none =>
      right; right
      obtain ⟨g_p', h1, h2⟩ := X_fill hn ht hp ha g_k g_v
      rw [if_pos (show oI none = -1 from rfl), if_pos (show oI none = -1 from rfl), h2, Option.bind_some]
      exact ⟨t, g_p', a2, a8, mon_of hv, rfl, h1, rfl, rfl⟩
theorem M_primesOf {n t : Nat} (hn : n ≤ 5) (ht : t < 2 ^ 62) : f_X8_primesOf (lN t) (nI n) (nI (pts n)) = some (nI (PL n t (pts n)).length) := by
  have h32 := pts_32 hn
  have key : ∀ (m k fu : Nat), k + m = pts n → m < fu → f_X8_primesOf_L5 (lN t) (nI n) (nI (pts n)) (fun y5 => some y5) fu (nI (PL n t k).length) (nI k) = some (nI (PL n t (pts n)).length) := by
    intro m
    induction m with
    | zero =>
      intro k fu hk hf
      obtain ⟨fu, rfl⟩ : ∃ q, fu = q + 1 := ⟨fu - 1, by omega⟩
      have : k = pts n := by omega
      subst this
      rw [f_X8_primesOf_L5, if_pos (nI_le (Nat.le_refl _) (by omega))]
    | succ m ih =>
      intro k fu hk hf
      obtain ⟨fu, rfl⟩ : ∃ q, fu = q + 1 := ⟨fu - 1, by omega⟩
      rw [f_X8_primesOf_L5, if_neg (nI_ge (by omega) (by omega)), M_prime hn ht (by omega), Option.bind_some, nI_1, Int32.add_zero, nI_1, ← ih (k + 1) fu (by omega) (by omega), PL]
      cases prm n t k with
      | false => rw [if_pos bf0]; rfl
      | true => rw [if_neg bt1, if_pos rfl, List.length_append]; rfl
  exact key (pts n) 0 tFU (by omega) (pts_fu hn)
theorem PL_pre (n t k : Nat) : ∀ d, PL n t k <+: PL n t (k + d)
  | 0 => List.prefix_refl _
  | d + 1 => by
    refine (PL_pre n t k d).trans ?_
    rw [show k + (d + 1) = (k + d) + 1 by omega, PL]
    split
    · exact List.prefix_append _ _
    · exact List.prefix_refl _
theorem M_primeOf_at {n t i : Nat} (hn : n ≤ 5) (ht : t < 2 ^ 62) (hi : i < 2 ^ 31) {K : Option Int32} : ∀ (m k fu : Nat), k + m = pts n → m < fu → (PL n t k).length ≤ i → f_X8_primeOf_L6 (lN t) (nI i) (nI n) (nI (pts n)) K fu (nI (PL n t k).length) (nI k) = match (PL n t (pts n))[i]? with | some q => some (nI q) | none => K := by
  have h32 := pts_32 hn
  intro m
  induction m with
  | zero =>
    intro k fu hk hf hl
    obtain ⟨fu, rfl⟩ : ∃ q, fu = q + 1 := ⟨fu - 1, by omega⟩
    have : k = pts n := by omega
    subst this
    rw [f_X8_primeOf_L6, if_pos (nI_le (Nat.le_refl _) (by omega)), List.getElem?_eq_none hl]
  | succ m ih =>
    intro k fu hk hf hl
    obtain ⟨fu, rfl⟩ : ∃ q, fu = q + 1 := ⟨fu - 1, by omega⟩
    have hlk := PL_len n t k
    rw [f_X8_primeOf_L6, if_neg (nI_ge (by omega) (by omega)), M_prime hn ht (by omega), Option.bind_some, nI_1, nI_1]
    cases hp : prm n t k with
    | false =>
      have e : PL n t (k + 1) = PL n t k := by rw [PL, hp]; rfl
      rw [if_pos bf0, ← ih (k + 1) fu (by omega) (by omega) (by rw [e]; exact hl), e]
    | true =>
      have e : PL n t (k + 1) = PL n t k ++ [k] := by rw [PL, hp]; rfl
      rw [if_neg bt1]
      by_cases he : (PL n t k).length = i
      · rw [if_pos (congrArg nI he)]
        have hpre := PL_pre n t (k + 1) (pts n - (k + 1))
        rw [show k + 1 + (pts n - (k + 1)) = pts n by omega, e] at hpre
        have : (PL n t (pts n))[i]? = some k := by
          obtain ⟨r, hr⟩ := hpre
          rw [← hr, List.getElem?_append_left (by rw [List.length_append]; show _ < _ + 1; omega), ← he, List.getElem?_concat_length]
        rw [this]
      · rw [if_neg (fun q => he ((nI_eq (by omega) hi).mp q)), ← ih (k + 1) fu (by omega) (by omega) (by rw [e, List.length_append]; show _ + 1 ≤ _; omega), e, List.length_append]; rfl
theorem M_primeOf_no {n t : Nat} (hn : n ≤ 5) (ht : t < 2 ^ 62) {x : Int32} (hx : ∀ i, i < 33 → x ≠ nI i) {K : Option Int32} : ∀ (m k fu : Nat), k + m = pts n → m < fu → f_X8_primeOf_L6 (lN t) x (nI n) (nI (pts n)) K fu (nI (PL n t k).length) (nI k) = K := by
  have h32 := pts_32 hn
  intro m
  induction m with
  | zero =>
    intro k fu hk hf
    obtain ⟨fu, rfl⟩ : ∃ q, fu = q + 1 := ⟨fu - 1, by omega⟩
    have : k = pts n := by omega
    subst this
    rw [f_X8_primeOf_L6, if_pos (nI_le (Nat.le_refl _) (by omega))]
  | succ m ih =>
    intro k fu hk hf
    obtain ⟨fu, rfl⟩ : ∃ q, fu = q + 1 := ⟨fu - 1, by omega⟩
    have hlk := PL_len n t k
    have hi := ih (k + 1) fu (by omega) (by omega)
    rw [f_X8_primeOf_L6, if_neg (nI_ge (by omega) (by omega)), M_prime hn ht (by omega), Option.bind_some, nI_1, nI_1]
    cases hp : prm n t k with
    | false =>
      have e : PL n t (k + 1) = PL n t k := by rw [PL, hp]; rfl
      rw [e] at hi
      rw [if_pos bf0, hi]
    | true =>
      have e : PL n t (k + 1) = PL n t k ++ [k] := by rw [PL, hp]; rfl
      rw [e, List.length_append] at hi
      rw [if_neg bt1, if_neg (fun q => hx _ (by omega) q.symm)]
      exact hi
theorem p_primeAt {n t : Nat} (hn : n ≤ 5) (ht : t < 2 ^ 62) {g_p : List Int32} (hp : pre 32 g_p ((PL n t (pts n)).map nI)) (x : Int32) : ∃ z, f_X3_primeAt x (nI (PL n t (pts n)).length) g_p = some z ∧ f_X8_primeOf (lN t) x (nI n) (nI (pts n)) = some z := by
  have h32 := pts_32 hn
  have hl := PL_len n t (pts n)
  unfold f_X3_primeAt f_X8_primeOf
  by_cases hx : ∃ i, i < 33 ∧ x = nI i
  · obtain ⟨i, hi, rfl⟩ := hx
    have hM := M_primeOf_at hn ht (i := i) (by omega) (K := some (-1)) (pts n) 0 tFU (by omega) (pts_fu hn) (Nat.zero_le _)
    have hM : f_X8_primeOf_L6 (lN t) (nI i) (nI n) (nI (pts n)) (some (-1)) tFU 0 0 = _ := hM
    rw [hM]
    by_cases hi2 : i < (PL n t (pts n)).length
    · rw [if_neg (ne10 (n_isIndex1 hi2 (by omega))), hp.ld (by decide) (by rw [List.length_map]; exact hi2), List.getElem?_map, List.getElem?_eq_getElem hi2]
      exact ⟨_, rfl, rfl⟩
    · rw [if_pos (by unfold f_X7_isIndex; rw [if_neg (nI_pos (by omega)), if_pos (nI_le (by omega) (by omega))]), List.getElem?_eq_none (by omega)]
      exact ⟨_, rfl, rfl⟩
  · have hx : ∀ i, i < 33 → x ≠ nI i := fun i hi e => hx ⟨i, hi, e⟩
    have hM := M_primeOf_no hn ht hx (K := some (-1)) (pts n) 0 tFU (by omega) (pts_fu hn)
    have hM : f_X8_primeOf_L6 (lN t) x (nI n) (nI (pts n)) (some (-1)) tFU 0 0 = _ := hM
    rw [hM, if_pos]
    · exact ⟨_, rfl, rfl⟩
    · unfold f_X7_isIndex
      rcases pk_ix x (n := (PL n t (pts n)).length) (by omega) with h | h | ⟨j, hj, rfl⟩
      · rw [if_pos h]
      · split
        · rfl
        · rfl
      · exact absurd rfl (hx j (by omega))
section GC
variable {n : Nat} {sl : List (Option Nat)} {s_f m_t : List Int64} {m_f : List Int32} {s_n m_n m_pt : Int32} {g_p g_a g_t c_t c_p m_nr m_ty m_pa : List Int32}
theorem rG.pa {g_p' g_a' : List Int32} (hG : rG g_p g_a g_t c_t c_p m_nr m_ty m_pa) (h1 : g_p'.length = 32) (h2 : g_a'.length = 5) : rG g_p' g_a' g_t c_t c_p m_nr m_ty m_pa := ⟨h1, h2, hG.2.2⟩
theorem rG.pan {g_p' g_a' m_nr' : List Int32} (hG : rG g_p g_a g_t c_t c_p m_nr m_ty m_pa) (h1 : g_p'.length = 32) (h2 : g_a'.length = 5) (h3 : m_nr'.length = 5) : rG g_p' g_a' g_t c_t c_p m_nr' m_ty m_pa := ⟨h1, h2, hG.2.2.1, hG.2.2.2.1, hG.2.2.2.2.1, h3, hG.2.2.2.2.2.2⟩
theorem rG.patn {g_p' g_a' g_t' m_nr' : List Int32} (hG : rG g_p g_a g_t c_t c_p m_nr m_ty m_pa) (h1 : g_p'.length = 32) (h2 : g_a'.length = 5) (h4 : g_t'.length = 4) (h3 : m_nr'.length = 5) : rG g_p' g_a' g_t' c_t c_p m_nr' m_ty m_pa := ⟨h1, h2, h4, hG.2.2.2.1, hG.2.2.2.2.1, h3, hG.2.2.2.2.2.2⟩
theorem p_primeImplicants (hN : rN n s_n m_n m_pt) (hS : rS n sl s_f m_t m_f) (hG : rG g_p g_a g_t c_t c_p m_nr m_ty m_pa) (g_k g_v : Int32) (x0 : Int32) : ∃ (z g_k' g_v' : Int32) (g_p' g_a' : List Int32), f_X7_primeImplicants x0 s_n s_f g_k g_v g_p g_a = some (z, g_k', g_v', g_p', g_a') ∧ f_X8_primeImplicants x0 m_n m_pt m_t m_f = some z ∧ rG g_p' g_a' g_t c_t c_p m_nr m_ty m_pa := by
  obtain ⟨hn0, hn, rfl, rfl, rfl⟩ := hN
  unfold f_X7_primeImplicants f_X8_primeImplicants
  rcases p_draw hn hS hG.1 hG.2.1 g_k g_v x0 with ⟨a0, a1, a2⟩ | ⟨a0, e, a3, a1, a2⟩ | ⟨t, g_p', a0, a1, a2, a3, a4, a5, a6⟩
  · rw [a1, a2, Option.bind_some, Option.bind_some, if_neg z_m2, if_neg z_m2]
    exact ⟨_, _, _, _, _, rfl, rfl, hG⟩
  · rw [a1, a2, Option.bind_some, Option.bind_some, if_neg a3, if_neg a3]
    exact ⟨_, _, _, _, _, rfl, rfl, hG⟩
  · rw [a5, a6, Option.bind_some, Option.bind_some, if_pos rfl, if_pos rfl, a3, Option.bind_some, M_primesOf hn (tabs63 hn a1), Option.bind_some]
    exact ⟨_, _, _, _, _, rfl, rfl, hG.pa a4.1 rfl⟩
theorem p_primeImplicant (hN : rN n s_n m_n m_pt) (hS : rS n sl s_f m_t m_f) (hG : rG g_p g_a g_t c_t c_p m_nr m_ty m_pa) (g_k g_v : Int32) (x0 x1 : Int32) : ∃ (z g_k' g_v' : Int32) (g_p' g_a' : List Int32), f_X7_primeImplicant x0 x1 s_n s_f g_k g_v g_p g_a = some (z, g_k', g_v', g_p', g_a') ∧ f_X8_primeImplicant x0 x1 m_n m_pt m_t m_f = some z ∧ rG g_p' g_a' g_t c_t c_p m_nr m_ty m_pa := by
  obtain ⟨hn0, hn, rfl, rfl, rfl⟩ := hN
  unfold f_X7_primeImplicant f_X8_primeImplicant
  rcases p_draw hn hS hG.1 hG.2.1 g_k g_v x0 with ⟨a0, a1, a2⟩ | ⟨a0, e, a3, a1, a2⟩ | ⟨t, g_p', a0, a1, a2, a3, a4, a5, a6⟩
  · rw [a1, a2, Option.bind_some, Option.bind_some, if_neg z_m2, if_neg z_m2]
    exact ⟨_, _, _, _, _, rfl, rfl, hG⟩
  · rw [a1, a2, Option.bind_some, Option.bind_some, if_neg a3, if_neg a3]
    exact ⟨_, _, _, _, _, rfl, rfl, hG⟩
  · obtain ⟨z, h1, h2⟩ := p_primeAt hn (tabs63 hn a1) a4 x1
    rw [a5, a6, Option.bind_some, Option.bind_some, if_pos rfl, if_pos rfl, a3, Option.bind_some, h2, h1, Option.bind_some, Option.bind_some]
    exact ⟨_, _, _, _, _, rfl, rfl, hG.pa a4.1 rfl⟩
theorem NB_32 {n : Nat} (hn : n ≤ 5) (t : Nat) (v : Nat) : NB n t (pts n) v < 32 := by
  have := (NB_ok n t).lt v
  have := n_p5 hn
  omega
theorem NB_irr (n t v : Nat) : (NB n t (pts n) v).testBit v = false := by
  cases h : (NB n t (pts n) v).testBit v with
  | false => rfl
  | true => exact absurd rfl ((NB_ok n t).2 v v h).1
theorem p_neighbors (hN : rN n s_n m_n m_pt) (hS : rS n sl s_f m_t m_f) (hG : rG g_p g_a g_t c_t c_p m_nr m_ty m_pa) (g_k g_v m_ve : Int32) (x0 x1 : Int32) : ∃ (z g_k' g_v' : Int32) (g_p' g_a' : List Int32) (m_ve' : Int32) (m_nr' : List Int32), f_X7_neighbors x0 x1 s_n s_f g_k g_v g_p g_a = some (z, g_k', g_v', g_p', g_a') ∧ f_X8_neighbors x0 x1 m_n m_pt m_ve m_t m_f m_nr = some (z, m_ve', m_nr') ∧ rG g_p' g_a' g_t c_t c_p m_nr' m_ty m_pa := by
  obtain ⟨hn0, hn, rfl, rfl, rfl⟩ := hN
  unfold f_X7_neighbors f_X8_neighbors
  rcases n_var x1 hn0 hn with ⟨v1, v2⟩ | ⟨v, hv, rfl, v1, v2⟩
  · rw [if_pos v1, if_pos v2]
    split
    · exact ⟨_, _, _, _, _, _, _, rfl, rfl, hG⟩
    · exact ⟨_, _, _, _, _, _, _, rfl, rfl, hG⟩
  · rw [if_neg (ne10 v1), if_neg (ne10 v2)]
    rcases p_draw hn hS hG.1 hG.2.1 g_k g_v x0 with ⟨a0, a1, a2⟩ | ⟨a0, e, a3, a1, a2⟩ | ⟨t, g_p', a0, a1, a2, a3, a4, a5, a6⟩
    · rw [a1, a2, Option.bind_some, Option.bind_some, if_neg z_m2, if_neg z_m2, if_pos a0]
      exact ⟨_, _, _, _, _, _, _, rfl, rfl, hG⟩
    · rw [a1, a2, Option.bind_some, Option.bind_some, if_neg a3, if_neg a3, if_neg (ne10 a0)]
      exact ⟨_, _, _, _, _, _, _, rfl, rfl, hG⟩
    · rw [a5, a6, Option.bind_some, Option.bind_some, if_pos rfl, if_pos rfl, if_neg (ne10 a0), a3, Option.bind_some, M_graph hn (tabs63 hn a1) hG.2.2.2.2.2.1, Option.bind_some, adjL_ld _ (by omega), Option.bind_some, Option.bind_some]
      exact ⟨_, _, _, _, _, _, _, rfl, rfl, hG.pan a4.1 rfl rfl⟩
theorem p_inducedPath (hN : rN n s_n m_n m_pt) (hS : rS n sl s_f m_t m_f) (hG : rG g_p g_a g_t c_t c_p m_nr m_ty m_pa) (g_k g_v m_ve : Int32) (x0 x1 : Int32) : ∃ (z g_k' g_v' : Int32) (g_p' g_a' g_t' : List Int32) (m_ve' : Int32) (m_nr' : List Int32), f_X7_inducedPath x0 x1 s_n s_f g_k g_v g_p g_a g_t = some (z, g_k', g_v', g_p', g_a', g_t') ∧ f_X8_inducedPath x0 x1 m_n m_pt m_ve m_t m_f m_nr = some (z, m_ve', m_nr') ∧ rG g_p' g_a' g_t' c_t c_p m_nr' m_ty m_pa := by
  obtain ⟨hn0, hn, rfl, rfl, rfl⟩ := hN
  unfold f_X7_inducedPath f_X8_inducedPath
  rcases n_ix x1 (N := 4) (by decide) (by decide) with ⟨v1, v2⟩ | ⟨v, hv, rfl, v1, v2⟩
  · have v1 : f_X7_isIndex x1 4 = 0 := v1
    have v2 : f_X8_isIn x1.toInt64 0 3 = 0 := v2
    rw [if_pos v1, if_pos v2]
    split
    · exact ⟨_, _, _, _, _, _, _, _, rfl, rfl, hG⟩
    · exact ⟨_, _, _, _, _, _, _, _, rfl, rfl, hG⟩
  · have v1 : f_X7_isIndex (nI v) 4 = 1 := v1
    have v2 : f_X8_isIn (nI v).toInt64 0 3 = 1 := v2
    rw [if_neg (ne10 v1), if_neg (ne10 v2)]
    rcases p_draw hn hS hG.1 hG.2.1 g_k g_v x0 with ⟨a0, a1, a2⟩ | ⟨a0, e, a3, a1, a2⟩ | ⟨t, g_p', a0, a1, a2, a3, a4, a5, a6⟩
    · rw [a1, a2, Option.bind_some, Option.bind_some, if_neg z_m2, if_neg z_m2, if_pos a0]
      exact ⟨_, _, _, _, _, _, _, _, rfl, rfl, hG⟩
    · rw [a1, a2, Option.bind_some, Option.bind_some, if_neg a3, if_neg a3, if_neg (ne10 a0)]
      exact ⟨_, _, _, _, _, _, _, _, rfl, rfl, hG⟩
    · rw [a5, a6, Option.bind_some, Option.bind_some, if_pos rfl, if_pos rfl, if_neg (ne10 a0), a3, Option.bind_some, M_graph hn (tabs63 hn a1) hG.2.2.2.2.2.1, Option.bind_some, X_path (NB_32 hn t) (NB_irr n t) (fun u v h => ((NB_ok n t).2 u v h).2.1) hG.2.2.1, M_path (NB_32 hn t), Option.bind_some]
      cases h : ff (pcond (NB n t (pts n))) 625 0 with
      | none =>
        exact ⟨-1, _, _, _, _, g_t, _, _, rfl, (if_pos (show oI none = -1 from rfl)), hG.patn a4.1 rfl hG.2.2.1 rfl⟩
      | some k =>
        have hk := (ff_some h).2.1
        obtain ⟨d1, d2, d3, d4⟩ := pdig k (by omega)
        have e1 : oI (some k) = nI k := rfl
        rw [if_neg (oI_some (by omega)), e1, d1, d2, d3, d4]
        simp only [Option.bind_some]
        rw [if_neg z_1]
        match v, hv with
        | 0, _ => exact ⟨_, _, _, _, _, p4 k, _, _, rfl, rfl, hG.patn a4.1 rfl rfl rfl⟩
        | 1, _ => exact ⟨_, _, _, _, _, p4 k, _, _, rfl, rfl, hG.patn a4.1 rfl rfl rfl⟩
        | 2, _ => exact ⟨_, _, _, _, _, p4 k, _, _, rfl, rfl, hG.patn a4.1 rfl rfl rfl⟩
        | 3, _ => exact ⟨_, _, _, _, _, p4 k, _, _, rfl, rfl, hG.patn a4.1 rfl rfl rfl⟩
theorem p_badClique (hN : rN n s_n m_n m_pt) (hS : rS n sl s_f m_t m_f) (hG : rG g_p g_a g_t c_t c_p m_nr m_ty m_pa) (g_k g_v m_ve : Int32) (x0 : Int32) : ∃ (z g_k' g_v' : Int32) (g_p' g_a' : List Int32) (m_ve' : Int32) (m_nr' : List Int32), f_X7_badClique x0 s_n s_f g_k g_v g_p g_a = some (z, g_k', g_v', g_p', g_a') ∧ f_X8_badClique x0 m_n m_pt m_ve m_t m_f m_nr = some (z, m_ve', m_nr') ∧ rG g_p' g_a' g_t c_t c_p m_nr' m_ty m_pa := by
  obtain ⟨hn0, hn, rfl, rfl, rfl⟩ := hN
  unfold f_X7_badClique f_X8_badClique
  rcases p_draw hn hS hG.1 hG.2.1 g_k g_v x0 with ⟨a0, a1, a2⟩ | ⟨a0, e, a3, a1, a2⟩ | ⟨t, g_p', a0, a1, a2, a3, a4, a5, a6⟩
  · rw [a1, a2, Option.bind_some, Option.bind_some, if_neg z_m2, if_neg z_m2]
    exact ⟨_, _, _, _, _, _, _, rfl, rfl, hG⟩
  · rw [a1, a2, Option.bind_some, Option.bind_some, if_neg a3, if_neg a3]
    exact ⟨_, _, _, _, _, _, _, rfl, rfl, hG⟩
  · have hV : essS n t < 32 := by
      have := VS_lt n t
      have := n_p5 hn
      rw [VS_ess a2] at *
      omega
    rw [a5, a6, Option.bind_some, Option.bind_some, if_pos rfl, if_pos rfl, a3, Option.bind_some, M_graph hn (tabs63 hn a1) hG.2.2.2.2.2.1, Option.bind_some, Option.bind_some, X_bad hn a4, M_bad hn (tabs63 hn a1) hV, Option.bind_some, Option.bind_some, ← VS_ess a2]
    exact ⟨_, _, _, _, _, _, _, rfl, rfl, hG.pan a4.1 rfl rfl⟩
/-- why a function is not read-once -/
def rsn (n t : Nat) : Nat := match ff (vio n t) (pts n) 0 with
  | some _ => 1
  | none => match ff (pcond (NB n t (pts n))) 625 0 with
    | some _ => 2
    | none => match bad n t with
      | some _ => 3
      | none => 0
theorem p_why {t : Nat} (hn : n ≤ 5) (ht : t < tabs n) (hp : g_p.length = 32) (ha : g_a.length = 5) (hg : g_t.length = 4) (hr : m_nr.length = 5) (g_k g_v m_ve : Int32) : ∃ (g_k' g_v' : Int32) (g_p' g_a' g_t' : List Int32) (m_ve' : Int32) (m_nr' : List Int32), f_X7_whyNotReadOnce (lN t) (nI n) g_k g_v g_p g_a g_t = some (nI (rsn n t), g_k', g_v', g_p', g_a', g_t') ∧ f_X8_reasonOf (lN t) (nI n) (nI (pts n)) m_ve m_nr = some (nI (rsn n t), m_ve', m_nr') ∧ g_p'.length = 32 ∧ g_a'.length = 5 ∧ g_t'.length = 4 ∧ m_nr'.length = 5 ∧ (rsn n t = 0 → mon n t ∧ g_v' = nI (VS n t (pts n)) ∧ g_a' = adjL (NB n t (pts n)) ∧ ff (pcond (NB n t (pts n))) 625 0 = none) := by
  have h32 := pts_32 hn
  have ht2 := tabs63 hn ht
  unfold f_X7_whyNotReadOnce f_X8_reasonOf rsn
  rw [X_vio hn ht2, M_vio hn ht2, Option.bind_some, Option.bind_some]
  cases hv : ff (vio n t) (pts n) 0 with
  | some p =>
    have hp2 := (ff_some hv).2.1
    rw [if_neg (oI_some (by omega)), if_neg (oI_some (by omega))]
    exact ⟨_, _, _, _, _, _, _, rfl, rfl, hp, ha, hg, hr, fun h => (nomatch h)⟩
  | none =>
    obtain ⟨g_p', h1, h2⟩ := X_fill hn ht2 hp ha g_k g_v
    have hm := mon_of hv
    rw [if_pos (show oI none = -1 from rfl), if_pos (show oI none = -1 from rfl), h2, M_graph hn ht2 hr, Option.bind_some, Option.bind_some, X_path (NB_32 hn t) (NB_irr n t) (fun u v h => ((NB_ok n t).2 u v h).2.1) hg, M_path (NB_32 hn t)]
    have hV : essS n t < 32 := by
      have := VS_lt n t
      have := n_p5 hn
      rw [VS_ess hm] at *
      omega
    cases h : ff (pcond (NB n t (pts n))) 625 0 with
    | some k =>
      have hk := (ff_some h).2.1
      simp only [Option.bind_some]
      rw [if_neg z_1, if_neg (oI_some (by omega))]
      exact ⟨_, _, _, _, _, _, _, rfl, rfl, h1.1, rfl, rfl, rfl, fun h => (nomatch h)⟩
    | none =>
      have hM := M_bad (A := NB n t (pts n)) hn ht2 hV
      rw [← VS_ess hm] at hM
      have hM : f_X8_badCliqueOf (lN t) (nI n) (nI (pts n)) (nI (VS n t (pts n))) (adjL (NB n t (pts n))) = some (oI (bad n t)) := hM
      simp only [Option.bind_some]
      rw [if_pos trivial, if_pos (show oI none = -1 from rfl), X_bad hn h1, ← VS_ess hm, hM]
      cases hb : bad n t with
      | none => exact ⟨_, _, _, _, _, _, _, rfl, rfl, h1.1, rfl, hg, rfl, fun _ => ⟨hm, rfl, rfl, trivial⟩⟩
      | some s =>
        have hs := (ff_some hb).2.1
        simp only [Option.bind_some]
        rw [if_neg (oI_some (by omega)), if_neg (oI_some (by omega))]
        exact ⟨_, _, _, _, _, _, _, rfl, rfl, h1.1, rfl, hg, rfl, fun h => (nomatch h)⟩
theorem p_reason (hN : rN n s_n m_n m_pt) (hS : rS n sl s_f m_t m_f) (hG : rG g_p g_a g_t c_t c_p m_nr m_ty m_pa) (g_k g_v m_ve : Int32) (x0 : Int32) : ∃ (z g_k' g_v' : Int32) (g_p' g_a' g_t' : List Int32) (m_ve' : Int32) (m_nr' : List Int32), f_X7_reason x0 s_n s_f g_k g_v g_p g_a g_t = some (z, g_k', g_v', g_p', g_a', g_t') ∧ f_X8_reason x0 m_n m_pt m_ve m_t m_f m_nr = some (z, m_ve', m_nr') ∧ rG g_p' g_a' g_t' c_t c_p m_nr' m_ty m_pa := by
  obtain ⟨hn0, hn, rfl, rfl, rfl⟩ := hN
  unfold f_X7_reason f_X8_reason
  rcases X_slot3 hn hS x0 with ⟨a1, a2, a3, a4⟩ | ⟨j, hj, rfl, ho, a1, a2, a3, a4, a5, a6, a7⟩ | ⟨j, t, hj, rfl, ho, a1, a2, a3, a4, a5, a6, a7, a8, a9⟩
  · rw [a3, a4, Option.bind_some, Option.bind_some, if_neg z_m2, if_neg z_m2]
    exact ⟨_, _, _, _, _, _, _, _, rfl, rfl, hG⟩
  · rw [a3, a4, Option.bind_some, Option.bind_some, if_neg z_m3, if_neg z_m3]
    exact ⟨_, _, _, _, _, _, _, _, rfl, rfl, hG⟩
  · obtain ⟨b1, b2, b3, b4, b5, b6, b7, e1, e2, l1, l2, l3, l4, -⟩ := p_why hn a8 hG.1 hG.2.1 hG.2.2.1 hG.2.2.2.2.2.1 g_k g_v m_ve
    rw [a3, a4, Option.bind_some, Option.bind_some, if_pos rfl, if_pos rfl, a5, a9, Option.bind_some, Option.bind_some, e1, e2]
    exact ⟨_, _, _, _, _, _, _, _, rfl, rfl, hG.patn l1 l2 l3 l4⟩
theorem p_readOnceTrials (hN : rN n s_n m_n m_pt) (hG : rG g_p g_a g_t c_t c_p m_nr m_ty m_pa) (g_k g_v m_ve : Int32) (x0 x1 x2 : Int32) : ∃ (z g_k' g_v' : Int32) (g_p' g_a' g_t' : List Int32) (m_ve' : Int32) (m_nr' : List Int32), f_X7_readOnceTrials x0 x1 x2 s_n g_k g_v g_p g_a g_t = some (z, g_k', g_v', g_p', g_a', g_t') ∧ f_X8_readOnceTrials x0 x1 x2 m_n m_pt m_ve m_nr = some (z, m_ve', m_nr') ∧ rG g_p' g_a' g_t' c_t c_p m_nr' m_ty m_pa := by
  obtain ⟨hn0, hn, rfl, rfl, rfl⟩ := hN
  unfold f_X7_readOnceTrials f_X8_readOnceTrials
  rcases n_ix x1 (N := 13) (by decide) (by decide) with ⟨a1, a2⟩ | ⟨dr, hdr, rfl, a1, a2⟩
  · have a1 : f_X7_isIndex x1 13 = 0 := a1
    have a2 : f_X8_isIn x1.toInt64 0 12 = 0 := a2
    rw [if_pos a1, if_pos a2]; exact ⟨_, _, _, _, _, _, _, _, rfl, rfl, hG⟩
  · have a1 : f_X7_isIndex (nI dr) 13 = 1 := a1
    have a2 : f_X8_isIn (nI dr).toInt64 0 12 = 1 := a2
    rw [if_neg (ne10 a1), if_neg (ne10 a2)]
    have hin : (f_X8_isIn x2.toInt64 1 30 = 0 ∧ (x2 < 1 ∨ ¬ x2 ≤ 30)) ∨ ∃ k, 1 ≤ k ∧ k ≤ 30 ∧ x2 = nI k ∧ f_X8_isIn x2.toInt64 1 30 = 1 := by
      unfold f_X8_isIn
      by_cases c1 : x2 < 1
      · left
        exact ⟨by rw [if_pos (show lg_cmp x2.toInt64 1 < 0 from (lg_cmp_lt _ _).mpr ((fa_wide_lt x2 1).mpr c1))], Or.inl c1⟩
      · have c1' : ¬ lg_cmp x2.toInt64 1 < 0 := fun q => c1 ((fa_wide_lt x2 1).mp ((lg_cmp_lt _ _).mp q))
        by_cases c2 : x2 ≤ 30
        · right
          have i1 : ¬ x2.toInt < 1 := by rw [fa_lt] at c1; exact c1
          have i2 : x2.toInt ≤ 30 := by rw [fa_le] at c2; exact c2
          rcases pk_ix x2 (n := 31) (by decide) with h | h | ⟨k, hk, rfl⟩
          · rw [fa_lt] at h
            have e : (0 : Int32).toInt = 0 := by decide
            rw [e] at h; omega
          · rw [fa_le, nI_toInt (by decide)] at h; omega
          · rw [nI_toInt (by omega)] at i1
            refine ⟨k, by omega, by omega, rfl, ?_⟩
            rw [if_neg c1', if_neg]
            rw [lg_cmp_gt]
            intro q
            have := (fa_wide_lt 30 (nI k)).mp q
            rw [fa_lt, nI_toInt (by omega)] at this
            have e : (30 : Int32).toInt = 30 := by decide
            rw [e] at this; omega
        · left
          refine ⟨?_, Or.inr c2⟩
          rw [if_neg c1', if_pos]
          rw [lg_cmp_gt]
          refine (fa_wide_lt 30 x2).mpr ?_
          rw [fa_le] at c2
          rw [fa_lt]
          omega
    rcases hin with ⟨b1, b2⟩ | ⟨k, hk1, hk2, rfl, b1⟩
    · rw [if_pos b1]
      rcases b2 with b2 | b2
      · rw [if_pos b2]; exact ⟨_, _, _, _, _, _, _, _, rfl, rfl, hG⟩
      · rw [if_neg b2]
        split
        · exact ⟨_, _, _, _, _, _, _, _, rfl, rfl, hG⟩
        · exact ⟨_, _, _, _, _, _, _, _, rfl, rfl, hG⟩
    · rw [if_neg (ne10 b1), if_neg (by rw [show (1 : Int32) = nI 1 from rfl]; exact nI_nlt (by omega) (by omega)), if_pos (by rw [show (30 : Int32) = nI 30 from rfl]; exact nI_le (by omega) (by omega))]
      have key : ∀ (m i fu c : Nat) (g_k g_v : Int32) (g_p g_a g_t : List Int32) (m_ve : Int32) (m_nr : List Int32), i + m = k → m < fu → rG g_p g_a g_t c_t c_p m_nr m_ty m_pa → ∃ (z g_k' g_v' : Int32) (g_p' g_a' g_t' : List Int32) (m_ve' : Int32) (m_nr' : List Int32), f_X7_readOnceTrials_L29 x0 (nI dr) (nI k) (nI n) (fun y10 k11 k12 k13 k14 k15 => some (y10, k11, k12, k13, k14, k15)) fu (nI c) (nI i) g_k g_v g_p g_a g_t = some (z, g_k', g_v', g_p', g_a', g_t') ∧ f_X8_readOnceTrials_L33 x0 (nI dr) (nI k) (nI n) (nI (pts n)) (fun y9 k10 k11 => some (y9, k10, k11)) fu (nI c) (nI i) m_ve m_nr = some (z, m_ve', m_nr') ∧ rG g_p' g_a' g_t' c_t c_p m_nr' m_ty m_pa := by
        intro m
        induction m with
        | zero =>
          intro i fu c g_k g_v g_p g_a g_t m_ve m_nr hi hf hG
          obtain ⟨fu, rfl⟩ : ∃ q, fu = q + 1 := ⟨fu - 1, by omega⟩
          have : i = k := by omega
          subst this
          rw [f_X7_readOnceTrials_L29, if_pos (nI_le (Nat.le_refl _) (by omega)), f_X8_readOnceTrials_L33, if_pos (nI_le (Nat.le_refl _) (by omega))]
          exact ⟨_, _, _, _, _, _, _, _, rfl, rfl, hG⟩
        | succ m ih =>
          intro i fu c g_k g_v g_p g_a g_t m_ve m_nr hi hf hG
          obtain ⟨fu, rfl⟩ : ∃ q, fu = q + 1 := ⟨fu - 1, by omega⟩
          obtain ⟨t, h1, h2, h3⟩ := p_drawn hn (by omega : dr ≤ 12) (x0 + nI i)
          obtain ⟨b1, b2, b3, b4, b5, b6, b7, e1, e2, l1, l2, l3, l4, -⟩ := p_why hn h1 hG.1 hG.2.1 hG.2.2.1 hG.2.2.2.2.2.1 g_k g_v m_ve
          rw [f_X7_readOnceTrials_L29, if_neg (nI_ge (by omega) (by omega)), f_X8_readOnceTrials_L33, if_neg (nI_ge (by omega) (by omega)), h2, h3, Option.bind_some, Option.bind_some, e1, e2, Option.bind_some, Option.bind_some, nI_1, Int32.add_zero, nI_1]
          by_cases hr : nI (rsn n t) = 0
          · rw [if_pos hr, if_pos hr]
            exact ih (i + 1) fu (c + 1) _ _ _ _ _ _ _ (by omega) (by omega) (hG.patn l1 l2 l3 l4)
          · rw [if_neg hr, if_neg hr]
            exact ih (i + 1) fu c _ _ _ _ _ _ _ (by omega) (by omega) (hG.patn l1 l2 l3 l4)
      exact key k 0 tFU 0 g_k g_v g_p g_a g_t m_ve m_nr (by omega) (by unfold tFU; omega) hG
theorem p_compare {x_l x_e m_al m_el : List Int32} (hN : rN n s_n m_n m_pt) (hS : rS n sl s_f m_t m_f) (hA : rA x_l x_e m_al m_el) (hG : rG g_p g_a g_t c_t c_p m_nr m_ty m_pa) (g_k g_v : Int32) (x0 x1 : Int32) : ∃ (z g_k' g_v' : Int32) (g_p' g_a' : List Int32), f_X7_compare x0 x1 s_n s_f g_k g_v g_p g_a x_e x_l = some (z, g_k', g_v', g_p', g_a') ∧ f_X8_compare x0 x1 m_n m_pt m_t m_f m_al m_el = some z ∧ rG g_p' g_a' g_t c_t c_p m_nr m_ty m_pa := by
  obtain ⟨hn0, hn, rfl, rfl, rfl⟩ := hN
  unfold f_X7_compare f_X8_compare
  rcases n_array x0 with ⟨v1, v2⟩ | ⟨a, ha, rfl, v1, v2⟩
  · rw [if_pos v1, if_pos v2]; exact ⟨_, _, _, _, _, rfl, rfl, hG⟩
  · rw [if_neg (ne10 v1), if_neg (ne10 v2)]
    rcases p_draw hn hS hG.1 hG.2.1 g_k g_v x1 with ⟨a0, a1, a2⟩ | ⟨a0, e, a3, a1, a2⟩ | ⟨t, g_p', a0, a1, a2, a3, a4, a5, a6⟩
    · rw [a1, a2, Option.bind_some, if_neg z_m2, if_pos a0]
      exact ⟨_, _, _, _, _, rfl, rfl, hG⟩
    · rw [a1, a2, Option.bind_some, Option.bind_some, if_neg a3, if_neg a3, if_neg (ne10 a0)]
      exact ⟨_, _, _, _, _, rfl, rfl, hG⟩
    · obtain ⟨r, e1, e2, e3, e4⟩ := hA.ld ha
      rw [a5, a6, Option.bind_some, Option.bind_some, if_pos rfl, if_pos rfl, if_neg (ne10 a0), e1, e2, Option.bind_some, Option.bind_some]
      by_cases c1 : r = -1
      · rw [if_pos c1, if_pos c1]; exact ⟨_, _, _, _, _, rfl, rfl, hG.pa a4.1 rfl⟩
      · rw [if_neg c1, if_neg c1]
        rcases e3 with e3 | ⟨k, hk, rfl⟩
        · exact absurd e3 c1
        · have hk16 := e4 k rfl (by omega)
          have key : ∀ (m i fu : Nat), i + m = k → m < fu → ∃ z, f_X7_compare_L39 (nI a) (nI (PL n t (pts n)).length) (nI (VS n t (pts n))) g_p' (adjL (NB n t (pts n))) x_e x_l (some (-1, nI (PL n t (pts n)).length, nI (VS n t (pts n)), g_p', adjL (NB n t (pts n)))) fu (nI i) = some (z, nI (PL n t (pts n)).length, nI (VS n t (pts n)), g_p', adjL (NB n t (pts n))) ∧ f_X8_compare_L45 (nI a) x1 (nI n) (nI (pts n)) m_t m_al m_el (some (-1)) fu (nI i) = some z := by
            intro m
            induction m with
            | zero =>
              intro i fu hi hf
              obtain ⟨fu, rfl⟩ : ∃ q, fu = q + 1 := ⟨fu - 1, by omega⟩
              have : i = k := by omega
              subst this
              rw [f_X7_compare_L39, f_X8_compare_L45, e1, e2, Option.bind_some, Option.bind_some, if_pos (nI_le (Nat.le_refl _) (by omega)), if_pos (nI_le (Nat.le_refl _) (by omega))]
              exact ⟨_, rfl, rfl⟩
            | succ m ih =>
              intro i fu hi hf
              obtain ⟨fu, rfl⟩ : ∃ q, fu = q + 1 := ⟨fu - 1, by omega⟩
              obtain ⟨z, h1, h2⟩ := p_primeAt hn (tabs63 hn a1) a4 (nI i)
              have i1 : nI a * 16 + nI i = nI (16 * a + i) := by rw [show (16 : Int32) = nI 16 from rfl, pk_mul, nI_add, Nat.mul_comm]
              have i2 : 16 * nI a + nI i = nI (16 * a + i) := by rw [show (16 : Int32) = nI 16 from rfl, pk_mul, nI_add]
              have hA' := hA
              obtain ⟨rfl, rfl, l1, l2, l3⟩ := hA'
              rw [f_X7_compare_L39, f_X8_compare_L45, e1, Option.bind_some, Option.bind_some, if_neg (nI_ge (by omega) (by omega)), if_neg (nI_ge (by omega) (by omega)), i1, i2, tld_nI (by omega), List.getElem?_eq_getElem (by omega), Option.bind_some, Option.bind_some, h1, a3, Option.bind_some, Option.bind_some, h2, Option.bind_some, nI_1]
              split
              · exact ih (i + 1) fu (by omega) (by omega)
              · exact ⟨_, rfl, rfl⟩
          obtain ⟨z, h1, h2⟩ := key k 0 tFU (by omega) (by unfold tFU; omega)
          have h1 : f_X7_compare_L39 (nI a) _ _ _ _ x_e x_l _ tFU 0 = _ := h1
          have h2 : f_X8_compare_L45 (nI a) x1 _ _ _ _ _ _ tFU 0 = _ := h2
          rw [h1, h2]
          exact ⟨_, _, _, _, _, rfl, rfl, hG.pa a4.1 rfl⟩
end GC
