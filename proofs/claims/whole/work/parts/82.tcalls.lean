/-! the calls about the tree -/
def dN (T : List (Nat × Nat)) : Nat → Nat → Nat
  | 0, _ => 0
  | m + 1, a => if a = 0 then 0 else match T[a - 1]? with
    | none => 0
    | some q => 1 + dN T m q.2
section DP
variable {T : List (Nat × Nat)} {c_t c_p m_ty m_pa : List Int32}
theorem dN_0 (T : List (Nat × Nat)) : ∀ m, dN T m 0 = 0
  | 0 => rfl
  | _ + 1 => rfl
theorem X_dN (h2 : pre 9 c_p (paT T)) (hT : okT T) {K : Int32 → Option Int32} : ∀ (m fu c a : Nat), a ≤ m → c + a ≤ 9 → a ≤ T.length → m < fu → f_X1_depthOfNode_L4 (nI T.length) c_p K fu (nI c) (paI a) = K (nI (c + dN T m a)) := by
  have hT9 := hT.1
  intro m
  induction m with
  | zero =>
    intro fu c a ha hc hl hf
    obtain ⟨fu, rfl⟩ : ∃ q, fu = q + 1 := ⟨fu - 1, by omega⟩
    have : a = 0 := by omega
    subst this
    rw [f_X1_depthOfNode_L4]
    have : f_X1_has (paI 0) (nI T.length) = 0 := rfl
    rw [if_pos this]
    split <;> rfl
  | succ m ih =>
    intro fu c a ha hc hl hf
    obtain ⟨fu, rfl⟩ : ∃ q, fu = q + 1 := ⟨fu - 1, by omega⟩
    rw [f_X1_depthOfNode_L4]
    match a with
    | 0 =>
      have : f_X1_has (paI 0) (nI T.length) = 0 := rfl
      rw [if_pos this, dN_0, Nat.add_zero]
      split <;> rfl
    | k + 1 =>
      have hk : k < T.length := by omega
      obtain ⟨q, hq⟩ : ∃ q, T[k]? = some q := ⟨T[k], List.getElem?_eq_getElem hk⟩
      have hq2 : T[k]? = some (q.1, q.2) := hq
      have hb := hT.2 k q.1 q.2 hq2
      have h1 : ¬ f_X1_has (paI (k + 1)) (nI T.length) = 0 := ne10 (n_isIndex1 hk (by omega))
      have h3 : tld c_p (paI (k + 1)) = some (paI q.2) := ldP (by decide) h2 hq2
      rw [if_neg (show ¬ (9 : Int32) ≤ nI c by rw [show (9 : Int32) = nI 9 from rfl]; exact nI_ge (by omega) (by omega)), if_neg h1, h3, Option.bind_some, nI_1, ih fu (c + 1) q.2 (by omega) (by omega) (by omega) (by omega), dN, if_neg (by omega), show k + 1 - 1 = k from rfl, hq]
      show K (nI (c + 1 + dN T m q.2)) = K (nI (c + (1 + dN T m q.2)))
      rw [Nat.add_assoc]
theorem M_dN {α : Type} (h2 : pre 12 m_pa (paT T)) (hT : okT T) {K : Int32 → Option (Int32 × Int32 × Int32 × List Int32 × List Int32 × List Int32)} : ∀ (m fu c a : Nat), a ≤ m → a ≤ T.length → m < fu → f_X8_depth_L63 m_pa K fu (nI c) (paI a) = K (nI (c + dN T m a)) := by
  have hT9 := hT.1
  intro m
  induction m with
  | zero =>
    intro fu c a ha hl hf
    obtain ⟨fu, rfl⟩ : ∃ q, fu = q + 1 := ⟨fu - 1, by omega⟩
    have : a = 0 := by omega
    subst this
    rw [f_X8_depth_L63, if_pos (show paI 0 = -1 from rfl)]; rfl
  | succ m ih =>
    intro fu c a ha hl hf
    obtain ⟨fu, rfl⟩ : ∃ q, fu = q + 1 := ⟨fu - 1, by omega⟩
    rw [f_X8_depth_L63]
    match a with
    | 0 => rw [if_pos (show paI 0 = -1 from rfl), dN_0, Nat.add_zero]
    | k + 1 =>
      have hk : k < T.length := by omega
      obtain ⟨q, hq⟩ : ∃ q, T[k]? = some q := ⟨T[k], List.getElem?_eq_getElem hk⟩
      have hq2 : T[k]? = some (q.1, q.2) := hq
      have hb := hT.2 k q.1 q.2 hq2
      have h3 : tld m_pa (paI (k + 1)) = some (paI q.2) := ldP (by decide) h2 hq2
      rw [if_neg (show ¬ paI (k + 1) = -1 from nI_ne_m1 (by omega)), h3, Option.bind_some, nI_1, ih fu (c + 1) q.2 (by omega) (by omega) (by omega), dN, if_neg (by omega), show k + 1 - 1 = k from rfl, hq]
      show K (nI (c + 1 + dN T m q.2)) = K (nI (c + (1 + dN T m q.2)))
      rw [Nat.add_assoc]
theorem p_leaf (h1 : pre 9 c_t (tyT T)) (h2 : pre 9 c_p (paT T)) (h3 : pre 12 m_ty (tyT T)) (h4 : pre 12 m_pa (paT T)) (hT : okT T) (x m_ve : Int32) (m_nr : List Int32) : ∃ z, f_X1_depthOfLeaf x (nI T.length) c_t c_p = some z ∧ f_X8_depth_L33 x m_ve (nI T.length) m_nr m_ty m_pa (some (-1, m_ve, nI T.length, m_nr, m_ty, m_pa)) tFU 0 = some (z, m_ve, nI T.length, m_nr, m_ty, m_pa) := by
  have hT9 := hT.1
  have key : ∀ (m k fu : Nat), k + m = T.length → m < fu → ∃ z, f_X1_depthOfLeaf_L2 x (nI T.length) c_t c_p (some (-1)) fu (nI k) = some z ∧ f_X8_depth_L33 x m_ve (nI T.length) m_nr m_ty m_pa (some (-1, m_ve, nI T.length, m_nr, m_ty, m_pa)) fu (nI k) = some (z, m_ve, nI T.length, m_nr, m_ty, m_pa) := by
    intro m
    induction m with
    | zero =>
      intro k fu hk hf
      obtain ⟨fu, rfl⟩ : ∃ q, fu = q + 1 := ⟨fu - 1, by omega⟩
      rw [f_X1_depthOfLeaf_L2, f_X8_depth_L33, if_pos (nI_le (by omega) (by omega)), if_pos (nI_le (by omega) (by omega))]
      exact ⟨_, rfl, rfl⟩
    | succ m ih =>
      intro k fu hk hf
      obtain ⟨fu, rfl⟩ : ∃ q, fu = q + 1 := ⟨fu - 1, by omega⟩
      have hkl : k < T.length := by omega
      obtain ⟨q, hq⟩ : ∃ q, T[k]? = some q := ⟨T[k], List.getElem?_eq_getElem hkl⟩
      have hq2 : T[k]? = some (q.1, q.2) := hq
      rw [f_X1_depthOfLeaf_L2, f_X8_depth_L33, if_neg (nI_ge (by omega) (by omega)), if_neg (nI_ge (by omega) (by omega)), ldT (by decide) h1 hq2, ldT (by decide) h3 hq2, Option.bind_some, Option.bind_some, nI_1]
      by_cases c : nI q.1 = x
      · rw [if_pos c, if_pos c]
        have a1 := X_dN h2 hT (K := fun y5 => some y5) 9 tFU 0 (k + 1) (by omega) (by omega) (by omega) (by unfold tFU; omega)
        have a1 : f_X1_depthOfNode (nI k) (nI T.length) c_p = _ := a1
        have a2 := M_dN (α := Nat) h4 hT (K := fun y13 => some (y13, m_ve, nI T.length, m_nr, m_ty, m_pa)) 9 tFU 0 (k + 1) (by omega) (by omega) (by unfold tFU; omega)
        have a2 : f_X8_depth_L63 m_pa _ tFU 0 (nI k) = _ := a2
        rw [a1, a2]
        exact ⟨_, rfl, rfl⟩
      · rw [if_neg c, if_neg c]
        exact ih (k + 1) fu (by omega) (by omega)
  exact key T.length 0 tFU (by omega) (by unfold tFU; omega)
end DP
section TC
variable {n : Nat} {sl : List (Option Nat)} {s_f m_t : List Int64} {m_f : List Int32} {s_n m_n m_pt : Int32} {g_p g_a g_t c_t c_p m_nr m_ty m_pa : List Int32}
theorem const_of {n t : Nat} (hV : VS n t (pts n) = 0) (ht : t < tabs n) (h0 : t ≠ 0) : t.testBit 0 = true := by
  have : ∃ p, t.testBit p = true := by
    apply Classical.byContradiction
    intro hno
    apply h0
    apply Nat.eq_of_testBit_eq
    intro i
    rw [Nat.zero_testBit]
    cases h : t.testBit i with
    | false => rfl
    | true => exact absurd ⟨i, h⟩ hno
  obtain ⟨p, hp⟩ := this
  have hpn : p < pts n := bit_lo (n := 2 ^ n) ht hp
  obtain ⟨q, q1, q2, q3⟩ := prime_below (n := n) p hp
  have hq : q = 0 := by
    apply Nat.eq_of_testBit_eq
    intro i
    rw [Nat.zero_testBit]
    cases h : q.testBit i with
    | false => rfl
    | true =>
      have := VS_bit.mpr ⟨q, (by omega : q < pts n), q2, h⟩
      rw [hV, Nat.zero_testBit] at this
      cases this
  have := (prm_to q2).1
  rw [hq] at this
  exact this
theorem p_tree (hn0 : 1 ≤ n) (hn : n ≤ 5) (hS : rS n sl s_f m_t m_f) (hG : rG g_p g_a g_t c_t c_p m_nr m_ty m_pa) (g_k g_v c_k m_ve m_no x : Int32) :
    (∃ (e g_k' g_v' : Int32) (g_p' g_a' g_t' : List Int32) (m_ve' : Int32) (m_nr' : List Int32), ¬ e = 0 ∧ ((f_X8_isSlot x = 0 ∧ e = -2) ∨ f_X8_isSlot x = 1) ∧ f_X7_growCotree x (nI n) s_f g_k g_v g_p g_a g_t c_k c_t c_p = some (e, g_k', g_v', g_p', g_a', g_t', c_k, c_t, c_p) ∧ f_X8_tree x (nI n) (nI (pts n)) m_ve m_no m_t m_f m_nr m_ty m_pa = some (e, m_ve', m_no, m_nr', m_ty, m_pa) ∧ rG g_p' g_a' g_t' c_t c_p m_nr' m_ty m_pa) ∨
    (∃ (T : List (Nat × Nat)) (g_k' g_v' : Int32) (g_p' g_a' g_t' c_t' c_p' : List Int32) (m_ve' : Int32) (m_nr' m_ty' m_pa' : List Int32), f_X8_isSlot x = 1 ∧ f_X7_growCotree x (nI n) s_f g_k g_v g_p g_a g_t c_k c_t c_p = some (0, g_k', g_v', g_p', g_a', g_t', nI T.length, c_t', c_p') ∧ f_X8_tree x (nI n) (nI (pts n)) m_ve m_no m_t m_f m_nr m_ty m_pa = some (0, m_ve', nI T.length, m_nr', m_ty', m_pa') ∧ rG g_p' g_a' g_t' c_t' c_p' m_nr' m_ty' m_pa' ∧ pre 9 c_t' (tyT T) ∧ pre 9 c_p' (paT T) ∧ pre 12 m_ty' (tyT T) ∧ pre 12 m_pa' (paT T) ∧ okT T ∧ ((T = [] ∧ ∃ t, tld s_f x = some (lN t) ∧ tld m_t x = some (lN t) ∧ t < tabs n ∧ (t ≠ 0 → t.testBit 0 = true)) ∨ (1 ≤ T.length ∧ ∃ O, wC T 10 0 1 [] = some O ∧ wM T 10 0 [] = some O))) := by
  have h32 := pts_32 hn
  rcases X_slot3 hn hS x with ⟨a1, a2, a3, a4⟩ | ⟨j, hj, rfl, ho, a1, a2, a3, a4, a5, a6, a7⟩ | ⟨j, t, hj, rfl, ho, a1, a2, a3, a4, a5, a6, a7, a8, a9⟩
  · left
    refine ⟨-2, g_k, g_v, g_p, g_a, g_t, m_ve, m_nr, z_m2, Or.inl ⟨a2, rfl⟩, ?_, ?_, hG⟩
    · unfold f_X7_growCotree; rw [a3, Option.bind_some, if_neg z_m2]
    · unfold f_X8_tree; rw [a4, Option.bind_some, if_neg z_m2]; rfl
  · left
    refine ⟨-3, g_k, g_v, g_p, g_a, g_t, m_ve, m_nr, z_m3, Or.inr a2, ?_, ?_, hG⟩
    · unfold f_X7_growCotree; rw [a3, Option.bind_some, if_neg z_m3]
    · unfold f_X8_tree; rw [a4, Option.bind_some, if_neg z_m3]; rfl
  · obtain ⟨b1, b2, b3, b4, b5, b6, b7, e1, e2, l1, l2, l3, l4, hz⟩ := p_why hn a8 hG.1 hG.2.1 hG.2.2.1 hG.2.2.2.2.2.1 g_k g_v m_ve
    by_cases hr : rsn n t = 0
    · right
      obtain ⟨hm, rfl, rfl, hp⟩ := hz hr
      rw [hr] at e1 e2
      have hg := NB_ok n t
      have hV32 : VS n t (pts n) < 32 := by
        have := hg.1
        have := n_p5 hn
        omega
      have hgr := M_graph hn (tabs63 hn a8) l4 b6
      rw [← VS_ess hm] at hgr
      by_cases hV : VS n t (pts n) = 0
      · refine ⟨[], b1, nI (VS n t (pts n)), b3, adjL (NB n t (pts n)), b5, c_t, c_p, nI (VS n t (pts n)), adjL (NB n t (pts n)), m_ty, m_pa, a2, ?_, ?_, ⟨l1, rfl, l3, hG.2.2.2.1, hG.2.2.2.2.1, rfl, hG.2.2.2.2.2.2⟩, pre.nil hG.2.2.2.1, pre.nil hG.2.2.2.2.1, pre.nil hG.2.2.2.2.2.2.1, pre.nil hG.2.2.2.2.2.2.2, ⟨Nat.zero_le _, fun k ty a h => by cases h⟩, Or.inl ⟨rfl, t, a5, a9, a8, const_of hV a8⟩⟩
        · unfold f_X7_growCotree f_X1_fill
          rw [a3, Option.bind_some, if_pos rfl, a5, Option.bind_some, e1, Option.bind_some, if_pos (show nI 0 = 0 from rfl), if_pos (by rw [hV]; rfl)]; rfl
        · unfold f_X8_tree
          rw [a4, Option.bind_some, if_pos rfl, a9, Option.bind_some, e2, Option.bind_some, if_pos (show nI 0 = 0 from rfl), Option.bind_some, hgr, Option.bind_some, if_pos (by rw [hV]; rfl)]; rfl
      · obtain ⟨T, O, t1, t2, t3, t4, t5, t6⟩ := tree_of hg hn0 hn hV hp
        obtain ⟨c_t', c_p', x1, x2, x3, -⟩ := X_grow (A := NB n t (pts n)) 10 1 (by omega) _ 0 [] T c_t c_p hV32 (pre.nil hG.2.2.2.1) (pre.nil hG.2.2.2.2.1) t1
        obtain ⟨m_ty', m_pa', y1, y2, y3, -⟩ := M_grow (A := NB n t (pts n)) hn 10 _ 0 [] T m_ty m_pa hV32 (pre.nil hG.2.2.2.2.2.2.1) (pre.nil hG.2.2.2.2.2.2.2) t2
        have x1 : f_X1_grow tDP (nI (VS n t (pts n))) (-1) 1 (adjL (NB n t (pts n))) 0 c_t c_p = _ := x1
        have y1 : f_X8_grow tDP (nI (VS n t (pts n))) (-1) (nI n) 0 (adjL (NB n t (pts n))) m_ty m_pa = _ := y1
        have hV0 : ¬ nI (VS n t (pts n)) = 0 := fun q => hV ((n_z (by omega)).mp q)
        refine ⟨T, b1, nI (VS n t (pts n)), b3, adjL (NB n t (pts n)), b5, c_t', c_p', nI (VS n t (pts n)), adjL (NB n t (pts n)), m_ty', m_pa', a2, ?_, ?_, ⟨l1, rfl, l3, x2.1, x3.1, rfl, y2.1, y3.1⟩, x2, x3, y2, y3, t3, Or.inr ⟨t4, O, t5, t6⟩⟩
        · unfold f_X7_growCotree f_X1_fill
          rw [a3, Option.bind_some, if_pos rfl, a5, Option.bind_some, e1, Option.bind_some, if_pos (show nI 0 = 0 from rfl), if_neg hV0, x1]; rfl
        · unfold f_X8_tree
          rw [a4, Option.bind_some, if_pos rfl, a9, Option.bind_some, e2, Option.bind_some, if_pos (show nI 0 = 0 from rfl), Option.bind_some, hgr, Option.bind_some, if_neg hV0, y1]; rfl
    · left
      have hr4 : rsn n t < 4 := by
        unfold rsn
        split
        · decide
        · split
          · decide
          · split <;> decide
      have hr0 : ¬ nI (rsn n t) = 0 := fun q => hr ((n_z (by omega)).mp q)
      refine ⟨-5, b1, b2, b3, b4, b5, b6, b7, z_m5, Or.inr a2, ?_, ?_, hG.patn l1 l2 l3 l4⟩
      · unfold f_X7_growCotree
        rw [a3, Option.bind_some, if_pos rfl, a5, Option.bind_some, e1, Option.bind_some, if_neg hr0]
      · unfold f_X8_tree
        rw [a4, Option.bind_some, if_pos rfl, a9, Option.bind_some, e2, Option.bind_some, if_neg hr0]
theorem p_nodes (hN : rN n s_n m_n m_pt) (hS : rS n sl s_f m_t m_f) (hG : rG g_p g_a g_t c_t c_p m_nr m_ty m_pa) (g_k g_v c_k m_ve m_no x0 : Int32) : ∃ (z g_k' g_v' : Int32) (g_p' g_a' g_t' : List Int32) (c_k' : Int32) (c_t' c_p' : List Int32) (m_ve' m_no' : Int32) (m_nr' m_ty' m_pa' : List Int32), f_X7_nodes x0 s_n s_f g_k g_v g_p g_a g_t c_k c_t c_p = some (z, g_k', g_v', g_p', g_a', g_t', c_k', c_t', c_p') ∧ f_X8_nodes x0 m_n m_pt m_ve m_no m_t m_f m_nr m_ty m_pa = some (z, m_ve', m_no', m_nr', m_ty', m_pa') ∧ rG g_p' g_a' g_t' c_t' c_p' m_nr' m_ty' m_pa' := by
  obtain ⟨hn0, hn, rfl, rfl, rfl⟩ := hN
  unfold f_X7_nodes f_X8_nodes
  rcases p_tree hn0 hn hS hG g_k g_v c_k m_ve m_no x0 with ⟨e, b1, b2, b3, b4, b5, b6, b7, e0, e1, e2, e3, e4⟩ | ⟨T, b1, b2, b3, b4, b5, b6, b7, b8, b9, b10, b11, e1, e2, e3, e4, k1, k2, k3, k4, k5, k6⟩
  · rw [e2, e3, Option.bind_some, Option.bind_some, if_neg e0, if_neg e0]
    exact ⟨_, _, _, _, _, _, _, _, _, _, _, _, _, _, rfl, rfl, e4⟩
  · rw [e2, e3, Option.bind_some, Option.bind_some, if_pos rfl, if_pos rfl]
    exact ⟨_, _, _, _, _, _, _, _, _, _, _, _, _, _, rfl, rfl, e4⟩
theorem p_nodeType (hN : rN n s_n m_n m_pt) (hS : rS n sl s_f m_t m_f) (hG : rG g_p g_a g_t c_t c_p m_nr m_ty m_pa) (g_k g_v c_k m_ve m_no x0 x1 : Int32) : ∃ (z g_k' g_v' : Int32) (g_p' g_a' g_t' : List Int32) (c_k' : Int32) (c_t' c_p' : List Int32) (m_ve' m_no' : Int32) (m_nr' m_ty' m_pa' : List Int32), f_X7_nodeType x0 x1 s_n s_f g_k g_v g_p g_a g_t c_k c_t c_p = some (z, g_k', g_v', g_p', g_a', g_t', c_k', c_t', c_p') ∧ f_X8_nodeType x0 x1 m_n m_pt m_ve m_no m_t m_f m_nr m_ty m_pa = some (z, m_ve', m_no', m_nr', m_ty', m_pa') ∧ rG g_p' g_a' g_t' c_t' c_p' m_nr' m_ty' m_pa' := by
  obtain ⟨hn0, hn, rfl, rfl, rfl⟩ := hN
  unfold f_X7_nodeType f_X8_nodeType
  rcases p_tree hn0 hn hS hG g_k g_v c_k m_ve m_no x0 with ⟨e, b1, b2, b3, b4, b5, b6, b7, e0, e1, e2, e3, e4⟩ | ⟨T, b1, b2, b3, b4, b5, b6, b7, b8, b9, b10, b11, e1, e2, e3, e4, k1, k2, k3, k4, k5, k6⟩
  · rw [e2, e3, Option.bind_some, Option.bind_some, if_neg e0, if_neg e0]
    exact ⟨_, _, _, _, _, _, _, _, _, _, _, _, _, _, rfl, rfl, e4⟩
  · have hT9 := k5.1
    rw [e2, e3, Option.bind_some, Option.bind_some, if_pos rfl, if_pos rfl]
    unfold f_X1_has f_X8_isNode
    rcases n_ixG x1 (r := nI T.length) (Or.inr ⟨T.length, by omega, rfl⟩) with ⟨i1, i2⟩ | ⟨j, k, hk, hkr, hj, rfl, i1, i2⟩
    · rw [if_pos i1, if_pos i2]
      exact ⟨_, _, _, _, _, _, _, _, _, _, _, _, _, _, rfl, rfl, e4⟩
    · have : T.length = k := (nI_eq (by omega) (by omega)).mp hkr
      have hjl : j < T.length := by omega
      have hq : T[j]? = some (T[j].1, T[j].2) := List.getElem?_eq_getElem hjl
      rw [if_neg (ne10 i1), if_neg (ne10 i2), ldT (by decide) k1 hq, ldT (by decide) k3 hq]
      exact ⟨_, _, _, _, _, _, _, _, _, _, _, _, _, _, rfl, rfl, e4⟩
theorem p_parent (hN : rN n s_n m_n m_pt) (hS : rS n sl s_f m_t m_f) (hG : rG g_p g_a g_t c_t c_p m_nr m_ty m_pa) (g_k g_v c_k m_ve m_no x0 x1 : Int32) : ∃ (z g_k' g_v' : Int32) (g_p' g_a' g_t' : List Int32) (c_k' : Int32) (c_t' c_p' : List Int32) (m_ve' m_no' : Int32) (m_nr' m_ty' m_pa' : List Int32), f_X7_parent x0 x1 s_n s_f g_k g_v g_p g_a g_t c_k c_t c_p = some (z, g_k', g_v', g_p', g_a', g_t', c_k', c_t', c_p') ∧ f_X8_parent x0 x1 m_n m_pt m_ve m_no m_t m_f m_nr m_ty m_pa = some (z, m_ve', m_no', m_nr', m_ty', m_pa') ∧ rG g_p' g_a' g_t' c_t' c_p' m_nr' m_ty' m_pa' := by
  obtain ⟨hn0, hn, rfl, rfl, rfl⟩ := hN
  unfold f_X7_parent f_X8_parent
  rcases p_tree hn0 hn hS hG g_k g_v c_k m_ve m_no x0 with ⟨e, b1, b2, b3, b4, b5, b6, b7, e0, e1, e2, e3, e4⟩ | ⟨T, b1, b2, b3, b4, b5, b6, b7, b8, b9, b10, b11, e1, e2, e3, e4, k1, k2, k3, k4, k5, k6⟩
  · rw [e2, e3, Option.bind_some, Option.bind_some, if_neg e0, if_neg e0]
    exact ⟨_, _, _, _, _, _, _, _, _, _, _, _, _, _, rfl, rfl, e4⟩
  · have hT9 := k5.1
    rw [e2, e3, Option.bind_some, Option.bind_some, if_pos rfl, if_pos rfl]
    unfold f_X1_has f_X8_isNode
    rcases n_ixG x1 (r := nI T.length) (Or.inr ⟨T.length, by omega, rfl⟩) with ⟨i1, i2⟩ | ⟨j, k, hk, hkr, hj, rfl, i1, i2⟩
    · rw [if_pos i1, if_pos i2]
      exact ⟨_, _, _, _, _, _, _, _, _, _, _, _, _, _, rfl, rfl, e4⟩
    · have : T.length = k := (nI_eq (by omega) (by omega)).mp hkr
      have hjl : j < T.length := by omega
      have hq : T[j]? = some (T[j].1, T[j].2) := List.getElem?_eq_getElem hjl
      rw [if_neg (ne10 i1), if_neg (ne10 i2), ldP (by decide) k2 hq, ldP (by decide) k4 hq]
      exact ⟨_, _, _, _, _, _, _, _, _, _, _, _, _, _, rfl, rfl, e4⟩
theorem p_depth (hN : rN n s_n m_n m_pt) (hS : rS n sl s_f m_t m_f) (hG : rG g_p g_a g_t c_t c_p m_nr m_ty m_pa) (g_k g_v c_k m_ve m_no x0 x1 : Int32) : ∃ (z g_k' g_v' : Int32) (g_p' g_a' g_t' : List Int32) (c_k' : Int32) (c_t' c_p' : List Int32) (m_ve' m_no' : Int32) (m_nr' m_ty' m_pa' : List Int32), f_X7_depth x0 x1 s_n s_f g_k g_v g_p g_a g_t c_k c_t c_p = some (z, g_k', g_v', g_p', g_a', g_t', c_k', c_t', c_p') ∧ f_X8_depth x0 x1 m_n m_pt m_ve m_no m_t m_f m_nr m_ty m_pa = some (z, m_ve', m_no', m_nr', m_ty', m_pa') ∧ rG g_p' g_a' g_t' c_t' c_p' m_nr' m_ty' m_pa' := by
  obtain ⟨hn0, hn, rfl, rfl, rfl⟩ := hN
  unfold f_X7_depth f_X8_depth
  rcases n_var x1 hn0 hn with ⟨v1, v2⟩ | ⟨v, hv, rfl, v1, v2⟩
  · rw [if_pos v1, if_pos v2]
    split
    · exact ⟨_, _, _, _, _, _, _, _, _, _, _, _, _, _, rfl, rfl, hG⟩
    · exact ⟨_, _, _, _, _, _, _, _, _, _, _, _, _, _, rfl, rfl, hG⟩
  · rw [if_neg (ne10 v1), if_neg (ne10 v2)]
    rcases p_tree hn0 hn hS hG g_k g_v c_k m_ve m_no x0 with ⟨e, b1, b2, b3, b4, b5, b6, b7, e0, e1, e2, e3, e4⟩ | ⟨T, b1, b2, b3, b4, b5, b6, b7, b8, b9, b10, b11, e1, e2, e3, e4, k1, k2, k3, k4, k5, k6⟩
    · rcases e1 with ⟨s1, rfl⟩ | s1
      · rw [e2, Option.bind_some, if_neg e0, if_pos s1]
        exact ⟨_, _, _, _, _, _, _, _, _, _, _, _, _, _, rfl, rfl, e4.patn e4.1 e4.2.1 e4.2.2.1 hG.2.2.2.2.2.1⟩
      · rw [e2, Option.bind_some, if_neg e0, if_neg (ne10 s1), e3, Option.bind_some, if_neg e0]
        exact ⟨_, _, _, _, _, _, _, _, _, _, _, _, _, _, rfl, rfl, e4⟩
    · obtain ⟨z, d1, d2⟩ := p_leaf k1 k2 k3 k4 k5 (nI v) b8 b9
      rw [e2, Option.bind_some, if_pos rfl, if_neg (ne10 e1), e3, Option.bind_some, if_pos rfl, d1, d2]
      exact ⟨_, _, _, _, _, _, _, _, _, _, _, _, _, _, rfl, rfl, e4⟩
theorem p_writeFormula {out : List Int32} {w_l : Int32} {w_s : List Int32} {m_os : Int32} {m_ob : List Int32} (hN : rN n s_n m_n m_pt) (hS : rS n sl s_f m_t m_f) (hW : rW out w_l w_s m_os m_ob) (hG : rG g_p g_a g_t c_t c_p m_nr m_ty m_pa) (g_k g_v c_k m_ve m_no x0 : Int32) : ∃ (z g_k' g_v' : Int32) (g_p' g_a' g_t' : List Int32) (c_k' : Int32) (c_t' c_p' : List Int32) (w_l' : Int32) (w_s' : List Int32) (m_os' m_ve' m_no' : Int32) (m_ob' m_nr' m_ty' m_pa' : List Int32) (out' : List Int32), f_X7_writeFormula x0 s_n s_f g_k g_v g_p g_a g_t c_k c_t c_p w_l w_s = some (z, g_k', g_v', g_p', g_a', g_t', c_k', c_t', c_p', w_l', w_s') ∧ f_X8_writeFormula x0 m_n m_pt m_os m_ve m_no m_t m_f m_ob m_nr m_ty m_pa = some (z, m_os', m_ve', m_no', m_ob', m_nr', m_ty', m_pa') ∧ rW out' w_l' w_s' m_os' m_ob' ∧ rG g_p' g_a' g_t' c_t' c_p' m_nr' m_ty' m_pa' := by
  obtain ⟨hn0, hn, rfl, rfl, rfl⟩ := hN
  unfold f_X7_writeFormula f_X8_writeFormula
  have hw0 : pre 16 w_s (([] : List Nat).map nI) := pre.nil hW.2.2.1.1
  have hm0 : pre 40 m_ob (([] : List Nat).map nI) := pre.nil hW.2.2.2.1
  rcases p_tree hn0 hn hS hG g_k g_v c_k m_ve m_no x0 with ⟨e, b1, b2, b3, b4, b5, b6, b7, e0, e1, e2, e3, e4⟩ | ⟨T, b1, b2, b3, b4, b5, b6, b7, b8, b9, b10, b11, e1, e2, e3, e4, k1, k2, k3, k4, k5, k6⟩
  · rw [e2, e3, Option.bind_some, Option.bind_some, if_neg e0, if_neg e0]
    exact ⟨_, _, _, _, _, _, _, _, _, _, _, _, _, _, _, _, _, _, _, rfl, rfl, hW, e4⟩
  · rw [e2, e3, Option.bind_some, Option.bind_some, if_pos rfl, if_pos rfl]
    rcases k6 with ⟨rfl, t, t1, t2, t3, t4⟩ | ⟨hl, O, o1, o2⟩
    · have h62 := tabs63 hn t3
      have ha := n_at h62 (k := 0) (by decide)
      rw [nI_0] at ha
      rw [if_pos (show nI ([] : List (Nat × Nat)).length = 0 from rfl), if_pos (show nI ([] : List (Nat × Nat)).length = 0 from rfl), t1, t2, Option.bind_some, Option.bind_some, ha]
      by_cases ht : t = 0
      · subst ht
        obtain ⟨w1, x1, x2⟩ := X_put hw0 (x := 48) (O' := [48]) rfl
        obtain ⟨w2, y1, y2⟩ := M_put hm0 (x := 48) (O' := [48]) rfl
        have x1 : f_X2_put 48 0 w_s = _ := x1
        have y1 : f_X8_put 48 0 m_ob = _ := y1
        rw [if_pos (show lg_cmp (lN 0) 0 = 0 by decide), if_pos (show nI (Nat.testBit 0 0).toNat = 0 by decide), x1, y1]
        exact ⟨_, _, _, _, _, _, _, _, _, _, _, _, _, _, _, _, _, _, [nI 48], rfl, rfl, ⟨rfl, rfl, x2, y2⟩, e4⟩
      · obtain ⟨w1, x1, x2⟩ := X_put hw0 (x := 49) (O' := [49]) rfl
        obtain ⟨w2, y1, y2⟩ := M_put hm0 (x := 49) (O' := [49]) rfl
        have x1 : f_X2_put 49 0 w_s = _ := x1
        have y1 : f_X8_put 49 0 m_ob = _ := y1
        have hne : ¬ lg_cmp (lN t) 0 = 0 := by
          rw [lg_cmp_eq]
          intro h
          have := congrArg Int64.toInt h
          rw [pk_lT (by omega)] at this
          have e : (0 : Int64).toInt = 0 := by decide
          rw [e] at this
          omega
        rw [if_neg hne, t4 ht, if_neg bt1, x1, y1]
        exact ⟨_, _, _, _, _, _, _, _, _, _, _, _, _, _, _, _, _, _, [nI 49], rfl, rfl, ⟨rfl, rfl, x2, y2⟩, e4⟩
    · have hT9 := k5.1
      have hl0 : ¬ nI T.length = 0 := fun q => absurd ((n_z (by omega)).mp q) (by omega)
      obtain ⟨w1, x1, x2⟩ := X_write k1 k2 k5 10 1 (by omega) 0 [] O w_s (by omega) hw0 o1
      obtain ⟨w2, y1, y2⟩ := M_write k3 k4 k5 10 0 [] O m_ob (by omega) hm0 o2
      have x1 : f_X2_putNode tDP 0 1 (nI T.length) b6 b7 0 w_s = _ := x1
      have y1 : f_X8_write tDP 0 0 (nI T.length) m_ob b10 b11 = _ := y1
      unfold f_X2_putTree
      rw [if_neg hl0, if_neg hl0, x1, y1]
      exact ⟨_, _, _, _, _, _, _, _, _, _, _, _, _, _, _, _, _, _, O.map nI, rfl, rfl, ⟨by rw [List.length_map], by rw [List.length_map], x2, y2⟩, e4⟩
end TC
