/-! dual, cofactor, substitute, exchange, random -/
theorem pts_fu {n : Nat} (hn : n ≤ 5) : pts n < tFU := by have := n_p5 hn; unfold tFU pts; omega
theorem pts_pos (n : Nat) : 0 < pts n := Nat.two_pow_pos n
theorem pts_32 {n : Nat} (hn : n ≤ 5) : pts n ≤ 32 := n_p5 hn
theorem tab00 {b : Nat → Bool} : lN (0 ||| tabN b 0) = 0 := by rw [Nat.zero_or]; rfl
section OPS
variable {n : Nat} {hi : List (Nat × Option Nat)} {h_k : Int32} {h_s : List Int32} {h_c : List Int64} {m_rc : Int32} {m_rs : List Int32} {m_rt : List Int64} {m_rf : List Int32} {sl : List (Option Nat)} {s_f m_t : List Int64} {m_f : List Int32} {s_n m_n m_pt : Int32}
/-- both ends of a storing call -/
def both (n : Nat) (fX : Option (Int32 × List Int64 × Int32 × List Int32 × List Int64)) (fM : Option (Int32 × Int32 × List Int64 × List Int32 × List Int32 × List Int64 × List Int32)) : Prop := ∃ (z : Int32) (s_f' : List Int64) (h_k' : Int32) (h_s' : List Int32) (h_c' : List Int64) (m_rc' : Int32) (m_t' : List Int64) (m_f' m_rs' : List Int32) (m_rt' : List Int64) (m_rf' : List Int32) (sl' : List (Option Nat)) (hi' : List (Nat × Option Nat)), fX = some (z, s_f', h_k', h_s', h_c') ∧ fM = some (z, m_rc', m_t', m_f', m_rs', m_rt', m_rf') ∧ rS n sl' s_f' m_t' m_f' ∧ rH n hi' h_k' h_s' h_c' m_rc' m_rs' m_rt' m_rf'
theorem both_same (hS : rS n sl s_f m_t m_f) (hH : rH n hi h_k h_s h_c m_rc m_rs m_rt m_rf) (w : Int32) : both n (some (w, s_f, h_k, h_s, h_c)) (some (w, m_rc, m_t, m_f, m_rs, m_rt, m_rf)) := ⟨_, _, _, _, _, _, _, _, _, _, _, _, _, rfl, rfl, hS, hH⟩
theorem both_store (hn : n ≤ 5) (hS : rS n sl s_f m_t m_f) (hH : rH n hi h_k h_s h_c m_rc m_rs m_rt m_rf) {j t : Nat} (hj : j < 8) (ht : t < tabs n) : both n ((f_X7_store (nI j) (lN t) s_f h_k h_s h_c).bind fun r10 => some (r10.1, r10.2.1, r10.2.2.1, r10.2.2.2.1, r10.2.2.2.2)) ((f_X8_store (nI j) (lN t) (nI (pts n)) m_rc m_t m_f m_rs m_rt m_rf).bind fun r3 => some (r3.1, r3.2.1, r3.2.2.1, r3.2.2.2.1, r3.2.2.2.2.1, r3.2.2.2.2.2.1, r3.2.2.2.2.2.2)) := by
  obtain ⟨z, q1, q2, q3, q4, q5, q6, q7, q8, q9, q10, q11, q12, e1, e2, e3, e4, -⟩ := p_store hn hS hH hj ht
  rw [e1, e2]
  exact ⟨z, q1, q2, q3, q4, q5, q6, q7, q8, q9, q10, q11, q12, rfl, rfl, e3, e4⟩
theorem p_dual (hN : rN n s_n m_n m_pt) (hS : rS n sl s_f m_t m_f) (hH : rH n hi h_k h_s h_c m_rc m_rs m_rt m_rf) (x0 x1 : Int32) : both n (f_X7_dual x0 x1 s_n s_f h_k h_s h_c) (f_X8_dual x0 x1 m_pt m_rc m_t m_f m_rs m_rt m_rf) := by
  obtain ⟨hn0, hn, rfl, rfl, rfl⟩ := hN
  have same := both_same hS hH
  unfold f_X7_dual f_X8_dual
  rcases X_slot3 hn hS x0 with ⟨b1, b2, b3, b4⟩ | ⟨j, hj, rfl, ho, b1, b2, b3, b4, b5, b6, b7⟩ | ⟨j, t, hj, rfl, ho, b1, b2, b3, b4, b5, b6, b7, b8, b9⟩
  · rw [if_pos b1, if_pos b2]; exact same _
  · rw [if_neg (ne10 b1), if_neg (ne10 b2)]
    rcases n_slot x1 with ⟨d1, d2⟩ | ⟨k, hk, rfl, d1, d2⟩
    · rw [if_pos d1, if_pos d2]; exact same _
    · rw [if_neg (ne10 d1), if_neg (ne10 d2), b7, Option.bind_some, if_pos rfl, b6, Option.bind_some, if_pos rfl]; exact same _
  · rw [if_neg (ne10 b1), if_neg (ne10 b2)]
    rcases n_slot x1 with ⟨d1, d2⟩ | ⟨k, hk, rfl, d1, d2⟩
    · rw [if_pos d1, if_pos d2]; exact same _
    · rw [if_neg (ne10 d1), if_neg (ne10 d2), b7, Option.bind_some, if_neg z_1, b6, Option.bind_some, if_neg z_1, b5, Option.bind_some, n_pcP (by omega), show nI (pts n) - 1 = nI (pts n - 1) from pk_sub (b := 1) (pts_pos n)]
      have a := Xdual_loop (t := t) (N := pts n) (K := fun y9 => (f_X7_store (nI k) y9 s_f h_k h_s h_c).bind fun r10 => some (r10.1, r10.2.1, r10.2.2.1, r10.2.2.2.1, r10.2.2.2.2)) (tabs63 hn b8) (pts_32 hn) (pts_pos n) (pts n) 0 tFU (by omega) (pts_fu hn)
      have a2 : f_X7_dual_L61 (lN t) (nI (pts n - 1)) _ tFU 0 0 = _ := a
      have c := Mdual_loop (t := t) (N := pts n) (K := fun y10 => (f_X8_store (nI k) y10 (nI (pts n)) m_rc m_t m_f m_rs m_rt m_rf).bind fun r3 => some (r3.1, r3.2.1, r3.2.2.1, r3.2.2.2.1, r3.2.2.2.2.1, r3.2.2.2.2.2.1, r3.2.2.2.2.2.2)) b9 (tabs63 hn b8) (pts_32 hn) (pts_pos n) (pts n) 0 tFU (by omega) (pts_fu hn)
      rw [tab00, nI_0] at c
      rw [a2, c, tab0]
      exact both_store hn hS hH hk (tabN_lt _ _)
theorem p_cofactor (hN : rN n s_n m_n m_pt) (hS : rS n sl s_f m_t m_f) (hH : rH n hi h_k h_s h_c m_rc m_rs m_rt m_rf) (x0 x1 x2 x3 : Int32) : both n (f_X7_cofactor x0 x1 x2 x3 s_n s_f h_k h_s h_c) (f_X8_cofactor x0 x1 x2 x3 m_n m_pt m_rc m_t m_f m_rs m_rt m_rf) := by
  obtain ⟨hn0, hn, rfl, rfl, rfl⟩ := hN
  have same := both_same hS hH
  unfold f_X7_cofactor f_X8_cofactor
  rcases X_slot3 hn hS x0 with ⟨b1, b2, b3, b4⟩ | ⟨j, hj, rfl, ho, b1, b2, b3, b4, b5, b6, b7⟩ | ⟨j, t, hj, rfl, ho, b1, b2, b3, b4, b5, b6, b7, b8, b9⟩
  · rw [if_pos b1, if_pos b2]; exact same _
  all_goals
    rw [if_neg (ne10 b1), if_neg (ne10 b2)]
    rcases n_var x1 (by omega) hn with ⟨c1, c2⟩ | ⟨v, hv, rfl, c1, c2⟩
  · rw [if_pos c1, if_pos c2]; exact same _
  · rw [if_neg (ne10 c1), if_neg (ne10 c2)]
    rcases n_bit01 x2 with ⟨g1, g2⟩ | ⟨e, he, rfl, g1, g2⟩
    · rw [if_pos g1, if_pos g2]; exact same _
    · rw [if_neg (ne10 g1), if_neg (ne10 g2)]
      rcases n_slot x3 with ⟨d1, d2⟩ | ⟨k, hk, rfl, d1, d2⟩
      · rw [if_pos d1, if_pos d2]; exact same _
      · rw [if_neg (ne10 d1), if_neg (ne10 d2), b7, Option.bind_some, if_pos rfl, b6, Option.bind_some, if_pos rfl]; exact same _
  · rw [if_pos c1, if_pos c2]; exact same _
  · rw [if_neg (ne10 c1), if_neg (ne10 c2)]
    rcases n_bit01 x2 with ⟨g1, g2⟩ | ⟨e, he, rfl, g1, g2⟩
    · rw [if_pos g1, if_pos g2]; exact same _
    · rw [if_neg (ne10 g1), if_neg (ne10 g2)]
      rcases n_slot x3 with ⟨d1, d2⟩ | ⟨k, hk, rfl, d1, d2⟩
      · rw [if_pos d1, if_pos d2]; exact same _
      · rw [if_neg (ne10 d1), if_neg (ne10 d2), b7, Option.bind_some, if_neg z_1, b6, Option.bind_some, if_neg z_1, b5, Option.bind_some, Option.bind_some]
        have c := Mcof_loop (t := t) (n := n) (v := v) (e := e) (K := fun y12 => (f_X8_store (nI k) y12 (nI (pts n)) m_rc m_t m_f m_rs m_rt m_rf).bind fun r3 => some (r3.1, r3.2.1, r3.2.2.1, r3.2.2.2.1, r3.2.2.2.2.1, r3.2.2.2.2.2.1, r3.2.2.2.2.2.2)) b9 hn hv he (tabs63 hn b8) (pts n) 0 tFU (by omega) (pts_fu hn)
        rw [tab00, nI_0] at c
        rw [c, tab0]
        match e, he with
        | 0, _ =>
          rw [if_neg (show ¬ nI 0 = 1 by decide), show (0 : Int64) = lN 0 from rfl, Xsub hn hv b8 (tabs_pos n), Option.bind_some, tabN_cong (c := fun p => t.testBit (wb p v 0)) (fun i _ => by rw [Nat.zero_testBit]; rfl)]
          exact both_store hn hS hH hk (tabN_lt _ _)
        | 1, _ =>
          rw [if_pos (show nI 1 = 1 from rfl), n_fullT hn, Xsub hn hv b8 (by have := tabs_pos n; omega), Option.bind_some, tabN_cong (c := fun p => t.testBit (wb p v 1)) (fun i hi9 => by
            show t.testBit (wb i v ((2 ^ pts n - 1).testBit i).toNat) = _
            rw [Nat.testBit_two_pow_sub_one, decide_eq_true hi9]; rfl)]
          exact both_store hn hS hH hk (tabN_lt _ _)
theorem p_substitute (hN : rN n s_n m_n m_pt) (hS : rS n sl s_f m_t m_f) (hH : rH n hi h_k h_s h_c m_rc m_rs m_rt m_rf) (x0 x1 x2 x3 : Int32) : both n (f_X7_substitute x0 x1 x2 x3 s_n s_f h_k h_s h_c) (f_X8_substitute x0 x1 x2 x3 m_n m_pt m_rc m_t m_f m_rs m_rt m_rf) := by
  obtain ⟨hn0, hn, rfl, rfl, rfl⟩ := hN
  have same := both_same hS hH
  unfold f_X7_substitute f_X8_substitute
  rcases X_slot3 hn hS x0 with ⟨b1, b2, b3, b4⟩ | ⟨j, hj, rfl, ho, b1, b2, b3, b4, b5, b6, b7⟩ | ⟨j, t, hj, rfl, ho, b1, b2, b3, b4, b5, b6, b7, b8, b9⟩
  · rw [if_pos b1, if_pos b2]; exact same _
  all_goals
    rw [if_neg (ne10 b1), if_neg (ne10 b2)]
    rcases n_var x1 (by omega) hn with ⟨c1, c2⟩ | ⟨v, hv, rfl, c1, c2⟩
  · rw [if_pos c1, if_pos c2]; exact same _
  · rw [if_neg (ne10 c1), if_neg (ne10 c2)]
    rcases n_slot x2 with ⟨g1, g2⟩ | ⟨i, hi9, rfl, g1, g2⟩
    · rw [if_pos g1, if_pos g2]; exact same _
    · rw [if_neg (ne10 g1), if_neg (ne10 g2)]
      rcases n_slot x3 with ⟨d1, d2⟩ | ⟨k, hk, rfl, d1, d2⟩
      · rw [if_pos d1, if_pos d2]; exact same _
      · rw [if_neg (ne10 d1), if_neg (ne10 d2), b7, Option.bind_some, if_pos rfl, b6, Option.bind_some, if_pos rfl]; exact same _
  · rw [if_pos c1, if_pos c2]; exact same _
  · rw [if_neg (ne10 c1), if_neg (ne10 c2)]
    rcases X_slot3 hn hS x2 with ⟨g1, g2, g3, g4⟩ | ⟨i, hi2, rfl, hp, g1, g2, g3, g4, g5, g6, g7⟩ | ⟨i, u, hi2, rfl, hp, g1, g2, g3, g4, g5, g6, g7, g8, g9⟩
    · rw [if_pos g1, if_pos g2]; exact same _
    · rw [if_neg (ne10 g1), if_neg (ne10 g2)]
      rcases n_slot x3 with ⟨d1, d2⟩ | ⟨k, hk, rfl, d1, d2⟩
      · rw [if_pos d1, if_pos d2]; exact same _
      · rw [if_neg (ne10 d1), if_neg (ne10 d2), b7, Option.bind_some, if_neg z_1, b6, Option.bind_some, if_neg z_1, g7, Option.bind_some, if_pos rfl, g6, Option.bind_some, if_pos rfl]; exact same _
    · rw [if_neg (ne10 g1), if_neg (ne10 g2)]
      rcases n_slot x3 with ⟨d1, d2⟩ | ⟨k, hk, rfl, d1, d2⟩
      · rw [if_pos d1, if_pos d2]; exact same _
      · rw [if_neg (ne10 d1), if_neg (ne10 d2), b7, Option.bind_some, if_neg z_1, b6, Option.bind_some, if_neg z_1, g7, Option.bind_some, if_neg z_1, g6, Option.bind_some, if_neg z_1, b5, Option.bind_some, g5, Option.bind_some, Xsub hn hv b8 g8, Option.bind_some]
        have c := Msub_loop (t := t) (n := n) (v := v) (u := u) (K := fun y12 => (f_X8_store (nI k) y12 (nI (pts n)) m_rc m_t m_f m_rs m_rt m_rf).bind fun r3 => some (r3.1, r3.2.1, r3.2.2.1, r3.2.2.2.1, r3.2.2.2.2.1, r3.2.2.2.2.2.1, r3.2.2.2.2.2.2)) b9 g9 hn hv (tabs63 hn b8) (tabs63 hn g8) (pts n) 0 tFU (by omega) (pts_fu hn)
        rw [tab00, nI_0] at c
        rw [c, tab0]
        exact both_store hn hS hH hk (tabN_lt _ _)
theorem p_exchange (hN : rN n s_n m_n m_pt) (hS : rS n sl s_f m_t m_f) (hH : rH n hi h_k h_s h_c m_rc m_rs m_rt m_rf) (x0 x1 x2 x3 : Int32) : both n (f_X7_exchange x0 x1 x2 x3 s_n s_f h_k h_s h_c) (f_X8_exchange x0 x1 x2 x3 m_n m_pt m_rc m_t m_f m_rs m_rt m_rf) := by
  obtain ⟨hn0, hn, rfl, rfl, rfl⟩ := hN
  have same := both_same hS hH
  unfold f_X7_exchange f_X8_exchange
  rcases X_slot3 hn hS x0 with ⟨b1, b2, b3, b4⟩ | ⟨j, hj, rfl, ho, b1, b2, b3, b4, b5, b6, b7⟩ | ⟨j, t, hj, rfl, ho, b1, b2, b3, b4, b5, b6, b7, b8, b9⟩
  · rw [if_pos b1, if_pos b2]; exact same _
  all_goals
    rw [if_neg (ne10 b1), if_neg (ne10 b2)]
    rcases n_var x1 (by omega) hn with ⟨c1, c2⟩ | ⟨v, hv, rfl, c1, c2⟩
  · rw [if_pos c1, if_pos c2]; exact same _
  · rw [if_neg (ne10 c1), if_neg (ne10 c2)]
    rcases n_var x2 (by omega) hn with ⟨g1, g2⟩ | ⟨w, hw, rfl, g1, g2⟩
    · rw [if_pos g1, if_pos g2]; exact same _
    · rw [if_neg (ne10 g1), if_neg (ne10 g2)]
      rcases n_slot x3 with ⟨d1, d2⟩ | ⟨k, hk, rfl, d1, d2⟩
      · rw [if_pos d1, if_pos d2]; exact same _
      · rw [if_neg (ne10 d1), if_neg (ne10 d2), b7, Option.bind_some, if_pos rfl, b6, Option.bind_some, if_pos rfl]; exact same _
  · rw [if_pos c1, if_pos c2]; exact same _
  · rw [if_neg (ne10 c1), if_neg (ne10 c2)]
    rcases n_var x2 (by omega) hn with ⟨g1, g2⟩ | ⟨w, hw, rfl, g1, g2⟩
    · rw [if_pos g1, if_pos g2]; exact same _
    · rw [if_neg (ne10 g1), if_neg (ne10 g2)]
      rcases n_slot x3 with ⟨d1, d2⟩ | ⟨k, hk, rfl, d1, d2⟩
      · rw [if_pos d1, if_pos d2]; exact same _
      · rw [if_neg (ne10 d1), if_neg (ne10 d2), b7, Option.bind_some, if_neg z_1, b6, Option.bind_some, if_neg z_1, b5, Option.bind_some]
        have a := Xexc_loop (t := t) (n := n) (K := fun y9 => (f_X7_store (nI k) y9 s_f h_k h_s h_c).bind fun r10 => some (r10.1, r10.2.1, r10.2.2.1, r10.2.2.2.1, r10.2.2.2.2)) hn hv hw (tabs63 hn b8) (pts n) 0 tFU (by omega) (pts_fu hn)
        have a2 : f_X7_exchange_L65 (nI v) (nI w) (lN t) (nI n) _ tFU 0 0 = _ := a
        have c := Mexc_loop (t := t) (n := n) (K := fun y12 => (f_X8_store (nI k) y12 (nI (pts n)) m_rc m_t m_f m_rs m_rt m_rf).bind fun r3 => some (r3.1, r3.2.1, r3.2.2.1, r3.2.2.2.1, r3.2.2.2.2.1, r3.2.2.2.2.2.1, r3.2.2.2.2.2.2)) b9 hn hv hw (tabs63 hn b8) (pts n) 0 tFU (by omega) (pts_fu hn)
        rw [tab00, nI_0] at c
        rw [a2, c, tab0]
        exact both_store hn hS hH hk (tabN_lt _ _)
end OPS
