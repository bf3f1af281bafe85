/-! the class's catalog -/
def segE (s : Nat) : List Nat := (SEGS.take s).flatten
def stN (s : Nat) : Nat := (segE s).length
theorem seg_get : ∀ s, s < 32 → SEGS[s]? = some (seg s) := by
  intro s hs
  have hl : SEGS.length = 32 := rfl
  unfold seg
  rw [List.getElem?_eq_getElem (by omega)]; rfl
theorem segE_step {s : Nat} (hs : s < 32) : segE (s + 1) = segE s ++ seg s := by
  unfold segE
  rw [List.take_succ, seg_get s hs, List.flatten_append]
  show _ ++ (seg s ++ []) = _
  rw [List.append_nil]
theorem segE_32 : segE 32 = SEGS.flatten := by
  unfold segE
  rw [List.take_of_length_le (by decide)]
theorem segE_pre {r : Nat} : ∀ (d : Nat), r + d ≤ 32 → segE r <+: segE (r + d)
  | 0, _ => List.prefix_refl _
  | d + 1, h => (segE_pre d (by omega)).trans (by rw [show r + (d + 1) = (r + d) + 1 by omega, segE_step (by omega)]; exact List.prefix_append _ _)
theorem segE_len : SEGS.flatten.length = 839 := by decide +kernel
theorem stN_le {s : Nat} (hs : s ≤ 32) : stN s ≤ 839 := by
  have := (segE_pre (r := s) (32 - s) (by omega)).length_le
  rw [show s + (32 - s) = 32 by omega, segE_32, segE_len] at this
  exact this
theorem stN_step {s : Nat} (hs : s < 32) : stN (s + 1) = stN s + (seg s).length := by
  unfold stN
  rw [segE_step hs, List.length_append]
theorem CE_perm : CE.Perm SEGS.flatten := by
  have h := eqO_ok k_CE
  rw [← h]
  exact msort_perm _
theorem CE_big {e : Nat} (h : e ∈ CE) : e < 2 ^ 62 := by
  have := List.all_eq_true.mp k_big e h
  have := Nat.le_of_ble_eq_true this
  omega
theorem seg_big {e s : Nat} (hs : s < 32) (h : e ∈ seg s) : e < 2 ^ 62 := CE_big (CE_perm.mem_iff.mpr (List.mem_flatten.mpr ⟨seg s, List.mem_of_getElem? (seg_get s hs), h⟩))
theorem segE_at {E : List Nat} {r s j e : Nat} (hs : s ≤ 32) (hr : r < s) (hE : segE s <+: E) (hj : (seg r)[j]? = some e) : E[stN r + j]? = some e := by
  have h1 : segE (r + 1) <+: segE s := by
    have := segE_pre (r := r + 1) (s - (r + 1)) (by omega)
    rw [show r + 1 + (s - (r + 1)) = s by omega] at this
    exact this
  refine pre_get (h1.trans hE) ?_
  rw [segE_step (by omega)]
  unfold stN
  rw [List.getElem?_append_right (by omega), show (segE r).length + j - (segE r).length = j by omega, hj]
section CB
variable {E : List Nat} {k_e : List Int64}
theorem X_enter (h : pre 839 k_e (E.map lN)) (hl : E.length < 839) (t s r : Nat) (hs : s < 32) (hr : r < 4) : ∃ k_e', f_X0_enter (lN t) (nI s) (nI r) (nI E.length) k_e = some (nI (E ++ [ent t s r]).length, k_e') ∧ pre 839 k_e' ((E ++ [ent t s r]).map lN) := by
  obtain ⟨z, z1, z2⟩ := h.push (by decide) (by rw [List.length_map]; exact hl) (lN (ent t s r))
  rw [List.length_map] at z1
  refine ⟨z, ?_, by rw [List.map_append]; exact z2⟩
  unfold f_X0_enter
  have e1 : tlshl (lN t) 7 = lN (t * 2 ^ 7) := n_shl64 t (k := 7) (by decide)
  have e2 : tlshl (Int32.toInt64 (nI s)) 2 = lN (s * 2 ^ 2) := by rw [nI_l (by omega)]; exact n_shl64 s (k := 2) (by decide)
  rw [if_neg (show ¬ (839 : Int32) ≤ nI E.length by rw [show (839 : Int32) = nI 839 from rfl]; exact nI_ge (by omega) (by decide)), e1, e2, nI_l (by omega : r < 2 ^ 31), fb_orL, fb_orL]
  have z1 : tst k_e (nI E.length) (lN ((t * 2 ^ 7 ||| s * 2 ^ 2) ||| r)) = some z := z1
  rw [z1, Option.bind_some, nI_1, List.length_append]; rfl
theorem X_ix {i : Nat} {e : Nat} (hi : E[i]? = some e) (hl : E.length ≤ 839) : f_X7_isIndex (nI i) (nI E.length) = 1 := n_isIndex1 (List.getElem?_eq_some_iff.mp hi).1 (by omega)
theorem X_ldE (h : pre 839 k_e (E.map lN)) {i e : Nat} (hi : E[i]? = some e) : tld k_e (nI i) = some (lN e) := by
  have hl := (List.getElem?_eq_some_iff.mp hi).1
  rw [h.ld (by decide) (by rw [List.length_map]; exact hl), List.getElem?_map, hi]; rfl
theorem preE_le (h : pre 839 k_e (E.map lN)) : E.length ≤ 839 := by
  have := h.le
  rw [List.length_map] at this
  exact this
theorem X_tab (h : pre 839 k_e (E.map lN)) {i e : Nat} (hi : E[i]? = some e) (he : e < 2 ^ 62) : f_X0_tableAt (nI i) (nI E.length) k_e = some (lN (e / 128)) := by
  unfold f_X0_tableAt
  have e1 : tlushr (lN e) 7 = lN (e / 2 ^ 7) := n_ushr64 (k := 7) (by omega) (by decide)
  rw [if_neg (ne10 (X_ix hi (preE_le h))), X_ldE h hi, Option.bind_some, e1]
theorem X_root (h : pre 839 k_e (E.map lN)) {i e : Nat} (hi : E[i]? = some e) : f_X0_rootAt (nI i) (nI E.length) k_e = some (nI (e % 4)) := by
  unfold f_X0_rootAt
  have e1 : nI e &&& 3 = nI (e % 4) := fa_mask e 2
  rw [if_neg (ne10 (X_ix hi (preE_le h))), X_ldE h hi, Option.bind_some, lN_i, e1]
theorem X_sup (h : pre 839 k_e (E.map lN)) {i e : Nat} (hi : E[i]? = some e) (he : e < 2 ^ 62) : f_X0_supportAt (nI i) (nI E.length) k_e = some (nI (e / 4 % 32)) := by
  unfold f_X0_supportAt
  have e1 : tlushr (lN e) 2 = lN (e / 2 ^ 2) := n_ushr64 (k := 2) (by omega) (by decide)
  have e2 : nI (e / 2 ^ 2) &&& 31 = nI (e / 4 % 32) := fa_mask (e / 4) 5
  rw [if_neg (ne10 (X_ix hi (preE_le h))), X_ldE h hi, Option.bind_some, e1, lN_i, e2]
theorem X_joined (h : pre 839 k_e (E.map lN)) {s : Nat} (hs : s < 32) (e f : Nat) (hl : (E ++ ejn e f s).length ≤ 839) : ∃ k_e', f_X0_enterJoined (lN (e / 128)) (nI (e % 4)) (lN (f / 128)) (nI s) (nI E.length) k_e = some (nI (E ++ ejn e f s).length, k_e') ∧ pre 839 k_e' ((E ++ ejn e f s).map lN) := by
  unfold f_X0_enterJoined ejn
  unfold ejn at hl
  rw [andL, fb_orL]
  by_cases c1 : e % 4 = 1
  · rw [c1] at hl ⊢
    rw [if_pos rfl, List.nil_append, if_neg (by decide)] at hl
    rw [if_pos rfl, List.nil_append, if_neg (show ¬ 1 = 2 by decide)]
    obtain ⟨z, z1, z2⟩ := X_enter h (by rw [List.length_append] at hl; have : [ent (e / 128 ||| f / 128) s 2].length = 1 := rfl; omega) (e / 128 ||| f / 128) s 2 hs (by decide)
    have z1 : f_X0_enter (lN (e / 128 ||| f / 128)) (nI s) 2 (nI E.length) k_e = _ := z1
    rw [if_pos (show nI 1 = 1 from rfl), if_neg (show ¬ nI 1 = 2 by decide), z1]
    exact ⟨z, rfl, z2⟩
  · rw [if_neg c1] at hl ⊢
    rw [if_neg (show ¬ nI (e % 4) = 1 from fun q => c1 ((nI_eq (b := 1) (by omega) (by decide)).mp q))]
    obtain ⟨z, z1, z2⟩ := X_enter h (by rw [List.length_append, List.length_append] at hl; have : [ent (e / 128 &&& f / 128) s 1].length = 1 := rfl; omega) (e / 128 &&& f / 128) s 1 hs (by decide)
    have z1 : f_X0_enter (lN (e / 128 &&& f / 128)) (nI s) 1 (nI E.length) k_e = _ := z1
    rw [z1, Option.bind_some]
    by_cases c2 : e % 4 = 2
    · rw [if_pos c2, List.append_nil] at hl ⊢
      rw [if_pos (show nI (e % 4) = 2 by rw [c2]; rfl)]
      exact ⟨z, rfl, z2⟩
    · rw [if_neg c2, ← List.append_assoc] at hl ⊢
      rw [if_neg (show ¬ nI (e % 4) = 2 from fun q => c2 ((nI_eq (b := 2) (by omega) (by decide)).mp q))]
      obtain ⟨w, w1, w2⟩ := X_enter z2 (by rw [List.length_append] at hl; have : [ent (e / 128 ||| f / 128) s 2].length = 1 := rfl; omega) (e / 128 ||| f / 128) s 2 hs (by decide)
      have w1 : f_X0_enter (lN (e / 128 ||| f / 128)) (nI s) 2 _ z = _ := w1
      rw [w1]
      exact ⟨w, rfl, w2⟩
end CB
/-- the starts that are known -/
def rKS (s : Nat) (k_s : List Int32) : Prop := k_s.length = 32 ∧ ∀ r, r ≤ s → r < 32 → k_s[r]? = some (nI (stN r))
theorem rKS.ld {s r : Nat} {k_s : List Int32} (h : rKS s k_s) (hr : r ≤ s) (h32 : r < 32) : tld k_s (nI r) = some (nI (stN r)) := by rw [tld_nI (by omega), h.2 r hr h32]
theorem X_s20 {s first rest i e : Nat} {k_s : List Int32} (hks : rKS s k_s) (hs : s < 32) (hi : ∀ E, segE s <+: E → E[i]? = some e) (he : e < 2 ^ 62) (hor : first ||| rest = s) (hrest : rest < s) {K : Int32 → List Int64 → Option (Int32 × List Int64)} : ∀ (m j fu : Nat) (E : List Nat) (k_e : List Int64), j + m = (seg rest).length → m < fu → segE s <+: E → pre 839 k_e (E.map lN) → (E ++ sp2 e s ((seg rest).drop j)).length ≤ 839 → ∃ k_e', pre 839 k_e' ((E ++ sp2 e s ((seg rest).drop j)).map lN) ∧ f_X0_enterSplit_L20 (nI first) (nI rest) (nI i) k_s K fu (nI (stN rest + j)) (nI E.length) k_e = K (nI (E ++ sp2 e s ((seg rest).drop j)).length) k_e' := by
  have hst := stN_step (s := rest) (by omega)
  have hst2 := stN_le (s := rest + 1) (by omega)
  intro m
  induction m with
  | zero =>
    intro j fu E k_e hk hf hpre hp hl
    obtain ⟨fu, rfl⟩ : ∃ q, fu = q + 1 := ⟨fu - 1, by omega⟩
    rw [List.drop_of_length_le (by omega), sp2, List.append_nil] at *
    refine ⟨k_e, hp, ?_⟩
    rw [f_X0_enterSplit_L20, nI_1, hks.ld (by omega) (by omega), Option.bind_some, if_pos (nI_le (by omega) (by omega))]
  | succ m ih =>
    intro j fu E k_e hk hf hpre hp hl
    obtain ⟨fu, rfl⟩ : ∃ q, fu = q + 1 := ⟨fu - 1, by omega⟩
    have hjl : j < (seg rest).length := by omega
    have hj : (seg rest)[j]? = some (seg rest)[j] := List.getElem?_eq_getElem hjl
    have hjb := seg_big (by omega) (List.mem_of_getElem? hj)
    have hj2 := segE_at (by omega) hrest hpre hj
    rw [List.drop_eq_getElem_cons hjl, sp2, ← List.append_assoc] at hl ⊢
    have hl1 : (E ++ ejn e (seg rest)[j] s).length ≤ 839 := by rw [List.length_append] at hl; omega
    obtain ⟨z, z1, z2⟩ := X_joined hp hs e (seg rest)[j] hl1
    rw [f_X0_enterSplit_L20, nI_1, hks.ld (by omega) (by omega), Option.bind_some, if_neg (nI_ge (by omega) (by omega)), X_tab hp (hi E hpre) he, Option.bind_some, X_root hp (hi E hpre), Option.bind_some, X_tab hp hj2 hjb, Option.bind_some, fa_or, hor, z1, Option.bind_some, nI_1]
    exact ih (j + 1) fu _ z (by omega) (by omega) (hpre.trans (List.prefix_append _ _)) z2 hl
theorem X_s5 {s first rest : Nat} {k_s : List Int32} (hks : rKS s k_s) (hs : s < 32) (hor : first ||| rest = s) (hrest : rest < s) (hfirst : first < s) {K : Int32 → List Int64 → Option (Int32 × List Int64)} : ∀ (m j fu : Nat) (E : List Nat) (k_e : List Int64), j + m = (seg first).length → m < fu → segE s <+: E → pre 839 k_e (E.map lN) → (E ++ sp1 s (seg rest) ((seg first).drop j)).length ≤ 839 → ∃ k_e', pre 839 k_e' ((E ++ sp1 s (seg rest) ((seg first).drop j)).map lN) ∧ f_X0_enterSplit_L5 (nI first) (nI rest) k_s K fu (nI (stN first + j)) (nI E.length) k_e = K (nI (E ++ sp1 s (seg rest) ((seg first).drop j)).length) k_e' := by
  have hst := stN_step (s := first) (by omega)
  have hst2 := stN_le (s := first + 1) (by omega)
  have hst3 := stN_step (s := rest) (by omega)
  have hst4 := stN_le (s := rest + 1) (by omega)
  intro m
  induction m with
  | zero =>
    intro j fu E k_e hk hf hpre hp hl
    obtain ⟨fu, rfl⟩ : ∃ q, fu = q + 1 := ⟨fu - 1, by omega⟩
    rw [List.drop_of_length_le (by omega), sp1, List.append_nil] at *
    refine ⟨k_e, hp, ?_⟩
    rw [f_X0_enterSplit_L5, nI_1, hks.ld (by omega) (by omega), Option.bind_some, if_pos (nI_le (by omega) (by omega))]
  | succ m ih =>
    intro j fu E k_e hk hf hpre hp hl
    obtain ⟨fu, rfl⟩ : ∃ q, fu = q + 1 := ⟨fu - 1, by omega⟩
    have hjl : j < (seg first).length := by omega
    have hj : (seg first)[j]? = some (seg first)[j] := List.getElem?_eq_getElem hjl
    have hjb := seg_big (by omega) (List.mem_of_getElem? hj)
    rw [List.drop_eq_getElem_cons hjl, sp1, ← List.append_assoc] at hl ⊢
    have hl1 : (E ++ sp2 (seg first)[j] s (seg rest)).length ≤ 839 := by rw [List.length_append] at hl; omega
    obtain ⟨z, z1, z2⟩ := X_s20 hks hs (first := first) (rest := rest) (i := stN first + j) (e := (seg first)[j]) (fun E hE => segE_at (by omega) hfirst hE hj) hjb hor hrest (K := fun k19 k20 => f_X0_enterSplit_L5 (nI first) (nI rest) k_s K fu (nI (stN first + j + 1)) k19 k20) (seg rest).length 0 tFU E k_e (by omega) (by unfold tFU; omega) hpre hp (by rw [List.drop_zero]; exact hl1)
    rw [List.drop_zero] at z1 z2
    rw [Nat.add_zero (stN rest)] at z2
    rw [f_X0_enterSplit_L5, nI_1, hks.ld (by omega) (by omega), Option.bind_some, if_neg (nI_ge (by omega) (by omega)), hks.ld (by omega) (by omega), Option.bind_some, nI_1, z2]
    exact ih (j + 1) fu _ z (by omega) (by omega) (hpre.trans (List.prefix_append _ _)) z1 hl
theorem sp_or : ∀ s, s < 32 → ∀ f, f < 32 → andn f s = 0 → ¬ f &&& lowb s = 0 → f ||| andn s f = s ∧ andn s f < s := by decide +kernel
theorem low_bit : ∀ s, s < 32 → s ≠ 0 → ∀ f, f < 32 → (f.testBit (lowv s) = false ↔ f &&& lowb s = 0) := by decide +kernel
theorem low_one : ∀ s, s < 32 → s ≠ 0 → (s = 2 ^ lowv s ↔ pop5 s = 1) := by decide +kernel
theorem low_p : ∀ s, s < 32 → 2 ^ lowv s < 32 := by decide +kernel
theorem nI_bool0 (b : Bool) : nI b.toNat = 0 ↔ b = false := by cases b <;> decide
theorem X_l33 {s : Nat} {k_s : List Int32} (hks : rKS s k_s) (hs : s < 32) (hs0 : s ≠ 0) {K : Int32 → List Int64 → Option (Int32 × List Int64)} : ∀ (m first fu : Nat) (E : List Nat) (k_e : List Int64), first + m = s → m < fu → segE s <+: E → pre 839 k_e (E.map lN) → (E ++ spA s m first).length ≤ 839 → ∃ k_e', pre 839 k_e' ((E ++ spA s m first).map lN) ∧ f_X0_enterAll_L33 (nI s) (nI (lowv s)) k_s K fu (nI first) (nI E.length) k_e = K (nI (E ++ spA s m first).length) k_e' := by
  intro m
  induction m with
  | zero =>
    intro first fu E k_e hk hf hpre hp hl
    obtain ⟨fu, rfl⟩ : ∃ q, fu = q + 1 := ⟨fu - 1, by omega⟩
    rw [spA, List.append_nil] at *
    refine ⟨k_e, hp, ?_⟩
    rw [f_X0_enterAll_L33, if_pos (nI_le (by omega) (by omega))]
  | succ m ih =>
    intro first fu E k_e hk hf hpre hp hl
    obtain ⟨fu, rfl⟩ : ∃ q, fu = q + 1 := ⟨fu - 1, by omega⟩
    have hle := andn_le first s
    have hlv := lowv_lt s hs
    have hb := low_bit s hs hs0 first (by omega)
    rw [spA] at hl ⊢
    rw [f_X0_enterAll_L33, if_neg (nI_ge (by omega) (by omega)), n_andn, n_has (s := first) (v := lowv s) (by omega) (by omega), n_andn, nI_1]
    by_cases c1 : andn first s = 0
    · rw [if_pos c1] at hl ⊢
      rw [if_pos ((n_z (by omega)).mpr c1)]
      by_cases c2 : first &&& lowb s = 0
      · rw [if_pos c2, List.nil_append] at hl ⊢
        rw [if_pos ((nI_bool0 (first.testBit (lowv s))).mpr (hb.mpr c2))]
        exact ih (first + 1) fu E k_e (by omega) (by omega) hpre hp hl
      · rw [if_neg c2, ← List.append_assoc] at hl ⊢
        rw [if_neg (fun q => c2 (hb.mp ((nI_bool0 (first.testBit (lowv s))).mp q)))]
        obtain ⟨o1, o2⟩ := sp_or s hs first (by omega) c1 c2
        have hl1 : (E ++ sp1 s (seg (andn s first)) (seg first)).length ≤ 839 := by rw [List.length_append] at hl; omega
        have hst := stN_step (s := first) (by omega)
        have hst2 := stN_le (s := first + 1) (by omega)
        obtain ⟨z, z1, z2⟩ := X_s5 hks hs o1 o2 (by omega : first < s) (K := fun k21 k22 => some (k21, k22)) (seg first).length 0 tFU E k_e (by omega) (by unfold tFU; omega) hpre hp (by rw [List.drop_zero]; exact hl1)
        rw [List.drop_zero] at z1 z2
        rw [Nat.add_zero] at z2
        unfold f_X0_enterSplit
        rw [hks.ld (by omega) (by omega), Option.bind_some, z2, Option.bind_some]
        exact ih (first + 1) fu _ z (by omega) (by omega) (hpre.trans (List.prefix_append _ _)) z1 hl
    · rw [if_neg c1, List.nil_append] at hl ⊢
      rw [if_neg (fun q => c1 ((n_z (by omega)).mp q))]
      exact ih (first + 1) fu E k_e (by omega) (by omega) hpre hp hl
theorem vtN_ok : ∀ v, v < 5 → tld tVT (nI v) = some (lN (vtN v)) := by decide +kernel
theorem X_all {s : Nat} {k_s : List Int32} {k_e : List Int64} (hks : rKS s k_s) (hs : s < 32) (hs1 : 1 ≤ s) (hp : pre 839 k_e ((segE s).map lN)) : ∃ k_e', pre 839 k_e' ((segE (s + 1)).map lN) ∧ f_X0_enterAll (nI s) (nI (stN s)) k_e k_s = some (nI (stN (s + 1)), k_e') := by
  have hc := k_seg s hs hs1
  have hl := stN_le (s := s + 1) (by omega)
  have hs0 : s ≠ 0 := by omega
  have hlv := lowv_lt s hs
  have hlp := low_p s hs
  have h1 := low_one s hs hs0
  unfold stN at hl ⊢
  rw [segE_step hs] at hl ⊢
  unfold chkS at hc
  unfold f_X0_enterAll
  rw [l_low7 s hs hs0, Option.bind_some, if_neg (nI_ne_m1 (p := lowv s) (by omega)), n_sh1 (lowv s) (by omega)]
  by_cases c : pop5 s = 1
  · rw [if_pos c] at hc
    have e := eqO_ok hc
    rw [e] at hl ⊢
    have hl1 : (segE s).length < 839 := by rw [List.length_append] at hl; have : [ent (vtN (lowv s)) s 0].length = 1 := rfl; omega
    obtain ⟨z, z1, z2⟩ := X_enter hp hl1 (vtN (lowv s)) s 0 hs (by decide)
    have z1 : f_X0_enter (lN (vtN (lowv s))) (nI s) 0 (nI (segE s).length) k_e = _ := z1
    rw [if_pos (show nI s = nI (2 ^ lowv s) from congrArg nI (h1.mpr c)), vtN_ok _ (lowv_lt s hs), Option.bind_some, z1]
    exact ⟨z, z2, rfl⟩
  · rw [if_neg c] at hc
    have e := eqO_ok hc
    rw [e] at hl ⊢
    obtain ⟨z, z1, z2⟩ := X_l33 hks hs hs0 (K := fun k7 k8 => some (k7, k8)) (s - 1) 1 tFU (segE s) k_e (by omega) (by unfold tFU; omega) (List.prefix_refl _) hp hl
    have z2 : f_X0_enterAll_L33 (nI s) (nI (lowv s)) k_s _ tFU 1 (nI (segE s).length) k_e = _ := z2
    rw [if_neg (show ¬ nI s = nI (2 ^ lowv s) from fun q => c (h1.mp ((nI_eq (by omega) (by omega)).mp q))), z2]
    exact ⟨z, z1, rfl⟩
theorem X_b41 {K : Int32 → List Int64 → List Int32 → Option (Int32 × List Int64 × List Int32)} : ∀ (m s fu : Nat) (k_e : List Int64) (k_s : List Int32), s + m = 32 → 1 ≤ s → m < fu → pre 839 k_e ((segE s).map lN) → rKS (s - 1) k_s → ∃ k_e' k_s', pre 839 k_e' ((segE 32).map lN) ∧ f_X0_build_L41 K fu (nI s) (nI (stN s)) k_e k_s = K (nI (stN 32)) k_e' k_s' := by
  intro m
  induction m with
  | zero =>
    intro s fu k_e k_s hk h1 hf hp hks
    obtain ⟨fu, rfl⟩ : ∃ q, fu = q + 1 := ⟨fu - 1, by omega⟩
    have : s = 32 := by omega
    subst this
    refine ⟨k_e, k_s, hp, ?_⟩
    rw [f_X0_build_L41, if_pos (by decide)]
  | succ m ih =>
    intro s fu k_e k_s hk h1 hf hp hks
    obtain ⟨fu, rfl⟩ : ∃ q, fu = q + 1 := ⟨fu - 1, by omega⟩
    have hl := hks.1
    have hks2 : rKS s (k_s.set s (nI (stN s))) := by
      refine ⟨by rw [List.length_set]; exact hl, fun r hr h32 => ?_⟩
      by_cases e : s = r
      · subst e
        rw [List.getElem?_set_self (by omega)]
      · rw [List.getElem?_set_ne e]
        exact hks.2 r (by omega) h32
    obtain ⟨z, z1, z2⟩ := X_all hks2 (by omega) h1 hp
    rw [f_X0_build_L41, if_neg (show ¬ (32 : Int32) ≤ nI s by rw [show (32 : Int32) = nI 32 from rfl]; exact nI_ge (by omega) (by decide)), tst_nI (by omega) (by omega), Option.bind_some, z2, Option.bind_some, nI_1]
    exact ih (s + 1) fu z _ (by omega) (by omega) (by omega) z1 hks2
/-! its sort -/
theorem set_perm {α : Type} {xs : List α} {i j : Nat} {m v : α} (hij : i ≠ j) (hi : i < xs.length) (hv : xs[j]? = some v) : ((xs.set i v).set j m).Perm (xs.set i m) := by
  obtain ⟨hj, rfl⟩ := List.getElem?_eq_some_iff.mp hv
  have h := List.set_set_perm (as := xs.set i m) (i := i) (j := j) (by rw [List.length_set]; exact hi) (by rw [List.length_set]; exact hj)
  rw [List.getElem_set_self, List.getElem_set_ne hij, List.set_set] at h
  exact h
theorem X_sink_perm {g : Nat} (hg : 1 ≤ g) (hg2 : g ≤ 839) {v : Int64} : ∀ (a fu : Nat) (xs : List Int64), a < fu → a < 839 → xs.length = 839 → ∃ ys, f_X0_sink_L27 (nI g) v (fun y11 k12 => (tst k12 y11 v).bind fun z13 => some z13) fu (nI a) xs = some ys ∧ ys.Perm (xs.set a v) := by
  intro a
  induction a using Nat.strongRecOn with
  | ind a ih =>
    intro fu xs hf ha hx
    obtain ⟨fu, rfl⟩ : ∃ q, fu = q + 1 := ⟨fu - 1, by omega⟩
    have fin : ∃ ys, ((tst xs (nI a) v).bind fun z13 => some z13) = some ys ∧ ys.Perm (xs.set a v) := by
      rw [tst_nI (by omega) (by omega)]
      exact ⟨_, rfl, List.Perm.refl _⟩
    rw [f_X0_sink_L27]
    by_cases c : a < g
    · rw [if_pos (nI_lt c (by omega))]
      exact fin
    · rw [if_neg (nI_nlt (by omega) (by omega)), pk_sub (by omega), tld_nI (by omega), List.getElem?_eq_getElem (by omega), Option.bind_some]
      split
      · exact fin
      · rw [Option.bind_some, tst_nI (by omega) (by omega), Option.bind_some]
        obtain ⟨ys, y1, y2⟩ := ih (a - g) (by omega) fu (xs.set a xs[a - g]) (by omega) (by omega) (by rw [List.length_set]; exact hx)
        exact ⟨ys, y1, y2.trans (set_perm (by omega) (by omega) (List.getElem?_eq_getElem _))⟩
theorem X_sink {g a : Nat} (hg : 1 ≤ g) (hg2 : g ≤ 839) (ha : a < 839) {xs : List Int64} (hx : xs.length = 839) : ∃ ys, f_X0_sink (nI a) (nI g) (nI 839) xs = some ys ∧ ys.Perm xs := by
  unfold f_X0_sink
  rw [if_neg (show ¬ nI g < (1 : Int32) by rw [show (1 : Int32) = nI 1 from rfl]; exact nI_nlt (by omega) (by omega)), if_neg (show ¬ f_X7_isIndex (nI a) (nI 839) = 0 by rw [n_isIndex1 ha (by decide)]; decide), tld_nI (by omega), List.getElem?_eq_getElem (by omega), Option.bind_some]
  obtain ⟨ys, y1, y2⟩ := X_sink_perm hg hg2 (v := xs[a]) a tFU xs (by unfold tFU; omega) ha hx
  rw [List.set_getElem_self] at y2
  exact ⟨ys, y1, y2⟩
theorem X_pass {g : Nat} (hg : 1 ≤ g) (hg2 : g ≤ 839) {K : List Int64 → Option (List Int64)} : ∀ (m i fu : Nat) (xs : List Int64), i + m = 839 → m < fu → xs.length = 839 → ∃ ys, ys.Perm xs ∧ f_X0_sort_L23 (nI g) (nI 839) K fu (nI i) xs = K ys := by
  intro m
  induction m with
  | zero =>
    intro i fu xs hk hf hx
    obtain ⟨fu, rfl⟩ : ∃ q, fu = q + 1 := ⟨fu - 1, by omega⟩
    refine ⟨xs, List.Perm.refl _, ?_⟩
    rw [f_X0_sort_L23, if_pos (nI_le (by omega) (by omega))]
  | succ m ih =>
    intro i fu xs hk hf hx
    obtain ⟨fu, rfl⟩ : ∃ q, fu = q + 1 := ⟨fu - 1, by omega⟩
    obtain ⟨ys, y1, y2⟩ := X_sink hg hg2 (a := i) (by omega) hx
    obtain ⟨zs, z1, z2⟩ := ih (i + 1) fu ys (by omega) (by omega) (by rw [y2.length_eq]; exact hx)
    refine ⟨zs, z1.trans y2, ?_⟩
    rw [f_X0_sort_L23, if_neg (nI_ge (by omega) (by omega)), y1, Option.bind_some, nI_1, z2]
theorem sink1_loop {f : Nat} (hf : f < 2 ^ 62) : ∀ (R B : List Nat) (x : Int64) (rest : List Int64) (fu : Nat), (∀ y ∈ R, y < 2 ^ 62) → R.length < fu → R.length + 1 + B.length + rest.length = 839 → f_X0_sink_L27 (nI 1) (lN f) (fun y11 k12 => (tst k12 y11 (lN f)).bind fun z13 => some z13) fu (nI R.length) (R.reverse.map lN ++ x :: (B.map lN ++ rest)) = some ((rin f R).reverse.map lN ++ (B.map lN ++ rest)) := by
  intro R
  induction R with
  | nil =>
    intro B x rest fu hR hfu hl
    obtain ⟨fu, rfl⟩ : ∃ q, fu = q + 1 := ⟨fu - 1, by omega⟩
    have hl : 0 + 1 + B.length + rest.length = 839 := hl
    rw [f_X0_sink_L27, if_pos (show nI ([] : List Nat).length < nI 1 by decide)]
    have hs : tst (x :: (B.map lN ++ rest)) (nI 0) (lN f) = some (lN f :: (B.map lN ++ rest)) := by
      rw [tst_nI (by rw [List.length_cons]; omega) (by rw [List.length_cons, List.length_append, List.length_map]; omega)]; rfl
    show (tst (x :: (B.map lN ++ rest)) (nI 0) (lN f)).bind _ = _
    rw [hs]; rfl
  | cons y R ih =>
    intro B x rest fu hR hfu hl
    obtain ⟨fu, rfl⟩ : ∃ q, fu = q + 1 := ⟨fu - 1, by omega⟩
    rw [List.length_cons] at hfu hl
    have hy := hR y (List.mem_cons_self)
    have e1 : nI (y :: R).length - nI 1 = nI R.length := pk_sub (b := 1) (by rw [List.length_cons]; omega)
    have sh : (y :: R).reverse.map lN = R.reverse.map lN ++ [lN y] := by rw [List.reverse_cons, List.map_append]; rfl
    have lR : (R.reverse.map lN).length = R.length := by rw [List.length_map, List.length_reverse]
    have lS : (R.reverse.map lN ++ [lN y]).length = R.length + 1 := by rw [List.length_append, lR]; rfl
    have g1 : tld (R.reverse.map lN ++ [lN y] ++ x :: (B.map lN ++ rest)) (nI R.length) = some (lN y) := by
      rw [tld_nI (by omega), List.append_assoc]
      have := get_mid (lN y) (x :: (B.map lN ++ rest)) (R.reverse.map lN)
      rw [lR] at this
      exact this
    have s1 : ∀ v, tst (R.reverse.map lN ++ [lN y] ++ x :: (B.map lN ++ rest)) (nI (y :: R).length) v = some (R.reverse.map lN ++ [lN y] ++ v :: (B.map lN ++ rest)) := by
      intro v
      have := set_mid v x (B.map lN ++ rest) (R.reverse.map lN ++ [lN y])
      rw [lS] at this
      rw [tst_nI (by rw [List.length_append, lS]; simp) (by rw [List.length_append, lS, List.length_cons, List.length_append, List.length_map]; omega), List.length_cons, this]
    rw [f_X0_sink_L27, if_neg (show ¬ nI (y :: R).length < nI 1 by rw [List.length_cons]; exact nI_nlt (by omega) (by omega)), e1, sh, g1, Option.bind_some]
    by_cases c : y ≤ f
    · rw [if_pos ((cmp_le hy hf).mpr c)]
      rw [s1, Option.bind_some, rin, if_pos c, List.reverse_cons, List.map_append, sh, List.append_assoc, List.append_assoc, List.append_assoc]; rfl
    · rw [if_neg (fun q => c ((cmp_le hy hf).mp q)), Option.bind_some, s1, Option.bind_some]
      have := ih (y :: B) (lN y) rest fu (fun z hz => hR z (List.mem_cons_of_mem _ hz)) (by omega) (by rw [List.length_cons]; omega)
      rw [List.append_assoc]
      show f_X0_sink_L27 (nI 1) (lN f) _ fu (nI R.length) (R.reverse.map lN ++ lN y :: (lN y :: (B.map lN ++ rest))) = _
      have this : f_X0_sink_L27 (nI 1) (lN f) _ fu (nI R.length) (R.reverse.map lN ++ lN y :: (lN y :: (B.map lN ++ rest))) = _ := this
      rw [this, rin, if_neg c, List.reverse_cons, List.map_append, List.append_assoc]; rfl
theorem X_last {K : List Int64 → Option (List Int64)} : ∀ (Q R : List Nat) (fu : Nat), (∀ y ∈ R, y < 2 ^ 62) → (∀ y ∈ Q, y < 2 ^ 62) → R.length + Q.length = 839 → Q.length < fu → f_X0_sort_L23 (nI 1) (nI 839) K fu (nI R.length) (R.reverse.map lN ++ Q.map lN) = K ((rfold R Q).reverse.map lN) := by
  intro Q
  induction Q with
  | nil =>
    intro R fu hR hQ hl hf
    obtain ⟨fu, rfl⟩ : ∃ q, fu = q + 1 := ⟨fu - 1, by omega⟩
    have hl : R.length + 0 = 839 := hl
    rw [f_X0_sort_L23, if_pos (nI_le (by omega) (by omega)), List.map_nil, List.append_nil]; rfl
  | cons f Q ih =>
    intro R fu hR hQ hl hf
    obtain ⟨fu, rfl⟩ : ∃ q, fu = q + 1 := ⟨fu - 1, by omega⟩
    rw [List.length_cons] at hl hf
    have hf62 := hQ f (List.mem_cons_self)
    have lR : (R.reverse.map lN).length = R.length := by rw [List.length_map, List.length_reverse]
    have hs := sink1_loop hf62 R [] (lN f) (Q.map lN) tFU hR (by unfold tFU; omega) (by rw [List.length_map]; show R.length + 1 + 0 + _ = _; omega)
    have hs : f_X0_sink_L27 (nI 1) (lN f) _ tFU (nI R.length) (R.reverse.map lN ++ lN f :: Q.map lN) = some ((rin f R).reverse.map lN ++ Q.map lN) := hs
    have hg : tld (R.reverse.map lN ++ lN f :: Q.map lN) (nI R.length) = some (lN f) := by
      rw [tld_nI (by omega)]
      have := get_mid (lN f) (Q.map lN) (R.reverse.map lN)
      rw [lR] at this
      exact this
    have hk : f_X0_sink (nI R.length) (nI 1) (nI 839) (R.reverse.map lN ++ lN f :: Q.map lN) = some ((rin f R).reverse.map lN ++ Q.map lN) := by
      unfold f_X0_sink
      rw [if_neg (show ¬ nI 1 < (1 : Int32) by decide), if_neg (show ¬ f_X7_isIndex (nI R.length) (nI 839) = 0 by rw [n_isIndex1 (by omega) (by decide)]; decide), hg, Option.bind_some, hs]
    have := ih (rin f R) fu (fun y hy => by
      rcases List.mem_cons.mp ((rin_perm f R).mem_iff.mp hy) with rfl | hy
      · exact hf62
      · exact hR y hy) (fun y hy => hQ y (List.mem_cons_of_mem _ hy)) (by rw [rin_len]; omega) (by omega)
    rw [rin_len] at this
    rw [f_X0_sort_L23, if_neg (nI_ge (by omega) (by omega)), List.map_cons, hk, Option.bind_some, nI_1, this]; rfl
def decN (x : Int64) : Nat := x.toInt.toNat
theorem decN_lN {e : Nat} (h : e < 2 ^ 62) : decN (lN e) = e := by
  unfold decN
  rw [pk_lT (by omega)]; rfl
theorem perm_lN {xs : List Int64} {L : List Nat} (h : xs.Perm (L.map lN)) (hL : ∀ e ∈ L, e < 2 ^ 62) : ∃ L' : List Nat, xs = L'.map lN ∧ L'.Perm L := by
  refine ⟨xs.map decN, ?_, ?_⟩
  · rw [List.map_map]
    have : ∀ x ∈ xs, (lN ∘ decN) x = x := fun x hx => by
      obtain ⟨e, he, rfl⟩ := List.mem_map.mp (h.mem_iff.mp hx)
      show lN (decN (lN e)) = lN e
      rw [decN_lN (hL e he)]
    rw [List.map_congr_left this, List.map_id']
  · have h2 := h.map decN
    rw [List.map_map] at h2
    have : (L.map (decN ∘ lN)) = L := by
      have : ∀ e ∈ L, (decN ∘ lN) e = e := fun e he => decN_lN (hL e he)
      rw [List.map_congr_left this, List.map_id']
    rw [this] at h2
    exact h2
theorem tGA_ld : tld tGA 0 = some (nI 301) ∧ tld tGA 1 = some (nI 132) ∧ tld tGA 2 = some (nI 57) ∧ tld tGA 3 = some (nI 23) ∧ tld tGA 4 = some (nI 10) ∧ tld tGA 5 = some (nI 4) ∧ tld tGA 6 = some (nI 1) := by decide +kernel
theorem X_sort {E : List Nat} (hE : ∀ e ∈ E, e < 2 ^ 62) (hl : E.length = 839) : ∃ E', E'.Perm E ∧ f_X0_sort (nI 839) (E.map lN) = some ((rfold [] E').reverse.map lN) := by
  obtain ⟨t0, t1, t2, t3, t4, t5, t6⟩ := tGA_ld
  have hx0 : (E.map lN).length = 839 := by rw [List.length_map]; exact hl
  unfold f_X0_sort
  have s : ∀ (fu : Nat) (v3 : Int32) (K : List Int64 → Option (List Int64)) (xs : List Int64) (g : Nat), 1 ≤ g → g ≤ 839 → xs.length = 839 → ¬ (7 : Int32) ≤ v3 → tld tGA v3 = some (nI g) → ∃ ys, ys.Perm xs ∧ f_X0_sort_L9 7 (nI 839) K (fu + 1) v3 xs = f_X0_sort_L9 7 (nI 839) K fu (v3 + 1) ys := by
    intro fu v3 K xs g g1 g2 hx hv ht
    rw [f_X0_sort_L9, if_neg hv, ht, Option.bind_some]
    exact X_pass g1 g2 (K := fun k7 => f_X0_sort_L9 7 (nI 839) K fu (v3 + 1) k7) (839 - g) g tFU xs (by omega) (by unfold tFU; omega) hx
  rw [show tFU = 999 + 1 from rfl]
  obtain ⟨y0, p0, q0⟩ := s 999 0 (fun k8 => some k8) _ 301 (by decide) (by decide) hx0 (by decide) t0
  obtain ⟨y1, p1, q1⟩ := s 998 1 (fun k8 => some k8) y0 132 (by decide) (by decide) (by rw [p0.length_eq]; exact hx0) (by decide) t1
  have p1 := p1.trans p0
  obtain ⟨y2, p2, q2⟩ := s 997 2 (fun k8 => some k8) y1 57 (by decide) (by decide) (by rw [p1.length_eq]; exact hx0) (by decide) t2
  have p2 := p2.trans p1
  obtain ⟨y3, p3, q3⟩ := s 996 3 (fun k8 => some k8) y2 23 (by decide) (by decide) (by rw [p2.length_eq]; exact hx0) (by decide) t3
  have p3 := p3.trans p2
  obtain ⟨y4, p4, q4⟩ := s 995 4 (fun k8 => some k8) y3 10 (by decide) (by decide) (by rw [p3.length_eq]; exact hx0) (by decide) t4
  have p4 := p4.trans p3
  obtain ⟨y5, p5, q5⟩ := s 994 5 (fun k8 => some k8) y4 4 (by decide) (by decide) (by rw [p4.length_eq]; exact hx0) (by decide) t5
  have p5 := p5.trans p4
  obtain ⟨E', rfl, hp⟩ := perm_lN p5 hE
  have hl' : E'.length = 839 := by rw [hp.length_eq]; exact hl
  have hE' : ∀ e ∈ E', e < 2 ^ 62 := fun e he => hE e (hp.mem_iff.mp he)
  refine ⟨E', hp, ?_⟩
  have q0 : f_X0_sort_L9 7 (nI 839) (fun k8 => some k8) (999 + 1) 0 (E.map lN) = f_X0_sort_L9 7 (nI 839) (fun k8 => some k8) (998 + 1) 1 y0 := q0
  have q1 : f_X0_sort_L9 7 (nI 839) (fun k8 => some k8) (998 + 1) 1 y0 = f_X0_sort_L9 7 (nI 839) (fun k8 => some k8) (997 + 1) 2 y1 := q1
  have q2 : f_X0_sort_L9 7 (nI 839) (fun k8 => some k8) (997 + 1) 2 y1 = f_X0_sort_L9 7 (nI 839) (fun k8 => some k8) (996 + 1) 3 y2 := q2
  have q3 : f_X0_sort_L9 7 (nI 839) (fun k8 => some k8) (996 + 1) 3 y2 = f_X0_sort_L9 7 (nI 839) (fun k8 => some k8) (995 + 1) 4 y3 := q3
  have q4 : f_X0_sort_L9 7 (nI 839) (fun k8 => some k8) (995 + 1) 4 y3 = f_X0_sort_L9 7 (nI 839) (fun k8 => some k8) (994 + 1) 5 y4 := q4
  have q5 : f_X0_sort_L9 7 (nI 839) (fun k8 => some k8) (994 + 1) 5 y4 = f_X0_sort_L9 7 (nI 839) (fun k8 => some k8) (993 + 1) 6 (E'.map lN) := q5
  rw [q0, q1, q2, q3, q4, q5, f_X0_sort_L9, if_neg (show ¬ (7 : Int32) ≤ 6 by decide), t6, Option.bind_some]
  match E', hl', hE' with
  | [], hl', _ => cases hl'
  | y :: Q, hl', hE' =>
    rw [List.length_cons] at hl'
    have hlast := X_last (K := fun k7 => f_X0_sort_L9 7 (nI 839) (fun k8 => some k8) 993 (6 + 1) k7) Q [y] tFU (fun z hz => hE' z (by rcases List.mem_singleton.mp hz with rfl; exact List.mem_cons_self)) (fun z hz => hE' z (List.mem_cons_of_mem _ hz)) (by show 1 + _ = _; omega) (by unfold tFU; omega)
    have hlast : f_X0_sort_L23 (nI 1) (nI 839) _ tFU (nI 1) ((y :: Q).map lN) = _ := hlast
    rw [hlast, show (993 : Nat) = 992 + 1 from rfl, f_X0_sort_L9, if_pos (by decide)]; rfl
theorem X_build : ∃ k_s, f_X0_build 0 (List.replicate 839 0) (List.replicate 32 0) = some (nI CE.length, CE.map lN, k_s) := by
  have r0 : pre 839 (List.replicate 839 (0 : Int64)) (([] : List Nat).map lN) := pre.nil (by rw [List.length_replicate])
  obtain ⟨z1, a1, b1⟩ := X_enter r0 (by decide) 0 0 0 (by decide) (by decide)
  have a1 : f_X0_enter 0 0 0 0 (List.replicate 839 0) = _ := a1
  obtain ⟨z2, a2, b2⟩ := X_enter b1 (by decide) 4294967295 0 0 (by decide) (by decide)
  have a2 : f_X0_enter 4294967295 0 0 (nI (([] : List Nat) ++ [ent 0 0 0]).length) z1 = _ := a2
  have e1 : ([] ++ [ent 0 0 0]) ++ [ent 4294967295 0 0] = segE 1 := by decide +kernel
  rw [e1] at a2 b2
  have hks : rKS 0 (List.replicate 32 0) := ⟨by rw [List.length_replicate], fun r hr h32 => by
    have : r = 0 := by omega
    subst this
    rw [List.getElem?_replicate, if_pos (by decide)]; rfl⟩
  obtain ⟨z3, ks, b3, a3⟩ := X_b41 (K := fun k10 k11 k12 => (f_X0_sort k10 k11).bind fun r13 => some (k10, r13, k12)) 31 1 tFU z2 (List.replicate 32 0) (by decide) (by decide) (by unfold tFU; omega) b2 hks
  have hst : stN 32 = 839 := by unfold stN; rw [segE_32]; exact segE_len
  have hz3 := b3.full (by rw [List.length_map]; exact hst)
  have hbig : ∀ e ∈ segE 32, e < 2 ^ 62 := fun e he => by
    rw [segE_32] at he
    exact CE_big (CE_perm.mem_iff.mpr he)
  obtain ⟨E', hp, hs⟩ := X_sort hbig hst
  have hCE : (rfold [] E').reverse = CE := by
    refine srt_eq ?_ (rfold_rev _) (srtB_ok k_srt)
    refine (List.reverse_perm _).trans ((rfold_perm E' []).trans ?_)
    rw [List.append_nil]
    refine hp.trans ?_
    rw [segE_32]
    exact CE_perm.symm
  have hlC : CE.length = 839 := by rw [CE_perm.length_eq]; exact segE_len
  refine ⟨ks, ?_⟩
  unfold f_X0_build
  have a3 : f_X0_build_L41 _ tFU 1 (nI (segE 1).length) z2 (List.replicate 32 0) = _ := a3
  rw [a1, Option.bind_some, a2, Option.bind_some, a3, hst, hz3, hs, Option.bind_some, hCE, hlC]
