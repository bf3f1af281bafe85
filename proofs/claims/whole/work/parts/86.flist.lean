/-! sorted lists -/
theorem k_srtF : ∀ n, n < 6 → 1 ≤ n → srtB (FL n) = true := by decide +kernel
theorem k_bigF : ∀ n, n < 6 → 1 ≤ n → (FL n).all (fun e => Nat.blt e 1099511627776) = true := by decide +kernel
theorem k_lenF : ∀ n, n < 6 → 1 ≤ n → Nat.ble (FL n).length 839 = true := by decide +kernel
theorem mg_perm : ∀ (n : Nat) (a b : List Nat), (mg n a b).Perm (a ++ b)
  | 0, _, _ => List.Perm.refl _
  | _ + 1, [], _ => List.Perm.refl _
  | _ + 1, x :: a, [] => by rw [mg, List.append_nil]; exact fun h => (nomatch h)
  | n + 1, x :: a, y :: b => by
    rw [mg]
    split
    · exact (mg_perm n a (y :: b)).cons x
    · exact ((mg_perm n (x :: a) b).cons y).trans List.perm_middle.symm
theorem mps_perm : ∀ (R : List (List Nat)), (mps R).flatten.Perm R.flatten
  | [] => List.Perm.refl _
  | [_] => List.Perm.refl _
  | a :: b :: R => by
    rw [mps, List.flatten_cons, List.flatten_cons, List.flatten_cons, ← List.append_assoc]
    exact (mg_perm 2000 a b).append (mps_perm R)
theorem mpn_perm : ∀ (n : Nat) (R : List (List Nat)), (mpn n R).flatten.Perm R.flatten
  | 0, _ => List.Perm.refl _
  | n + 1, R => (mpn_perm n (mps R)).trans (mps_perm R)
theorem flat1 : ∀ (L : List Nat), (L.map fun x => [x]).flatten = L
  | [] => rfl
  | a :: L => by rw [List.map_cons, List.flatten_cons, flat1 L]; rfl
theorem msort_perm (L : List Nat) : (msort L).Perm L := by
  have := mpn_perm 10 (L.map fun x => [x])
  rw [flat1] at this
  exact this
theorem srtB_ok : ∀ {L : List Nat}, srtB L = true → L.Pairwise (· ≤ ·)
  | [], _ => List.Pairwise.nil
  | [a], _ => List.pairwise_singleton _ _
  | a :: b :: R, h => by
    rw [srtB, Bool.and_eq_true] at h
    have h1 := Nat.le_of_ble_eq_true h.1
    have h2 := srtB_ok h.2
    refine List.pairwise_cons.mpr ⟨fun c hc => ?_, h2⟩
    rcases List.mem_cons.mp hc with rfl | hc
    · exact h1
    · exact Nat.le_trans h1 ((List.pairwise_cons.mp h2).1 c hc)
theorem srt_eq {a b : List Nat} (h : a.Perm b) (ha : a.Pairwise (· ≤ ·)) (hb : b.Pairwise (· ≤ ·)) : a = b := h.eq_of_pairwise (fun _ _ _ _ h1 h2 => Nat.le_antisymm h1 h2) ha hb
/-- insertion into a falling list -/
def rin (f : Nat) : List Nat → List Nat
  | [] => [f]
  | y :: R => if y ≤ f then f :: y :: R else y :: rin f R
theorem rin_perm (f : Nat) : ∀ R, (rin f R).Perm (f :: R)
  | [] => List.Perm.refl _
  | y :: R => by
    rw [rin]
    split
    · exact List.Perm.refl _
    · exact ((rin_perm f R).cons y).trans (List.Perm.swap f y R)
theorem rin_srt (f : Nat) : ∀ R, R.Pairwise (· ≥ ·) → (rin f R).Pairwise (· ≥ ·)
  | [], _ => List.pairwise_singleton _ _
  | y :: R, h => by
    obtain ⟨h1, h2⟩ := List.pairwise_cons.mp h
    rw [rin]
    split
    · next c =>
      refine List.pairwise_cons.mpr ⟨fun z hz => ?_, h⟩
      rcases List.mem_cons.mp hz with rfl | hz
      · exact c
      · exact Nat.le_trans (h1 z hz) c
    · next c =>
      refine List.pairwise_cons.mpr ⟨fun z hz => ?_, rin_srt f R h2⟩
      rcases List.mem_cons.mp ((rin_perm f R).mem_iff.mp hz) with rfl | hz
      · show z ≤ y; omega
      · exact h1 z hz
theorem rin_len (f : Nat) (R : List Nat) : (rin f R).length = R.length + 1 := (rin_perm f R).length_eq
def rfold (D : List Nat) : List Nat → List Nat
  | [] => D
  | f :: L => rfold (rin f D) L
theorem rfold_perm : ∀ (L D : List Nat), (rfold D L).Perm (L ++ D)
  | [], _ => List.Perm.refl _
  | f :: L, D => (rfold_perm L (rin f D)).trans (((rin_perm f D).append_left L).trans List.perm_middle)
theorem rfold_srt : ∀ (L D : List Nat), D.Pairwise (· ≥ ·) → (rfold D L).Pairwise (· ≥ ·)
  | [], _, h => h
  | f :: L, D, h => rfold_srt L (rin f D) (rin_srt f D h)
theorem rfold_rev (L : List Nat) : (rfold [] L).reverse.Pairwise (· ≤ ·) := List.pairwise_reverse.mpr (rfold_srt L [] List.Pairwise.nil)
theorem set_mid {α : Type} (v x : α) (c : List α) : ∀ a : List α, (a ++ x :: c).set a.length v = a ++ v :: c
  | [] => rfl
  | b :: a => by rw [List.cons_append, List.length_cons, List.set_cons_succ, set_mid v x c a]; rfl
theorem get_mid {α : Type} (x : α) (c : List α) : ∀ a : List α, (a ++ x :: c)[a.length]? = some x
  | [] => rfl
  | b :: a => by rw [List.cons_append, List.length_cons, List.getElem?_cons_succ, get_mid x c a]
theorem cmp_le {y f : Nat} (hy : y < 2 ^ 62) (hf : f < 2 ^ 62) : lg_cmp (lN y) (lN f) ≤ 0 ↔ y ≤ f := by rw [lg_cmp_le, pk_lLE (by omega) (by omega)]
theorem ins_loop {f : Nat} (hf : f < 2 ^ 62) {w : Int32} : ∀ (R B : List Nat) (x : Int64) (rest : List Int64) (fu : Nat), (∀ y ∈ R, y < 2 ^ 62) → R.length < fu → R.length + 1 + B.length + rest.length = 900 → f_X8_insert_L5 (lN f) (fun y9 k10 => (tst k10 y9 (lN f)).bind fun z11 => some (w, z11)) fu (nI R.length) (R.reverse.map lN ++ x :: (B.map lN ++ rest)) = some (w, (rin f R).reverse.map lN ++ (B.map lN ++ rest)) := by
  intro R
  induction R with
  | nil =>
    intro B x rest fu hR hfu hl
    obtain ⟨fu, rfl⟩ : ∃ q, fu = q + 1 := ⟨fu - 1, by omega⟩
    have hl : 0 + 1 + B.length + rest.length = 900 := hl
    rw [f_X8_insert_L5, if_pos (show nI ([] : List Nat).length ≤ 0 by decide)]
    have hs : tst (x :: (B.map lN ++ rest)) (nI 0) (lN f) = some (lN f :: (B.map lN ++ rest)) := by
      rw [tst_nI (by rw [List.length_cons]; omega) (by rw [List.length_cons, List.length_append, List.length_map]; omega)]; rfl
    show (tst (x :: (B.map lN ++ rest)) (nI 0) (lN f)).bind _ = _
    rw [hs]; rfl
  | cons y R ih =>
    intro B x rest fu hR hfu hl
    obtain ⟨fu, rfl⟩ : ∃ q, fu = q + 1 := ⟨fu - 1, by omega⟩
    rw [List.length_cons] at hfu hl
    have hy := hR y (List.mem_cons_self)
    have e1 : nI (y :: R).length - 1 = nI R.length := pk_sub (b := 1) (by rw [List.length_cons]; omega)
    have e2 : nI (y :: R).length + (-1) = nI R.length := by
      rw [← e1, Int32.sub_eq_add_neg]
    have sh : (y :: R).reverse.map lN = R.reverse.map lN ++ [lN y] := by rw [List.reverse_cons, List.map_append]; rfl
    have lR : (R.reverse.map lN).length = R.length := by rw [List.length_map, List.length_reverse]
    have lS : (R.reverse.map lN ++ [lN y]).length = R.length + 1 := by rw [List.length_append, lR]; rfl
    have g1 : tld (R.reverse.map lN ++ [lN y] ++ x :: (B.map lN ++ rest)) (nI R.length) = some (lN y) := by
      rw [tld_nI (by omega), List.append_assoc]
      have := get_mid (lN y) (x :: (B.map lN ++ rest)) (R.reverse.map lN)
      rw [lR] at this
      exact this
    have s1 : ∀ v, tst (R.reverse.map lN ++ [lN y] ++ x :: (B.map lN ++ rest)) (nI (y :: R).length) v = some (R.reverse.map lN ++ [lN y] ++ v :: (B.map lN ++ rest)) := by
      intro v
      have := set_mid v x (B.map lN ++ rest) (R.reverse.map lN ++ [lN y])
      rw [lS] at this
      rw [tst_nI (by rw [List.length_append, lS]; simp) (by rw [List.length_append, lS, List.length_cons, List.length_append, List.length_map]; omega), List.length_cons, this]
    rw [f_X8_insert_L5, if_neg (show ¬ nI (y :: R).length ≤ 0 by rw [show (0 : Int32) = nI 0 from rfl, List.length_cons]; exact nI_ge (by omega) (by omega)), e1, e2, sh, g1, Option.bind_some]
    by_cases c : y ≤ f
    · rw [if_pos ((cmp_le hy hf).mpr c)]
      rw [s1, Option.bind_some, rin, if_pos c, List.reverse_cons, List.map_append, sh, List.append_assoc, List.append_assoc, List.append_assoc]; rfl
    · rw [if_neg (fun q => c ((cmp_le hy hf).mp q)), Option.bind_some, s1, Option.bind_some]
      have := ih (y :: B) (lN y) rest fu (fun z hz => hR z (List.mem_cons_of_mem _ hz)) (by omega) (by rw [List.length_cons]; omega)
      rw [List.append_assoc]
      show f_X8_insert_L5 (lN f) _ fu (nI R.length) (R.reverse.map lN ++ lN y :: (lN y :: (B.map lN ++ rest))) = _
      have this : f_X8_insert_L5 (lN f) _ fu (nI R.length) (R.reverse.map lN ++ lN y :: (lN y :: (B.map lN ++ rest))) = _ := this
      rw [this, rin, if_neg c, List.reverse_cons, List.map_append, List.append_assoc]; rfl
theorem M_insert {f : Nat} (hf : f < 2 ^ 62) {D : List Nat} (hD : ∀ y ∈ D, y < 2 ^ 62) {m_fn : List Int64} (h : pre 900 m_fn (D.reverse.map lN)) (hl : D.length < 900) : ∃ m_fn', f_X8_insert (lN f) (nI D.length) m_fn = some (nI (rin f D).length, m_fn') ∧ pre 900 m_fn' ((rin f D).reverse.map lN) := by
  obtain ⟨hlen, tail, htail⟩ := h
  have lD : (D.reverse.map lN).length = D.length := by rw [List.length_map, List.length_reverse]
  match tail, htail with
  | [], htail =>
    rw [List.append_nil] at htail
    rw [← htail, lD] at hlen
    omega
  | x :: rest, htail =>
    have hl2 : D.length + 1 + 0 + rest.length = 900 := by
      have : (D.reverse.map lN ++ x :: rest).length = 900 := by rw [htail]; exact hlen
      rw [List.length_append, lD, List.length_cons] at this
      omega
    have := ins_loop hf (w := nI D.length + 1) D [] x rest tFU hD (by unfold tFU; omega) hl2
    have this : f_X8_insert_L5 (lN f) _ tFU (nI D.length) (D.reverse.map lN ++ x :: rest) = _ := this
    rw [htail] at this
    refine ⟨(rin f D).reverse.map lN ++ rest, ?_, ?_, rest, rfl⟩
    · unfold f_X8_insert
      rw [this, rin_len, nI_1]; rfl
    · rw [List.length_append, List.length_map, List.length_reverse, rin_len]; omega
/-! the reference's list -/
def rK (L : List (Nat × Nat × Nat)) (m_md : List Int64) (m_ms m_mr : List Int32) : Prop := pre 900 m_md (L.map fun q => lN q.2.2) ∧ pre 900 m_ms (L.map fun q => nI q.1) ∧ pre 900 m_mr (L.map fun q => nI q.2.1)
theorem rK.ld {L : List (Nat × Nat × Nat)} {m_md : List Int64} {m_ms m_mr : List Int32} (h : rK L m_md m_ms m_mr) {k : Nat} {q : Nat × Nat × Nat} (hk : L[k]? = some q) : tld m_md (nI k) = some (lN q.2.2) ∧ tld m_ms (nI k) = some (nI q.1) ∧ tld m_mr (nI k) = some (nI q.2.1) := by
  have hl := (List.getElem?_eq_some_iff.mp hk).1
  refine ⟨?_, ?_, ?_⟩
  · rw [h.1.ld (by decide) (by rw [List.length_map]; exact hl), List.getElem?_map, hk]; rfl
  · rw [h.2.1.ld (by decide) (by rw [List.length_map]; exact hl), List.getElem?_map, hk]; rfl
  · rw [h.2.2.ld (by decide) (by rw [List.length_map]; exact hl), List.getElem?_map, hk]; rfl
theorem M_make {L : List (Nat × Nat × Nat)} {m_md : List Int64} {m_ms m_mr : List Int32} (h : rK L m_md m_ms m_mr) (hl : L.length < 900) (s r f : Nat) : ∃ m_md' m_ms' m_mr', f_X8_make (nI s) (nI r) (lN f) (nI L.length) m_md m_ms m_mr = some (nI (L ++ [(s, r, f)]).length, m_md', m_ms', m_mr') ∧ rK (L ++ [(s, r, f)]) m_md' m_ms' m_mr' := by
  obtain ⟨a1, b1, c1⟩ := h.1.push (by decide) (by rw [List.length_map]; exact hl) (lN f)
  obtain ⟨a2, b2, c2⟩ := h.2.1.push (by decide) (by rw [List.length_map]; exact hl) (nI s)
  obtain ⟨a3, b3, c3⟩ := h.2.2.push (by decide) (by rw [List.length_map]; exact hl) (nI r)
  rw [List.length_map] at b1 b2 b3
  refine ⟨a1, a2, a3, ?_, ?_, ?_, ?_⟩
  · unfold f_X8_make
    rw [b1, Option.bind_some, b2, Option.bind_some, b3, Option.bind_some, nI_1, List.length_append]; rfl
  · rw [List.map_append]; exact c1
  · rw [List.map_append]; exact c2
  · rw [List.map_append]; exact c3
def okK (L : List (Nat × Nat × Nat)) : Prop := ∀ q ∈ L, q.1 < 32 ∧ q.2.1 < 3
theorem okK.app {L M : List (Nat × Nat × Nat)} (h : okK L) (h2 : okK M) : okK (L ++ M) := fun q hq => by
  rcases List.mem_append.mp hq with hq | hq
  · exact h q hq
  · exact h2 q hq
theorem jn2_ok {set root : Nat} {a : Nat × Nat × Nat} (hs : set < 32) (hr : root < 3) : ∀ P, okK (jn2 set root a P)
  | [] => fun q hq => nomatch hq
  | b :: R => by
    rw [jn2]
    split
    · intro q hq
      rcases List.mem_cons.mp hq with rfl | hq
      · exact ⟨hs, hr⟩
      · exact jn2_ok hs hr R q hq
    · exact jn2_ok hs hr R
theorem jn1_ok {set root low : Nat} {P : List (Nat × Nat × Nat)} (hs : set < 32) (hr : root < 3) : ∀ R, okK (jn1 set root low P R)
  | [] => fun q hq => nomatch hq
  | a :: R => by
    rw [jn1]
    refine okK.app ?_ (jn1_ok hs hr R)
    have n : okK [] := fun q hq => nomatch hq
    split
    · exact n
    · split
      · split
        · exact n
        · split
          · exact n
          · exact jn2_ok hs hr P
      · exact n
theorem s51_ok {size : Nat} {P : List (Nat × Nat × Nat)} : ∀ m set, set + m ≤ 32 → okK (s51 size P m set)
  | 0, _, _ => fun q hq => nomatch hq
  | m + 1, set, h => by
    rw [s51]
    refine okK.app ?_ (s51_ok m (set + 1) (by omega))
    split
    · exact okK.app (jn1_ok (by omega) (by decide) P) (jn1_ok (by omega) (by decide) P)
    · exact fun q hq => nomatch hq
section LJ
variable {P : List (Nat × Nat × Nat)} {set root : Nat}
theorem M_j2 (hP : okK P) (hs : set < 32) (hr : root < 3) {i : Nat} {a : Nat × Nat × Nat} (ha : P[i]? = some a) (hPl : P.length ≤ 900) {K : Int32 → List Int64 → List Int32 → List Int32 → Option (Int32 × List Int64 × List Int32 × List Int32)} : ∀ (m k fu : Nat) (L : List (Nat × Nat × Nat)) (m_md : List Int64) (m_ms m_mr : List Int32), k + m = P.length → m < fu → P <+: L → rK L m_md m_ms m_mr → (L ++ jn2 set root a (P.drop k)).length ≤ 900 → ∃ m_md' m_ms' m_mr', rK (L ++ jn2 set root a (P.drop k)) m_md' m_ms' m_mr' ∧ f_X8_join_L72 (nI set) (nI root) (nI P.length) (nI i) K fu (nI k) (nI L.length) m_md m_ms m_mr = K (nI (L ++ jn2 set root a (P.drop k)).length) m_md' m_ms' m_mr' := by
  have ha32 := (hP a (List.mem_of_getElem? ha)).1
  intro m
  induction m with
  | zero =>
    intro k fu L m_md m_ms m_mr hk hf hpre hK hl
    obtain ⟨fu, rfl⟩ : ∃ q, fu = q + 1 := ⟨fu - 1, by omega⟩
    have : k = P.length := by omega
    subst this
    rw [List.drop_length, jn2, List.append_nil] at *
    refine ⟨m_md, m_ms, m_mr, hK, ?_⟩
    rw [f_X8_join_L72, if_pos (nI_le (Nat.le_refl _) (by omega))]
  | succ m ih =>
    intro k fu L m_md m_ms m_mr hk hf hpre hK hl
    obtain ⟨fu, rfl⟩ : ∃ q, fu = q + 1 := ⟨fu - 1, by omega⟩
    have hkl : k < P.length := by omega
    have hb : P[k]? = some P[k] := List.getElem?_eq_getElem hkl
    have hb32 := (hP P[k] (List.getElem_mem hkl)).1
    obtain ⟨x1, x2, x3⟩ := hK.ld (pre_get hpre hb)
    obtain ⟨y1, y2, y3⟩ := hK.ld (pre_get hpre ha)
    have hle := andn_le set a.1
    rw [List.drop_eq_getElem_cons hkl, jn2] at hl ⊢
    rw [f_X8_join_L72, if_neg (nI_ge (by omega) (by omega)), x2, Option.bind_some, y2, Option.bind_some, n_andn]
    simp only [x1, y1, Option.bind_some, andL, fb_orL, nI_1]
    by_cases c : P[k].1 = andn set a.1
    · rw [if_pos c] at hl ⊢
      rw [if_pos (congrArg nI c)]
      have hl1 : L.length < 900 := by rw [List.length_append, List.length_cons] at hl; omega
      have e : ∀ z : Nat × Nat × Nat, L ++ z :: jn2 set root a (P.drop (k + 1)) = (L ++ [z]) ++ jn2 set root a (P.drop (k + 1)) := fun z => by rw [List.append_assoc]; rfl
      rw [e] at hl ⊢
      by_cases c2 : root = 1
      · rw [if_pos c2] at hl ⊢
        obtain ⟨d1, d2, d3, g1, g2⟩ := M_make hK hl1 set root (a.2.2 &&& P[k].2.2)
        rw [if_pos (show nI root = 1 by rw [c2]; rfl), g1, Option.bind_some]
        exact ih (k + 1) fu _ d1 d2 d3 (by omega) (by omega) (hpre.trans (List.prefix_append _ _)) g2 hl
      · rw [if_neg c2] at hl ⊢
        obtain ⟨d1, d2, d3, g1, g2⟩ := M_make hK hl1 set root (a.2.2 ||| P[k].2.2)
        rw [if_neg (show ¬ nI root = 1 from fun q => c2 ((nI_eq (b := 1) (by omega) (by decide)).mp q)), g1, Option.bind_some]
        exact ih (k + 1) fu _ d1 d2 d3 (by omega) (by omega) (hpre.trans (List.prefix_append _ _)) g2 hl
    · rw [if_neg c] at hl ⊢
      rw [if_neg (fun q => c ((nI_eq (by omega) (by omega)).mp q))]
      exact ih (k + 1) fu L m_md m_ms m_mr (by omega) (by omega) hpre hK hl
theorem M_j1 (hP : okK P) (hs : set < 32) (hr : root < 3) {low : Nat} (hPl : P.length ≤ 900) : ∀ (m k fu : Nat) (L : List (Nat × Nat × Nat)) (m_md : List Int64) (m_ms m_mr : List Int32), k + m = P.length → m < fu → P <+: L → rK L m_md m_ms m_mr → (L ++ jn1 set root low P (P.drop k)).length ≤ 900 → ∃ m_md' m_ms' m_mr', rK (L ++ jn1 set root low P (P.drop k)) m_md' m_ms' m_mr' ∧ f_X8_join_L11 (nI set) (nI root) (nI P.length) (nI low) (fun k39 k40 k41 k42 => some (k39, k40, k41, k42)) fu (nI k) (nI L.length) m_md m_ms m_mr = some (nI (L ++ jn1 set root low P (P.drop k)).length, m_md', m_ms', m_mr') := by
  intro m
  induction m with
  | zero =>
    intro k fu L m_md m_ms m_mr hk hf hpre hK hl
    obtain ⟨fu, rfl⟩ : ∃ q, fu = q + 1 := ⟨fu - 1, by omega⟩
    have : k = P.length := by omega
    subst this
    rw [List.drop_length, jn1, List.append_nil] at *
    refine ⟨m_md, m_ms, m_mr, hK, ?_⟩
    rw [f_X8_join_L11, if_pos (nI_le (Nat.le_refl _) (by omega))]
  | succ m ih =>
    intro k fu L m_md m_ms m_mr hk hf hpre hK hl
    obtain ⟨fu, rfl⟩ : ∃ q, fu = q + 1 := ⟨fu - 1, by omega⟩
    have hkl : k < P.length := by omega
    have hb : P[k]? = some P[k] := List.getElem?_eq_getElem hkl
    have hb32 := hP P[k] (List.getElem_mem hkl)
    obtain ⟨x1, x2, x3⟩ := hK.ld (pre_get hpre hb)
    have hle1 : P[k].1 &&& low ≤ P[k].1 := Nat.and_le_left
    have hle2 := andn_le P[k].1 set
    rw [List.drop_eq_getElem_cons hkl, jn1] at hl ⊢
    rw [f_X8_join_L11, if_neg (nI_ge (by omega) (by omega)), x2]
    simp only [Option.bind_some, fa_and, n_andn, x3, nI_1]
    by_cases c1 : P[k].1 &&& low = 0
    · rw [if_pos c1, List.nil_append] at hl ⊢
      rw [if_pos ((n_z (by omega)).mpr c1)]
      exact ih (k + 1) fu L m_md m_ms m_mr (by omega) (by omega) hpre hK hl
    rw [if_neg c1] at hl ⊢
    rw [if_neg (fun q => c1 ((n_z (by omega)).mp q))]
    by_cases c2 : andn P[k].1 set = 0
    · rw [if_pos c2] at hl ⊢
      rw [if_pos ((n_z (by omega)).mpr c2)]
      by_cases c3 : P[k].1 = set
      · rw [if_pos c3, List.nil_append] at hl ⊢
        rw [if_pos (congrArg nI c3)]
        exact ih (k + 1) fu L m_md m_ms m_mr (by omega) (by omega) hpre hK hl
      rw [if_neg c3] at hl ⊢
      rw [if_neg (fun q => c3 ((nI_eq (by omega) (by omega)).mp q))]
      by_cases c4 : P[k].2.1 = root
      · rw [if_pos c4, List.nil_append] at hl ⊢
        rw [if_pos (congrArg nI c4)]
        exact ih (k + 1) fu L m_md m_ms m_mr (by omega) (by omega) hpre hK hl
      rw [if_neg c4, ← List.append_assoc] at hl ⊢
      rw [if_neg (fun q => c4 ((nI_eq (by omega) (by omega)).mp q))]
      obtain ⟨d1, d2, d3, g1, g2⟩ := M_j2 hP hs hr hb hPl (K := fun k35 k36 k37 k38 => f_X8_join_L11 (nI set) (nI root) (nI P.length) (nI low) (fun k39 k40 k41 k42 => some (k39, k40, k41, k42)) fu (nI (k + 1)) k35 k36 k37 k38) P.length 0 tFU L m_md m_ms m_mr (by omega) (by unfold tFU; omega) hpre hK (by rw [List.drop_zero]; rw [List.length_append] at hl; omega)
      rw [List.drop_zero] at g1 g2
      rw [nI_0] at g2
      rw [g2]
      exact ih (k + 1) fu _ d1 d2 d3 (by omega) (by omega) (hpre.trans (List.prefix_append _ _)) g1 hl
    · rw [if_neg c2, List.nil_append] at hl ⊢
      rw [if_neg (fun q => c2 ((n_z (by omega)).mp q))]
      exact ih (k + 1) fu L m_md m_ms m_mr (by omega) (by omega) hpre hK hl
theorem M_join (hP : okK P) (hs : set < 32) (hs0 : set ≠ 0) (hr : root < 3) (hPl : P.length ≤ 900) {L : List (Nat × Nat × Nat)} {m_md : List Int64} {m_ms m_mr : List Int32} (hpre : P <+: L) (hK : rK L m_md m_ms m_mr) (hl : (L ++ jn1 set root (2 ^ lowv set) P P).length ≤ 900) : ∃ m_md' m_ms' m_mr', rK (L ++ jn1 set root (2 ^ lowv set) P P) m_md' m_ms' m_mr' ∧ f_X8_join (nI set) (nI root) (nI P.length) (nI L.length) m_md m_ms m_mr = some (nI (L ++ jn1 set root (2 ^ lowv set) P P).length, m_md', m_ms', m_mr') := by
  have h := M_j1 hP hs hr (low := 2 ^ lowv set) hPl P.length 0 tFU L m_md m_ms m_mr (by omega) (by unfold tFU; omega) hpre hK (by rw [List.drop_zero]; exact hl)
  rw [List.drop_zero, nI_0] at h
  unfold f_X8_join
  rw [l_low8 set hs hs0, Option.bind_some, n_sh1 _ (by have := lowv_lt set hs; omega)]
  exact h
end LJ
theorem M_l51 {size N : Nat} (hN : N ≤ 32) {P : List (Nat × Nat × Nat)} (hP : okK P) (hsz : size < 2 ^ 31) (hPl : P.length ≤ 900) {K : Int32 → List Int64 → List Int32 → List Int32 → Option (Int32 × Int32 × List Int64 × List Int64 × List Int32 × List Int32)} : ∀ (m set fu : Nat) (L : List (Nat × Nat × Nat)) (m_md : List Int64) (m_ms m_mr : List Int32), set + m = N → 1 ≤ set → m < fu → P <+: L → rK L m_md m_ms m_mr → (L ++ s51 size P m set).length ≤ 900 → ∃ m_md' m_ms' m_mr', rK (L ++ s51 size P m set) m_md' m_ms' m_mr' ∧ f_X8_listFunctions_L51 (nI size) (nI P.length) (nI N) K fu (nI set) (nI L.length) m_md m_ms m_mr = K (nI (L ++ s51 size P m set).length) m_md' m_ms' m_mr' := by
  intro m
  induction m with
  | zero =>
    intro set fu L m_md m_ms m_mr hk h1 hf hpre hK hl
    obtain ⟨fu, rfl⟩ : ∃ q, fu = q + 1 := ⟨fu - 1, by omega⟩
    have : set = N := by omega
    subst this
    rw [s51, List.append_nil] at *
    refine ⟨m_md, m_ms, m_mr, hK, ?_⟩
    rw [f_X8_listFunctions_L51, if_pos (nI_le (Nat.le_refl _) (by omega))]
  | succ m ih =>
    intro set fu L m_md m_ms m_mr hk h1 hf hpre hK hl
    obtain ⟨fu, rfl⟩ : ∃ q, fu = q + 1 := ⟨fu - 1, by omega⟩
    have hp5 := pop5_lt set (by omega)
    rw [s51] at hl ⊢
    rw [f_X8_listFunctions_L51, if_neg (nI_ge (by omega) (by omega)), l_bits8 set (by omega), Option.bind_some, nI_1]
    by_cases c : pop5 set = size
    · rw [if_pos c, ← List.append_assoc, ← List.append_assoc] at hl ⊢
      rw [if_pos (congrArg nI c)]
      have hl1 := hl
      rw [List.length_append] at hl1
      have hl2 : (L ++ jn1 set 1 (2 ^ lowv set) P P ++ jn1 set 2 (2 ^ lowv set) P P).length ≤ 900 := by omega
      have hl3 := hl2
      rw [List.length_append] at hl3
      obtain ⟨a1, a2, a3, g1, g2⟩ := M_join (root := 1) hP (set := set) (by omega) (by omega) (by decide) hPl hpre hK (by omega)
      have g2 : f_X8_join (nI set) 1 (nI P.length) (nI L.length) m_md m_ms m_mr = _ := g2
      obtain ⟨b1, b2, b3, k1, k2⟩ := M_join (root := 2) hP (set := set) (by omega) (by omega) (by decide) hPl (hpre.trans (List.prefix_append _ _)) g1 hl2
      have k2 : f_X8_join (nI set) 2 (nI P.length) _ a1 a2 a3 = _ := k2
      rw [g2, Option.bind_some, k2, Option.bind_some]
      exact ih (set + 1) fu _ b1 b2 b3 (by omega) (by omega) (by omega) ((hpre.trans (List.prefix_append _ _)).trans (List.prefix_append _ _)) k1 hl
    · rw [if_neg c, List.nil_append] at hl ⊢
      rw [if_neg (fun q => c ((nI_eq (by omega) hsz).mp q))]
      exact ih (set + 1) fu L m_md m_ms m_mr (by omega) (by omega) (by omega) hpre hK hl
theorem s36_pre {N : Nat} : ∀ (m size : Nat) (L : List (Nat × Nat × Nat)), L <+: s36 N m size L
  | 0, _, _ => List.prefix_refl _
  | m + 1, size, L => (List.prefix_append _ _).trans (s36_pre m (size + 1) _)
theorem M_l36 {n N : Nat} (hn : n ≤ 5) (hN : N ≤ 32) (hN1 : 1 ≤ N) {K : Int32 → List Int64 → List Int32 → List Int32 → Option (Int32 × Int32 × List Int64 × List Int64 × List Int32 × List Int32)} : ∀ (m size fu : Nat) (L : List (Nat × Nat × Nat)) (m_md : List Int64) (m_ms m_mr : List Int32), size + m = n + 1 → m < fu → okK L → rK L m_md m_ms m_mr → (s36 N m size L).length ≤ 900 → ∃ m_md' m_ms' m_mr', rK (s36 N m size L) m_md' m_ms' m_mr' ∧ f_X8_listFunctions_L36 (nI n) (nI N) K fu (nI size) (nI L.length) m_md m_ms m_mr = K (nI (s36 N m size L).length) m_md' m_ms' m_mr' := by
  intro m
  induction m with
  | zero =>
    intro size fu L m_md m_ms m_mr hk hf hP hK hl
    obtain ⟨fu, rfl⟩ : ∃ q, fu = q + 1 := ⟨fu - 1, by omega⟩
    refine ⟨m_md, m_ms, m_mr, hK, ?_⟩
    rw [f_X8_listFunctions_L36, if_pos (nI_lt (by omega) (by omega))]; rfl
  | succ m ih =>
    intro size fu L m_md m_ms m_mr hk hf hP hK hl
    obtain ⟨fu, rfl⟩ : ∃ q, fu = q + 1 := ⟨fu - 1, by omega⟩
    rw [s36] at hl ⊢
    have hl1 : (L ++ s51 size L (N - 1) 1).length ≤ 900 := Nat.le_trans (s36_pre m (size + 1) (L ++ s51 size L (N - 1) 1)).length_le hl
    have hl2 : L.length ≤ 900 := by rw [List.length_append] at hl1; omega
    obtain ⟨a1, a2, a3, g1, g2⟩ := M_l51 hN hP (by omega : size < 2 ^ 31) hl2 (K := fun k19 k20 k21 k22 => f_X8_listFunctions_L36 (nI n) (nI N) K fu (nI (size + 1)) k19 k20 k21 k22) (N - 1) 1 tFU L m_md m_ms m_mr (by omega) (by omega) (by unfold tFU; omega) (List.prefix_refl _) hK hl1
    have g2 : f_X8_listFunctions_L51 (nI size) (nI L.length) (nI N) _ tFU 1 (nI L.length) m_md m_ms m_mr = _ := g2
    rw [f_X8_listFunctions_L36, if_neg (nI_nlt (by omega) (by omega)), nI_1, g2]
    exact ih (size + 1) fu _ a1 a2 a3 (by omega) (by omega) (hP.app (s51_ok (N - 1) 1 (by omega))) g1 hl
theorem bas_ok (n : Nat) : ∀ (m v : Nat), v + m ≤ 5 → okK (bas n m v)
  | 0, _, _ => fun q hq => nomatch hq
  | m + 1, v, h => fun q hq => by
    rw [bas] at hq
    rcases List.mem_cons.mp hq with rfl | hq
    · exact ⟨show 2 ^ v < 2 ^ 5 from Nat.pow_lt_pow_right (by decide) (by omega), Nat.zero_lt_succ 2⟩
    · exact bas_ok n m (v + 1) (by omega) q hq
theorem bas_len (n : Nat) : ∀ (m v : Nat), (bas n m v).length = m
  | 0, _ => rfl
  | m + 1, v => by rw [bas, List.length_cons, bas_len n m (v + 1)]
theorem M_l7 {n : Nat} (hn : n ≤ 5) {K : Int32 → List Int64 → List Int32 → List Int32 → Option (Int32 × Int32 × List Int64 × List Int64 × List Int32 × List Int32)} : ∀ (m v fu : Nat) (L : List (Nat × Nat × Nat)) (m_md : List Int64) (m_ms m_mr : List Int32), v + m = n → m < fu → rK L m_md m_ms m_mr → (L ++ bas n m v).length ≤ 900 → ∃ m_md' m_ms' m_mr', rK (L ++ bas n m v) m_md' m_ms' m_mr' ∧ f_X8_listFunctions_L7 (nI n) (nI (pts n)) K fu (nI v) (nI L.length) m_md m_ms m_mr = K (nI (L ++ bas n m v).length) m_md' m_ms' m_mr' := by
  intro m
  induction m with
  | zero =>
    intro v fu L m_md m_ms m_mr hk hf hK hl
    obtain ⟨fu, rfl⟩ : ∃ q, fu = q + 1 := ⟨fu - 1, by omega⟩
    have : v = n := by omega
    subst this
    rw [bas, List.append_nil] at *
    refine ⟨m_md, m_ms, m_mr, hK, ?_⟩
    rw [f_X8_listFunctions_L7, if_pos (nI_le (Nat.le_refl _) (by omega))]
  | succ m ih =>
    intro v fu L m_md m_ms m_mr hk hf hK hl
    obtain ⟨fu, rfl⟩ : ∃ q, fu = q + 1 := ⟨fu - 1, by omega⟩
    rw [bas] at hl ⊢
    have e : L ++ (2 ^ v, 0, vt n v) :: bas n m (v + 1) = (L ++ [(2 ^ v, 0, vt n v)]) ++ bas n m (v + 1) := by rw [List.append_assoc]; rfl
    have hl1 : L.length < 900 := by rw [List.length_append, List.length_cons] at hl; omega
    rw [e] at hl ⊢
    obtain ⟨a1, a2, a3, g1, g2⟩ := M_make hK hl1 (2 ^ v) 0 (vt n v)
    have g1 : f_X8_make (nI (2 ^ v)) 0 (lN (vt n v)) (nI L.length) m_md m_ms m_mr = _ := g1
    rw [f_X8_listFunctions_L7, if_neg (nI_ge (by omega) (by omega)), vt_M n (by omega) v (by omega), Option.bind_some, n_sh1 v (by omega), g1, Option.bind_some, nI_1]
    exact ih (v + 1) fu _ a1 a2 a3 (by omega) (by omega) g2 hl
theorem M_l116 {L : List (Nat × Nat × Nat)} {m_md : List Int64} {m_ms m_mr : List Int32} (hK : rK L m_md m_ms m_mr) (hL : ∀ q ∈ L, q.2.2 < 2 ^ 62) {K : Int32 → List Int64 → Option (Int32 × Int32 × List Int64 × List Int64 × List Int32 × List Int32)} : ∀ (m k fu : Nat) (D : List Nat) (m_fn : List Int64), k + m = L.length → m < fu → (∀ y ∈ D, y < 2 ^ 62) → D.length + m ≤ 900 → pre 900 m_fn (D.reverse.map lN) → ∃ m_fn', pre 900 m_fn' ((rfold D ((L.drop k).map fun q => q.2.2)).reverse.map lN) ∧ f_X8_listFunctions_L116 (nI L.length) m_md K fu (nI k) (nI D.length) m_fn = K (nI (rfold D ((L.drop k).map fun q => q.2.2)).length) m_fn' := by
  have hl9 : L.length ≤ 900 := by have := hK.1.le; rw [List.length_map] at this; exact this
  intro m
  induction m with
  | zero =>
    intro k fu D m_fn hk hf hD hl hp
    obtain ⟨fu, rfl⟩ : ∃ q, fu = q + 1 := ⟨fu - 1, by omega⟩
    have : k = L.length := by omega
    subst this
    rw [List.drop_length]
    refine ⟨m_fn, hp, ?_⟩
    rw [f_X8_listFunctions_L116, if_pos (nI_le (Nat.le_refl _) (by omega))]; rfl
  | succ m ih =>
    intro k fu D m_fn hk hf hD hl hp
    obtain ⟨fu, rfl⟩ : ∃ q, fu = q + 1 := ⟨fu - 1, by omega⟩
    have hkl : k < L.length := by omega
    have hb : L[k]? = some L[k] := List.getElem?_eq_getElem hkl
    have hb62 := hL L[k] (List.getElem_mem hkl)
    obtain ⟨x1, -, -⟩ := hK.ld hb
    obtain ⟨m_fn', g1, g2⟩ := M_insert hb62 hD hp (by omega)
    rw [List.drop_eq_getElem_cons hkl, List.map_cons, rfold]
    rw [f_X8_listFunctions_L116, if_neg (nI_ge (by omega) (by omega)), x1, Option.bind_some, g1, Option.bind_some, nI_1]
    refine ih (k + 1) fu _ m_fn' (by omega) (by omega) (fun y hy => ?_) (by rw [rin_len]; omega) g2
    rcases List.mem_cons.mp ((rin_perm _ D).mem_iff.mp hy) with rfl | hy
    · exact hb62
    · exact hD y hy
theorem k_f : ∀ n, n < 6 → 1 ≤ n → msort (fsN n) = FL n := by
  intro n hn h1
  match n, hn, h1 with
  | 1, _, _ => exact eqO_ok k_f1
  | 2, _, _ => exact eqO_ok k_f2
  | 3, _, _ => exact eqO_ok k_f3
  | 4, _, _ => exact eqO_ok k_f4
  | 5, _, _ => exact eqO_ok k_f5
def rF (n : Nat) (m_fu : Int32) (m_fn m_md : List Int64) (m_ms m_mr : List Int32) : Prop := m_fu = nI (FL n).length ∧ pre 900 m_fn ((FL n).map lN) ∧ m_md.length = 900 ∧ m_ms.length = 900 ∧ m_mr.length = 900
theorem p_list {n : Nat} (hn0 : 1 ≤ n) (hn : n ≤ 5) {m_fn m_md : List Int64} {m_ms m_mr : List Int32} (l1 : m_fn.length = 900) (l2 : m_md.length = 900) (l3 : m_ms.length = 900) (l4 : m_mr.length = 900) (m_fu m_ke : Int32) : ∃ (m_fu' m_ke' : Int32) (m_fn' m_md' : List Int64) (m_ms' m_mr' : List Int32), f_X8_listFunctions (nI n) (nI (pts n)) m_fu m_ke m_fn m_md m_ms m_mr = some (m_fu', m_ke', m_fn', m_md', m_ms', m_mr') ∧ rF n m_fu' m_fn' m_md' m_ms' m_mr' := by
  have h32 := pts_32 hn
  have hp0 := pts_pos n
  have hperm : (FL n).Perm (fsN n) := by rw [← k_f n (by omega) hn0]; exact msort_perm _
  have hlenF : (FL n).length ≤ 839 := Nat.le_of_ble_eq_true (k_lenF n (by omega) hn0)
  have hlen : (mk n).length + 2 = (FL n).length := by
    rw [hperm.length_eq]
    unfold fsN
    rw [List.length_cons, List.length_cons, List.length_map]
  have hbig : ∀ y ∈ fsN n, y < 2 ^ 62 := fun y hy => by
    have := List.all_eq_true.mp (k_bigF n (by omega) hn0) y (hperm.mem_iff.mpr hy)
    have := Nat.le_of_ble_eq_true this
    omega
  have hmk : (s36 (pts n) (n - 1) 2 (bas n n 0)).length + 2 = (FL n).length := hlen
  obtain ⟨a1, a2, a3, r1, g1⟩ := M_l7 hn (K := fun k6 k7 k8 k9 => f_X8_listFunctions_L36 (nI n) (nI (pts n)) (fun k23 k24 k25 k26 => (f_X8_insert 0 0 m_fn).bind fun r27 => (f_X8_insert (f_X8_all (nI (pts n))) (r27.1) (r27.2)).bind fun r29 => f_X8_listFunctions_L116 k23 k24 (fun k36 k37 => some (k36, k23, k37, k24, k25, k26)) tFU 0 (r29.1) (r29.2)) tFU 2 k6 k7 k8 k9) n 0 tFU [] m_md m_ms m_mr (by omega) (by unfold tFU; omega) ⟨pre.nil l2, pre.nil l3, pre.nil l4⟩ (by rw [List.nil_append, bas_len]; omega)
  rw [List.nil_append] at r1 g1
  obtain ⟨b1, b2, b3, r2, g2⟩ := M_l36 hn h32 hp0 (K := fun k23 k24 k25 k26 => (f_X8_insert 0 0 m_fn).bind fun r27 => (f_X8_insert (f_X8_all (nI (pts n))) (r27.1) (r27.2)).bind fun r29 => f_X8_listFunctions_L116 k23 k24 (fun k36 k37 => some (k36, k23, k37, k24, k25, k26)) tFU 0 (r29.1) (r29.2)) (n - 1) 2 tFU (bas n n 0) a1 a2 a3 (by omega) (by unfold tFU; omega) (bas_ok n n 0 (by omega)) r1 (by omega)
  have hz : (0 : Nat) < 2 ^ 62 := by decide
  have hall : tabs n - 1 < 2 ^ 62 := by have := tabs_le hn; omega
  obtain ⟨c1, i1, i2⟩ := M_insert hz (D := []) (fun y hy => (nomatch hy)) (pre.nil l1) (by decide)
  have i1 : f_X8_insert 0 0 m_fn = _ := i1
  obtain ⟨c2, j1, j2⟩ := M_insert hall (D := rin 0 []) (fun y hy => by rcases List.mem_singleton.mp hy with rfl; exact hz) i2 (by decide)
  obtain ⟨c3, r3, g3⟩ := M_l116 r2 (fun q hq => hbig _ (List.mem_cons_of_mem _ (List.mem_cons_of_mem _ (List.mem_map.mpr ⟨q, hq, rfl⟩)))) (K := fun k36 k37 => some (k36, nI (s36 (pts n) (n - 1) 2 (bas n n 0)).length, k37, b1, b2, b3)) (s36 (pts n) (n - 1) 2 (bas n n 0)).length 0 tFU (rin (tabs n - 1) (rin 0 [])) c2 (by omega) (by unfold tFU; omega) (fun y hy => by
    rcases List.mem_cons.mp ((rin_perm _ _).mem_iff.mp hy) with rfl | hy
    · exact hall
    · rcases List.mem_singleton.mp hy with rfl; exact hz) (by rw [rin_len, rin_len]; show 0 + 1 + 1 + _ ≤ _; omega) j2
  rw [List.drop_zero] at r3 g3
  have hfin : (rfold (rin (tabs n - 1) (rin 0 [])) ((mk n).map fun q => q.2.2)).reverse = FL n := by
    have e : rfold (rin (tabs n - 1) (rin 0 [])) ((mk n).map fun q => q.2.2) = rfold [] (fsN n) := rfl
    rw [e]
    refine srt_eq ?_ (rfold_rev _) (srtB_ok (k_srtF n (by omega) hn0))
    refine (List.reverse_perm _).trans (((rfold_perm (fsN n) [])).trans ?_)
    rw [List.append_nil]
    exact hperm.symm
  have hfin : (rfold (rin (tabs n - 1) (rin 0 [])) ((s36 (pts n) (n - 1) 2 (bas n n 0)).map fun q => q.2.2)).reverse = FL n := hfin
  refine ⟨nI (FL n).length, nI (s36 (pts n) (n - 1) 2 (bas n n 0)).length, c3, b1, b2, b3, ?_, rfl, by rw [← hfin]; exact r3, r2.1.1, r2.2.1.1, r2.2.2.1⟩
  · unfold f_X8_listFunctions
    have g1 : f_X8_listFunctions_L7 (nI n) (nI (pts n)) _ tFU 0 0 m_md m_ms m_mr = _ := g1
    have g2 : f_X8_listFunctions_L36 (nI n) (nI (pts n)) _ tFU 2 (nI (bas n n 0).length) a1 a2 a3 = _ := g2
    have g3 : f_X8_listFunctions_L116 (nI (s36 (pts n) (n - 1) 2 (bas n n 0)).length) b1 _ tFU 0 _ c2 = _ := g3
    rw [g1, g2, i1, Option.bind_some, n_allM hn, j1, Option.bind_some, g3, ← hfin, List.length_reverse]
