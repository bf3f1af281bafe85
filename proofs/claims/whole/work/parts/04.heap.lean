section THEAP
variable {l : Launch} {E : tEn} {own : String} {cc : ByteArray} {nL : Nat} {ret : Option FieldType} {ini : Bool} {d : Nat} {Q : Option Value → tHp → Prop} {k n : Nat} {pc : Nat} {L : List (Nat × Value)} {st : List Value} {h : tHp}
/-- what the pool says of a field: in class own, entry idx is field j of class number ci -/
def tFL (own : String) (idx ci j : Nat) : Prop := ∃ (C : String) (T : u_T) (N : Nat), vwCl[ci]? = some (C, T, N) ∧ j < N ∧ (∀ w ∈ u_ws C T N, w ∈ tTB) ∧
  (Cond.fieldLink own idx (T j).1 (T j).2.1 (T j).2.2.1 ∈ lw_tbl ∨ ∃ host : String, Cond.fieldLinkNest own idx (T j).1 (T j).2.1 (T j).2.2.1 host ∈ lw_tbl)
theorem g_get {idx ci j a : Nat} {fs : List Value} {v : Value} {q : Nat} (hf : tFL own idx ci j) (hd : decode cc pc = .ok (.getfield idx, 3)) (hq : pc + 3 = q) (hc : h[a]? = some (.inl (ci, fs))) (hv : fs[j]? = some v)
    (kk : tG l E own cc nL ret ini d Q k n q L (v :: st) h) : tG l E own cc nL ret ini d Q k n pc L (.ref a :: st) h := by
  subst hq
  intro p e R s m args below meth c A ads0 X ads H locs cells slots ls h1 h2 h3 h4 h5 h6
  obtain ⟨C, T, N, e1, e2, e3, e4⟩ := hf
  have hts := X.2.2.2.2.2.2.2.2.2.1.hts args
  have hK := X.2.2.2.2.2.2.2.2.2.1.1
  have hw := tw_get (E := E) h4.1 hc
  have hv2 : (fs.map (tv E ads))[j]? = some (tv E ads v) := by rw [List.getElem?_map, hv]; rfl
  have K := kk p e R s m args below meth c A ads0 X ads H locs cells slots ls h1 h2 h3 h4 h5 h6
  rcases e4 with e4 | ⟨host, e4⟩
  · exact va_get (D := E.1) X.1 X.2.1 hts e3 X.2.2.2.2.2.2.1 hK h4.2.1 a hw e1 j e2 (hts _ (tmem e4 rfl)) (fun _ h9 => h9) hv2 hd K
  · exact va_getN (D := E.1) X.1 X.2.1 hts e3 X.2.2.2.2.2.2.1 hK h4.2.1 a hw e1 j e2 (hts _ (tmem e4 rfl)) (fun _ h9 => h9) hv2 hd K
def tFP (own : String) (idx ci j : Nat) (ty : FieldType) (fin : Bool) : Prop := ∃ (C : String) (T : u_T) (N : Nat) (ty0 : Nat → FieldType), vwCl[ci]? = some (C, T, N) ∧ j < N ∧ (∀ w ∈ u_ws C T N, w ∈ tTB) ∧
  (∀ k, k < N → parseFieldDescriptor (T k).2.2.1 = some (ty0 k)) ∧ (∀ a, a < N → ∀ b, b < N → a ≠ b → (T a).2.1 ≠ (T b).2.1) ∧ (T j).2.2.2 = fin ∧ parseFieldDescriptor (T j).2.2.1 = some ty ∧
  ((Cond.fieldLink own idx (T j).1 (T j).2.1 (T j).2.2.1 ∈ lw_tbl ∧ (fin = true → (T j).1 = own)) ∨ (fin = false ∧ ∃ host : String, Cond.fieldLinkNest own idx (T j).1 (T j).2.1 (T j).2.2.1 host ∈ lw_tbl))
theorem tw_put {ads : List Nat} {a ci j : Nat} {fs : List Value} {v : Value} (hl : ads.length = h.length) (hc : h[a]? = some (.inl (ci, fs))) : (tw E ads h).set a (tad E ads a, .inr (ci, (fs.map (tv E ads)).set j (tv E ads v))) = tw E ads (h.set a (.inl (ci, fs.set j v))) := by
  rw [← tw_set hl (List.getElem?_eq_some_iff.mp hc).1]
  show _ = (tw E ads h).set a (tad E ads a, .inr (ci, (fs.set j v).map (tv E ads)))
  rw [List.map_set]
theorem tR_set {ads : List Nat} {A : Nat → Prop} {a : Nat} {c : tC} {H1 : Heap} (hl : ads.length = h.length) (ha : a < h.length) (hP : va_P E.1 vwCl ((tw E ads h).set a (tad E ads a, tce E ads c)) H1) (hD : va_D A ((tw E ads h).set a (tad E ads a, tce E ads c))) : tR E ads (h.set a c) A H1 := by
  rw [tw_set hl ha] at hP hD
  exact ⟨by rw [List.length_set]; exact hl, hP, hD⟩
theorem g_put {idx ci j a : Nat} {fs : List Value} {v : Value} {ty : FieldType} {q : Nat} {h' : tHp} (hf : tFP own idx ci j ty false) (hd : decode cc pc = .ok (.putfield idx, 3)) (hq : pc + 3 = q) (hc : h[a]? = some (.inl (ci, fs))) (hj : j < fs.length) (hn : ∀ ads, narrow ty (tv E ads v) = tv E ads v ∧ fits ty (tv E ads v) = true) (hh : h.set a (.inl (ci, fs.set j v)) = h')
    (kk : tG l E own cc nL ret ini d Q k n q L st h') : tG l E own cc nL ret ini d Q k n pc L (v :: .ref a :: st) h := by
  subst hq; subst hh
  intro p e R s m args below meth c A ads0 X ads H locs cells slots ls h1 h2 h3 h4 h5 h6
  obtain ⟨C, T, N, ty0, e1, e2, e3, e4, e5, e6, e7, e8⟩ := hf
  have hts := X.2.2.2.2.2.2.2.2.2.1.hts args
  have hK := X.2.2.2.2.2.2.2.2.2.1.1
  have hw := tw_get (E := E) h4.1 hc
  have K : ∀ (H1 : Heap) (locs1 : List Loc), va_P E.1 vwCl ((tw E ads h).set a (tad E ads a, .inr (ci, (fs.map (tv E ads)).set j (tv E ads v)))) H1 → va_D A ((tw E ads h).set a (tad E ads a, .inr (ci, (fs.map (tv E ads)).set j (tv E ads v)))) → va_S A s.heap H1 locs1 → W p l e R s m args below meth c H1 locs1 cells slots (MQ below (tQ E A ads0 Q) args s R.cells R.slots A) (F0 m (pc + 3) ls (st.map (tv E ads))) := by
    intro H1 locs1 hP hD hS
    rw [tw_put h4.1 hc] at hP hD
    exact kk p e R s m args below meth c A ads0 X ads H1 locs1 cells slots ls h1 h2 h3 ⟨by rw [List.length_set]; exact h4.1, hP, hD⟩ hS h6
  rcases e8 with ⟨e8, -⟩ | ⟨-, host, e8⟩
  · exact va_put (D := E.1) X.1 X.2.1 hts e3 ty0 e4 e5 X.2.2.2.2.2.2.1 hK h4.2.1 h4.2.2 h5 a hw e1 j e2 (hts _ (tmem e8 rfl)) (fun _ h9 => h9) e6 e7 (hn ads).1 (hn ads).2 (by rw [List.length_map]; exact hj) hd K
  · exact va_putN (D := E.1) X.1 X.2.1 hts e3 ty0 e4 e5 X.2.2.2.2.2.2.1 hK h4.2.1 h4.2.2 h5 a hw e1 j e2 (hts _ (tmem e8 rfl)) (fun _ h9 => h9) e6 e7 (hn ads).1 (hn ads).2 (by rw [List.length_map]; exact hj) hd K
theorem g_putF {idx ci j a : Nat} {fs : List Value} {v : Value} {ty : FieldType} {q : Nat} {h' : tHp} (hini : ini = true) (hf : tFP own idx ci j ty true) (hd : decode cc pc = .ok (.putfield idx, 3)) (hq : pc + 3 = q) (hc : h[a]? = some (.inl (ci, fs))) (hj : j < fs.length) (hn : ∀ ads, narrow ty (tv E ads v) = tv E ads v ∧ fits ty (tv E ads v) = true) (hh : h.set a (.inl (ci, fs.set j v)) = h')
    (kk : tG l E own cc nL ret ini d Q k n q L st h') : tG l E own cc nL ret ini d Q k n pc L (v :: .ref a :: st) h := by
  subst hq; subst hh
  intro p e R s m args below meth c A ads0 X ads H locs cells slots ls h1 h2 h3 h4 h5 h6
  obtain ⟨C, T, N, ty0, e1, e2, e3, e4, e5, e6, e7, e8⟩ := hf
  have hts := X.2.2.2.2.2.2.2.2.2.1.hts args
  have hK := X.2.2.2.2.2.2.2.2.2.1.1
  have hw := tw_get (E := E) h4.1 hc
  have K : ∀ (H1 : Heap) (locs1 : List Loc), va_P E.1 vwCl ((tw E ads h).set a (tad E ads a, .inr (ci, (fs.map (tv E ads)).set j (tv E ads v)))) H1 → va_D A ((tw E ads h).set a (tad E ads a, .inr (ci, (fs.map (tv E ads)).set j (tv E ads v)))) → va_S A s.heap H1 locs1 → W p l e R s m args below meth c H1 locs1 cells slots (MQ below (tQ E A ads0 Q) args s R.cells R.slots A) (F0 m (pc + 3) ls (st.map (tv E ads))) := by
    intro H1 locs1 hP hD hS
    rw [tw_put h4.1 hc] at hP hD
    exact kk p e R s m args below meth c A ads0 X ads H1 locs1 cells slots ls h1 h2 h3 ⟨by rw [List.length_set]; exact h4.1, hP, hD⟩ hS h6
  rcases e8 with ⟨e8, e9⟩ | ⟨e8, -⟩
  · exact va_putF (D := E.1) X.1 X.2.1 hts e3 ty0 e4 e5 X.2.2.2.2.2.2.1 hK h4.2.1 h4.2.2 h5 a hw e1 j e2 (hts _ (tmem e8 rfl)) (fun _ h9 => h9) e6 (X.2.2.2.2.2.1 hini) (e9 rfl) e7 (hn ads).1 (hn ads).2 (by rw [List.length_map]; exact hj) hd K
  · cases e8
/-! arrays -/
def tld {α : Type} (xs : List α) (i : Int32) : Option α := if i < 0 then none else xs[i.toNatClampNeg]?
def tst {α : Type} (xs : List α) (i : Int32) (v : α) : Option (List α) := if i < 0 then none else if xs.length ≤ i.toNatClampNeg then none else some (xs.set i.toNatClampNeg v)
theorem tld_some {α : Type} {xs : List α} {i : Int32} {v : α} (z : α) (h : tld xs i = some v) : vp_in i xs.length ∧ xs.getD i.toNatClampNeg z = v := by
  unfold tld at h
  split at h
  · cases h
  · next h0 =>
    obtain ⟨h1, h2⟩ := List.getElem?_eq_some_iff.mp h
    refine ⟨fun h9 => h9.elim h0 (fun h9 => by omega), ?_⟩
    rw [List.getD_eq_getElem?_getD, h]; rfl
theorem tst_some {α : Type} {xs ys : List α} {i : Int32} {v : α} (h : tst xs i v = some ys) : vp_in i xs.length ∧ ys = xs.set i.toNatClampNeg v ∧ i.toNatClampNeg < xs.length := by
  unfold tst at h
  split at h
  · cases h
  · next h0 =>
    split at h
    · cases h
    · next h1 => exact ⟨fun h9 => h9.elim h0 h1, (Option.some.inj h).symm, by omega⟩
theorem upd_set {xs : List Int32} {j : Nat} {v : Int32} (hj : j < xs.length) : upd (fun i => xs.getD i 0) j v = fun i => (xs.set j v).getD i 0 := by
  funext i
  unfold upd
  dsimp only
  rw [List.getD_eq_getElem?_getD, List.getD_eq_getElem?_getD]
  by_cases hij : i = j
  · subst hij; rw [if_pos rfl, List.getElem?_set_self hj]; rfl
  · rw [if_neg hij, List.getElem?_set_ne (fun q => hij q.symm)]
theorem updL_set {xs : List Int64} {j : Nat} {v : Int64} (hj : j < xs.length) : vp_updL (fun i => xs.getD i 0) j v = fun i => (xs.set j v).getD i 0 := by
  funext i
  unfold vp_updL
  dsimp only
  rw [List.getD_eq_getElem?_getD, List.getD_eq_getElem?_getD]
  by_cases hij : i = j
  · subst hij; rw [if_pos rfl, List.getElem?_set_self hj]; rfl
  · rw [if_neg hij, List.getElem?_set_ne (fun q => hij q.symm)]
theorem g_iaload {a : Nat} {xs : List Int32} {i v : Int32} {q : Nat} (hd : decode cc pc = .ok (.iaload, 1)) (hq : pc + 1 = q) (hc : h[a]? = some (.inr (.inl xs))) (hv : tld xs i = some v)
    (kk : tG l E own cc nL ret ini d Q k n q L (.int v :: st) h) : tG l E own cc nL ret ini d Q k n pc L (.int i :: .ref a :: st) h := by
  subst hq
  intro p e R s m args below meth c A ads0 X ads H locs cells slots ls h1 h2 h3 h4 h5 h6
  obtain ⟨hi, hv2⟩ := tld_some 0 hv
  have K := kk p e R s m args below meth c A ads0 X ads H locs cells slots ls h1 h2 h3 h4 h5 h6
  refine va_iald (D := E.1) X.1 X.2.1 X.2.2.2.2.2.2.2.2.2.1.1 h4.2.1 a 0 (tw_get (E := E) h4.1 hc) rfl hi hd ?_
  rw [hv2]; exact K
theorem g_laload {a : Nat} {xs : List Int64} {i : Int32} {v : Int64} {q : Nat} (hd : decode cc pc = .ok (.laload, 1)) (hq : pc + 1 = q) (hc : h[a]? = some (.inr (.inr (.inl xs)))) (hv : tld xs i = some v)
    (kk : tG l E own cc nL ret ini d Q k n q L (.long v :: st) h) : tG l E own cc nL ret ini d Q k n pc L (.int i :: .ref a :: st) h := by
  subst hq
  intro p e R s m args below meth c A ads0 X ads H locs cells slots ls h1 h2 h3 h4 h5 h6
  obtain ⟨hi, hv2⟩ := tld_some 0 hv
  have K := kk p e R s m args below meth c A ads0 X ads H locs cells slots ls h1 h2 h3 h4 h5 h6
  refine va_lald (D := E.1) X.1 X.2.1 X.2.2.2.2.2.2.2.2.2.1.1 h4.2.1 a 1 (tw_get (E := E) h4.1 hc) rfl hi hd ?_
  rw [hv2]; exact K
theorem g_baload {a : Nat} {xs : List Int32} {i v : Int32} {q : Nat} (hd : decode cc pc = .ok (.baload, 1)) (hq : pc + 1 = q) (hc : h[a]? = some (.inr (.inr (.inr xs)))) (hv : tld xs i = some v)
    (kk : tG l E own cc nL ret ini d Q k n q L (.int v :: st) h) : tG l E own cc nL ret ini d Q k n pc L (.int i :: .ref a :: st) h := by
  subst hq
  intro p e R s m args below meth c A ads0 X ads H locs cells slots ls h1 h2 h3 h4 h5 h6
  obtain ⟨hi, hv2⟩ := tld_some 0 hv
  have K := kk p e R s m args below meth c A ads0 X ads H locs cells slots ls h1 h2 h3 h4 h5 h6
  refine va_zald (D := E.1) X.1 X.2.1 X.2.2.2.2.2.2.2.2.2.1.1 h4.2.1 a 2 (tw_get (E := E) h4.1 hc) rfl hi hd ?_
  rw [hv2]; exact K
theorem g_iastore {a : Nat} {xs ys : List Int32} {i x : Int32} {q : Nat} {h' : tHp} (hd : decode cc pc = .ok (.iastore, 1)) (hq : pc + 1 = q) (hc : h[a]? = some (.inr (.inl xs))) (hv : tst xs i x = some ys) (hh : h.set a (.inr (.inl ys)) = h')
    (kk : tG l E own cc nL ret ini d Q k n q L st h') : tG l E own cc nL ret ini d Q k n pc L (.int x :: .int i :: .ref a :: st) h := by
  subst hq; subst hh
  intro p e R s m args below meth c A ads0 X ads H locs cells slots ls h1 h2 h3 h4 h5 h6
  obtain ⟨hi, rfl, hj⟩ := tst_some hv
  refine va_iast (D := E.1) X.1 X.2.1 X.2.2.2.2.2.2.2.2.2.1.1 h4.2.1 h4.2.2 h5 a 0 (tw_get (E := E) h4.1 hc) rfl hi hd (fun H1 locs1 hP hD hS => ?_)
  rw [upd_set hj, ← List.length_set (as := xs) (i := i.toNatClampNeg) (a := x)] at hP hD
  exact kk p e R s m args below meth c A ads0 X ads H1 locs1 cells slots ls h1 h2 h3 (tR_set (c := .inr (.inl (xs.set i.toNatClampNeg x))) h4.1 (List.getElem?_eq_some_iff.mp hc).1 hP hD) hS h6
theorem g_lastore {a : Nat} {xs ys : List Int64} {i : Int32} {x : Int64} {q : Nat} {h' : tHp} (hd : decode cc pc = .ok (.lastore, 1)) (hq : pc + 1 = q) (hc : h[a]? = some (.inr (.inr (.inl xs)))) (hv : tst xs i x = some ys) (hh : h.set a (.inr (.inr (.inl ys))) = h')
    (kk : tG l E own cc nL ret ini d Q k n q L st h') : tG l E own cc nL ret ini d Q k n pc L (.long x :: .int i :: .ref a :: st) h := by
  subst hq; subst hh
  intro p e R s m args below meth c A ads0 X ads H locs cells slots ls h1 h2 h3 h4 h5 h6
  obtain ⟨hi, rfl, hj⟩ := tst_some hv
  refine va_last (D := E.1) X.1 X.2.1 X.2.2.2.2.2.2.2.2.2.1.1 h4.2.1 h4.2.2 h5 a 1 (tw_get (E := E) h4.1 hc) rfl hi hd (fun H1 locs1 hP hD hS => ?_)
  rw [updL_set hj, ← List.length_set (as := xs) (i := i.toNatClampNeg) (a := x)] at hP hD
  exact kk p e R s m args below meth c A ads0 X ads H1 locs1 cells slots ls h1 h2 h3 (tR_set (c := .inr (.inr (.inl (xs.set i.toNatClampNeg x)))) h4.1 (List.getElem?_eq_some_iff.mp hc).1 hP hD) hS h6
theorem g_bastore {a : Nat} {xs ys : List Int32} {i x : Int32} {q : Nat} {h' : tHp} (hd : decode cc pc = .ok (.bastore, 1)) (hq : pc + 1 = q) (hc : h[a]? = some (.inr (.inr (.inr xs)))) (hv : tst xs i (vp_nar .boolean x) = some ys) (hh : h.set a (.inr (.inr (.inr ys))) = h')
    (kk : tG l E own cc nL ret ini d Q k n q L st h') : tG l E own cc nL ret ini d Q k n pc L (.int x :: .int i :: .ref a :: st) h := by
  subst hq; subst hh
  intro p e R s m args below meth c A ads0 X ads H locs cells slots ls h1 h2 h3 h4 h5 h6
  obtain ⟨hi, rfl, hj⟩ := tst_some hv
  refine va_zast (D := E.1) X.1 X.2.1 X.2.2.2.2.2.2.2.2.2.1.1 h4.2.1 h4.2.2 h5 a 2 (tw_get (E := E) h4.1 hc) rfl hi hd (fun H1 locs1 hP hD hS => ?_)
  rw [upd_set hj, ← List.length_set (as := xs) (i := i.toNatClampNeg) (a := vp_nar .boolean x)] at hP hD
  exact kk p e R s m args below meth c A ads0 X ads H1 locs1 cells slots ls h1 h2 h3 (tR_set (c := .inr (.inr (.inr (xs.set i.toNatClampNeg (vp_nar .boolean x))))) h4.1 (List.getElem?_eq_some_iff.mp hc).1 hP hD) hS h6
theorem g_alenI {a : Nat} {xs : List Int32} {v : Int32} {q : Nat} (hd : decode cc pc = .ok (.arraylength, 1)) (hq : pc + 1 = q) (hc : h[a]? = some (.inr (.inl xs))) (hv : Int32.ofNat xs.length = v)
    (kk : tG l E own cc nL ret ini d Q k n q L (.int v :: st) h) : tG l E own cc nL ret ini d Q k n pc L (.ref a :: st) h := by
  subst hq
  intro p e R s m args below meth c A ads0 X ads H locs cells slots ls h1 h2 h3 h4 h5 h6
  exact va_alen (D := E.1) X.1 X.2.1 X.2.2.2.2.2.2.2.2.2.1.1 h4.2.1 a 0 (tw_get (E := E) h4.1 hc) rfl hv hd (kk p e R s m args below meth c A ads0 X ads H locs cells slots ls h1 h2 h3 h4 h5 h6)
theorem g_alenJ {a : Nat} {xs : List Int64} {v : Int32} {q : Nat} (hd : decode cc pc = .ok (.arraylength, 1)) (hq : pc + 1 = q) (hc : h[a]? = some (.inr (.inr (.inl xs)))) (hv : Int32.ofNat xs.length = v)
    (kk : tG l E own cc nL ret ini d Q k n q L (.int v :: st) h) : tG l E own cc nL ret ini d Q k n pc L (.ref a :: st) h := by
  subst hq
  intro p e R s m args below meth c A ads0 X ads H locs cells slots ls h1 h2 h3 h4 h5 h6
  exact va_alen (D := E.1) X.1 X.2.1 X.2.2.2.2.2.2.2.2.2.1.1 h4.2.1 a 1 (tw_get (E := E) h4.1 hc) rfl hv hd (kk p e R s m args below meth c A ads0 X ads H locs cells slots ls h1 h2 h3 h4 h5 h6)
/-! the static arrays -/
def tSL (own : String) (idx : Nat) (C nm ds : String) : Prop := Cond.fieldLink own idx C nm ds ∈ lw_tbl ∨ ∃ host : String, Cond.fieldLinkNest own idx C nm ds host ∈ lw_tbl
theorem g_getsV {idx : Nat} {q : Nat} (hf : tSL own idx "ReadOnceRecognizer" "VARIABLE_TABLES" "[J") (hd : decode cc pc = .ok (.getstatic idx, 3)) (hq : pc + 3 = q)
    (kk : tG l E own cc nL ret ini d Q k n q L (.retAddr 0 :: st) h) : tG l E own cc nL ret ini d Q k n pc L st h := by
  subst hq
  intro p e R s m args below meth c A ads0 X ads H locs cells slots ls h1 h2 h3 h4 h5 h6
  have hts := X.2.2.2.2.2.2.2.2.2.1.hts args
  have K := kk p e R s m args below meth c A ads0 X ads H locs cells slots ls h1 h2 h3 h4 h5 h6
  have e9 : tv E ads (.retAddr 0) = .ref E.2.2.1 := rfl
  rw [List.map_cons, e9] at K
  have hZ := X.2.2.2.2.2.2.2.2.2.1.2.2.1.1
  rcases hf with hf | ⟨host, hf⟩
  · exact va_gets X.1 X.2.1 hZ h5 X.2.2.2.2.2.2.1 (hts _ (tmem hf rfl)) (fun _ h9 => h9) hd K
  · exact va_getsN X.1 X.2.1 hZ h5 X.2.2.2.2.2.2.1 (hts _ (tmem hf rfl)) (fun _ h9 => h9) hd K
theorem g_getsG {idx : Nat} {q : Nat} (hf : tSL own idx "ReadOnceRecognizer$Catalog" "GAPS" "[I") (hd : decode cc pc = .ok (.getstatic idx, 3)) (hq : pc + 3 = q)
    (kk : tG l E own cc nL ret ini d Q k n q L (.retAddr 1 :: st) h) : tG l E own cc nL ret ini d Q k n pc L st h := by
  subst hq
  intro p e R s m args below meth c A ads0 X ads H locs cells slots ls h1 h2 h3 h4 h5 h6
  have hts := X.2.2.2.2.2.2.2.2.2.1.hts args
  have K := kk p e R s m args below meth c A ads0 X ads H locs cells slots ls h1 h2 h3 h4 h5 h6
  have e9 : tv E ads (.retAddr 1) = .ref E.2.2.2 := rfl
  rw [List.map_cons, e9] at K
  have hZ := X.2.2.2.2.2.2.2.2.2.1.2.2.2.1
  rcases hf with hf | ⟨host, hf⟩
  · exact va_gets X.1 X.2.1 hZ h5 X.2.2.2.2.2.2.1 (hts _ (tmem hf rfl)) (fun _ h9 => h9) hd K
  · exact va_getsN X.1 X.2.1 hZ h5 X.2.2.2.2.2.2.1 (hts _ (tmem hf rfl)) (fun _ h9 => h9) hd K
theorem g_laloadV {i : Int32} {v : Int64} {q : Nat} (hd : decode cc pc = .ok (.laload, 1)) (hq : pc + 1 = q) (hv : tld tVT i = some v)
    (kk : tG l E own cc nL ret ini d Q k n q L (.long v :: st) h) : tG l E own cc nL ret ini d Q k n pc L (.int i :: .retAddr 0 :: st) h := by
  subst hq
  intro p e R s m args below meth c A ads0 X ads H locs cells slots ls h1 h2 h3 h4 h5 h6
  have K := kk p e R s m args below meth c A ads0 X ads H locs cells slots ls h1 h2 h3 h4 h5 h6
  have e9 : tv E ads (.retAddr 0) = .ref E.2.2.1 := rfl
  rw [List.map_cons, List.map_cons, e9]
  obtain ⟨hi, hv2⟩ := tld_some 0 hv
  exact va_tl X.1 X.2.1 X.2.2.2.2.2.2.2.2.2.1.2.2.1.2 h5 hi (by rw [hv2]; rfl) hd K
theorem g_ialoadG {i v : Int32} {q : Nat} (hd : decode cc pc = .ok (.iaload, 1)) (hq : pc + 1 = q) (hv : tld tGA i = some v)
    (kk : tG l E own cc nL ret ini d Q k n q L (.int v :: st) h) : tG l E own cc nL ret ini d Q k n pc L (.int i :: .retAddr 1 :: st) h := by
  subst hq
  intro p e R s m args below meth c A ads0 X ads H locs cells slots ls h1 h2 h3 h4 h5 h6
  have K := kk p e R s m args below meth c A ads0 X ads H locs cells slots ls h1 h2 h3 h4 h5 h6
  have e9 : tv E ads (.retAddr 1) = .ref E.2.2.2 := rfl
  rw [List.map_cons, List.map_cons, e9]
  obtain ⟨hi, hv2⟩ := tld_some 0 hv
  exact va_ti X.1 X.2.1 X.2.2.2.2.2.2.2.2.2.1.2.2.2.2 h5 hi (by rw [hv2]; rfl) hd K
theorem g_alenG {q : Nat} (hd : decode cc pc = .ok (.arraylength, 1)) (hq : pc + 1 = q)
    (kk : tG l E own cc nL ret ini d Q k n q L (.int 7 :: st) h) : tG l E own cc nL ret ini d Q k n pc L (.retAddr 1 :: st) h := by
  subst hq
  intro p e R s m args below meth c A ads0 X ads H locs cells slots ls h1 h2 h3 h4 h5 h6
  have K := kk p e R s m args below meth c A ads0 X ads H locs cells slots ls h1 h2 h3 h4 h5 h6
  have e9 : tv E ads (.retAddr 1) = .ref E.2.2.2 := rfl
  rw [List.map_cons, e9]
  exact va_tlen X.1 X.2.1 X.2.2.2.2.2.2.2.2.2.1.2.2.2.2 h5 rfl hd K
theorem g_astoreS {i j : Nat} {q : Nat} {L' : List (Nat × Value)} (hd : decode cc pc = .ok (.astore i, 2)) (hq : pc + 2 = q) (hi : i < nL) (hL : tls i (.retAddr j) L = L') (kk : tG l E own cc nL ret ini d Q k n q L' (st) h) : tG l E own cc nL ret ini d Q k n pc L (.retAddr j :: st) h := by
  subst hq; subst hL
  exact fun p e R s m args below meth c A ads0 X ads H locs cells slots ls h1 h2 h3 h4 h5 h6 => lv_astore (x := if j = 0 then E.2.2.1 else E.2.2.2) X.1 X.2.1 hd h6 hi rfl (fun ls9 h9 => kk p e R s m args below meth c A ads0 X ads H locs cells slots ls9 h1 h2 h3 h4 h5 (tls_has h9))
theorem g_astoreS_n {kf : Fin 4} {j : Nat} {q : Nat} {L' : List (Nat × Value)} (hd : decode cc pc = .ok (.astore_n kf, 1)) (hq : pc + 1 = q) (hi : kf.val < nL) (hL : tls kf.val (.retAddr j) L = L') (kk : tG l E own cc nL ret ini d Q k n q L' (st) h) : tG l E own cc nL ret ini d Q k n pc L (.retAddr j :: st) h := by
  subst hq; subst hL
  exact fun p e R s m args below meth c A ads0 X ads H locs cells slots ls h1 h2 h3 h4 h5 h6 => lv_astore_n (x := if j = 0 then E.2.2.1 else E.2.2.2) X.1 X.2.1 hd rfl h6 hi rfl (fun ls9 h9 => kk p e R s m args below meth c A ads0 X ads H locs cells slots ls9 h1 h2 h3 h4 h5 (tls_has h9))
theorem g_aloadS_n (j : Nat) {kf : Fin 4} {x : Nat} {q : Nat} (hd : decode cc pc = .ok (.aload_n kf, 1)) (hq : pc + 1 = q) (hl : L[j]? = some (kf.val, .retAddr x)) (kk : tG l E own cc nL ret ini d Q k n q L (.retAddr x :: st) h) : tG l E own cc nL ret ini d Q k n pc L (st) h := by
  subst hq
  exact fun p e R s m args below meth c A ads0 X ads H locs cells slots ls h1 h2 h3 h4 h5 h6 => lv_aload_n X.1 X.2.1 hd rfl (tLm_at h6 j hl) (kk p e R s m args below meth c A ads0 X ads H locs cells slots ls h1 h2 h3 h4 h5 h6)
end THEAP
