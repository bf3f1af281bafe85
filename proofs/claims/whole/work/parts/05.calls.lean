section TCALLS
variable {l : Launch} {E : tEn} {own : String} {cc : ByteArray} {nL : Nat} {ret : Option FieldType} {ini : Bool} {d : Nat} {Q : Option Value → tHp → Prop} {k n : Nat} {pc : Nat} {L : List (Nat × Value)} {st : List Value} {h : tHp}
def tokv (n : Nat) (v : Value) : Bool := match v with
  | .ref k => Nat.blt k n
  | _ => true
def tokc (n : Nat) (c : tC) : Bool := match c with
  | .inl o => o.2.all (tokv n)
  | _ => true
def tokH (h : tHp) : Bool := h.all (tokc h.length)
def tokL (n : Nat) (L : List (Nat × Value)) : Bool := L.all (fun q => tokv n q.2)
def tokS (n : Nat) (st : List Value) : Bool := st.all (tokv n)
theorem tv_pre {ads ads' : List Nat} (hp : ads <+: ads') {v : Value} (hv : tokv ads.length v = true) : tv E ads' v = tv E ads v := by
  cases v with
  | ref k =>
    have hk : k < ads.length := Nat.le_of_ble_eq_true hv
    obtain ⟨t, rfl⟩ := hp
    show Value.ref (tad E (ads ++ t) k) = Value.ref (tad E ads k)
    unfold tad
    rw [List.getElem?_append_left hk]
  | _ => rfl
theorem tS_pre {ads ads' : List Nat} (hp : ads <+: ads') {vs : List Value} (hv : tokS ads.length vs = true) : vs.map (tv E ads') = vs.map (tv E ads) :=
  List.map_congr_left fun v h9 => tv_pre hp (List.all_eq_true.mp hv v h9)
theorem tLm_pre {ads ads' : List Nat} (hp : ads <+: ads') {L : List (Nat × Value)} (hv : tokL ads.length L = true) : tLm E ads' L = tLm E ads L :=
  List.map_congr_left fun v h9 => by rw [tv_pre hp (List.all_eq_true.mp hv v h9)]
theorem tce_pre {ads ads' : List Nat} (hp : ads <+: ads') {c : tC} (hv : tokc ads.length c = true) : tce E ads' c = tce E ads c := by
  rcases c with o | c | c | c
  · show Sum.inr (o.1, o.2.map (tv E ads')) = Sum.inr (o.1, o.2.map (tv E ads))
    rw [tS_pre hp hv]
  · rfl
  · rfl
  · rfl
theorem tw_push {ads : List Nat} {q : Nat} {c : tC} (hl : ads.length = h.length) (hok : tokH h = true) : tw E (ads ++ [q]) (h ++ [c]) = tw E ads h ++ [(q, tce E (ads ++ [q]) c)] := by
  unfold tw
  rw [List.zipWith_append hl]
  congr 1
  apply List.ext_getElem?
  intro i
  rw [List.getElem?_zipWith, List.getElem?_zipWith]
  cases ha : ads[i]? with
  | none => rfl
  | some a =>
    cases hc : h[i]? with
    | none => rfl
    | some c' =>
      have := List.all_eq_true.mp hok c' (List.mem_of_getElem? hc)
      simp only [tce_pre (E := E) (List.prefix_append ads [q]) (by rw [hl]; exact this)]
theorem tad_push {ads : List Nat} {q a : Nat} (ha : ads.length = a) : tad E (ads ++ [q]) a = q := by
  unfold tad
  rw [← ha, List.getElem?_concat_length]
/-- what the pool says of a class that is made -/
def tFN (own : String) (idx ci N : Nat) (fs : List Value) : Prop := ∃ (C : String) (T : u_T) (ty0 : Nat → FieldType), vwCl[ci]? = some (C, T, N) ∧ (∀ w ∈ u_ws C T N, w ∈ tTB) ∧ (∀ k, k < N → parseFieldDescriptor (T k).2.2.1 = some (ty0 k)) ∧
  (Cond.classLink own idx C ∈ lw_tbl ∧ Cond.instantiable C N ∈ lw_tbl ∧ Cond.initialized C ∈ lw_tbl) ∧ (∀ j, j < N → defaultValue (ty0 j) = vp_V fs j) ∧ ∀ (E : tEn) (ads : List Nat), fs.map (tv E ads) = fs
theorem g_new {idx ci N a k' n' : Nat} {fs : List Value} {q : Nat} {h' : tHp} (hf : tFN own idx ci N fs) (hd : decode cc pc = .ok (.new idx, 3)) (hq : pc + 3 = q) (hok : (tokH h && (tokL h.length L && tokS h.length st)) = true) (hh : h ++ [.inl (ci, fs)] = h') (ha : h.length = a) (hk : k' + 1 = k) (hn : n' + N = n)
    (kk : tG l E own cc nL ret ini d Q k' n' q L (.ref a :: st) h') : tG l E own cc nL ret ini d Q k n pc L st h := by
  subst hq; subst hh; subst hk; subst hn
  intro p e R s m args below meth c A ads0 X ads H locs cells slots ls h1 h2 h3 h4 h5 h6
  obtain ⟨C, T, ty0, e1, e2, e3, ⟨e4, e5, e6⟩, e7, e8⟩ := hf
  rw [Bool.and_eq_true, Bool.and_eq_true] at hok
  obtain ⟨o1, o2, o3⟩ := hok
  have hts := X.2.2.2.2.2.2.2.2.2.1.hts args
  have hK := X.2.2.2.2.2.2.2.2.2.1.1
  refine va_new (D := E.1) X.1 X.2.1 hts e2 ty0 e3 X.2.2.2.2.2.2.1 (hts _ (tmem e4 rfl)) (hts _ (tmem e5 rfl)) (hts _ (tmem e6 rfl)) hK h4.2.1 h4.2.2 h5 X.2.2.2.2.2.2.2.2.2.2 e1 e7 (by omega) (by omega) hd (fun q9 H1 hP hD hS => ?_)
  have hpre : ads <+: ads ++ [q9] := List.prefix_append ads [q9]
  have ew : tw E ads h ++ [(q9, .inr (ci, fs))] = tw E (ads ++ [q9]) (h ++ [.inl (ci, fs)]) := by
    rw [tw_push h4.1 o1]
    show _ = _ ++ ([(q9, .inr (ci, fs.map (tv E (ads ++ [q9]))))] : va_W)
    rw [e8]
  rw [ew] at hP hD
  have K := kk p e R s m args below meth c A ads0 X (ads ++ [q9]) H1 locs (cells + 1) (slots + N) ls (by omega) (by omega) (h3.trans hpre) ⟨by rw [List.length_append, List.length_append, h4.1]; rfl, hP, hD⟩ hS (by rw [tLm_pre hpre (by rw [h4.1]; exact o2)]; exact h6)
  have e9 : (Value.ref a :: st).map (tv E (ads ++ [q9])) = .ref q9 :: st.map (tv E ads) := by
    rw [List.map_cons, tS_pre hpre (by rw [h4.1]; exact o3)]
    show Value.ref (tad E (ads ++ [q9]) a) :: _ = _
    rw [tad_push (h4.1.trans ha)]
  rw [e9] at K
  exact K
theorem t_arrEq {E : tEn} {s : State} {cA : ClassId} {t0 : Nat} {cB : ClassId} {ty : FieldType} {tys : List (ClassId × FieldType)} (hK : va_K E.1 vwCl (tys ++ [(cA, ty)]) s) (h0 : tys[t0]? = some (cB, ty)) (hty : ty = .int ∨ ty = .long ∨ ty = .boolean) : cA = cB := by
  have a1 := (hK.2 tys.length (cA, ty) (by rw [List.getElem?_concat_length])).2
  have a2 := (hK.2 t0 (cB, ty) (by rw [List.getElem?_append_left (List.getElem?_eq_some_iff.mp h0).1]; exact h0)).2
  rcases hty with rfl | rfl | rfl <;> exact Option.some.inj (Eq.trans (Eq.symm a1) a2)
theorem rep_getD {α : Type} (N j : Nat) (z : α) : (List.replicate N z).getD j z = z := by
  rw [List.getD_eq_getElem?_getD, List.getElem?_replicate]
  split <;> rfl
theorem g_newarrI {z : Int32} {N a k' n' : Nat} {q : Nat} {h' : tHp} (hd : decode cc pc = .ok (.newarray .int, 2)) (hq : pc + 2 = q) (hz : ¬ z < 0) (hN : z.toNatClampNeg = N) (hB : N * componentBytes .int ≤ 536870912) (hok : (tokH h && (tokL h.length L && tokS h.length st)) = true) (hh : h ++ [.inr (.inl (List.replicate N 0))] = h') (ha : h.length = a) (hk : k' + 1 = k) (hn : n' + N = n) (hw : Cond.arrayClass .int ∈ lw_tbl)
    (kk : tG l E own cc nL ret ini d Q k' n' q L (.ref a :: st) h') : tG l E own cc nL ret ini d Q k n pc L (.int z :: st) h := by
  subst hq; subst hh; subst hk; subst hn
  intro p e R s m args below meth c A ads0 X ads H locs cells slots ls h1 h2 h3 h4 h5 h6
  rw [Bool.and_eq_true, Bool.and_eq_true] at hok
  obtain ⟨o1, o2, o3⟩ := hok
  have hts := X.2.2.2.2.2.2.2.2.2.1.hts args
  have hK := X.2.2.2.2.2.2.2.2.2.1.1
  refine va_newa (D := E.1) (a0 := (N, .inl (fun j => (List.replicate N 0).getD j 0))) X.1 X.2.1 (atype := .int) (hts _ (tmem hw rfl)) (ty := .int) rfl hK h4.2.1 h4.2.2 h5 X.2.2.2.2.2.2.2.2.2.2 (fun cA => by rw [vp_cell_i]; congr 1; funext j; rw [rep_getD]; rfl) hz hN hB (by omega) (by omega) hd (fun q9 cA H1 hK1 hP hD hS => ?_)
  have ecA := t_arrEq (t0 := 0) hK1 rfl (Or.inl rfl)
  subst ecA
  have hpre : ads <+: ads ++ [q9] := List.prefix_append ads [q9]
  have ew : tw E ads h ++ [(q9, .inl (E.2.1.1, N, .inl (fun j => (List.replicate N 0).getD j 0)))] = tw E (ads ++ [q9]) (h ++ [.inr (.inl (List.replicate N 0))]) := by
    rw [tw_push h4.1 o1]
    show _ = _ ++ ([(q9, .inl (E.2.1.1, (List.replicate N (0 : Int32)).length, .inl (fun j => (List.replicate N 0).getD j 0)))] : va_W)
    rw [List.length_replicate]
  rw [ew] at hP hD
  have K := kk p e R s m args below meth c A ads0 X (ads ++ [q9]) H1 locs (cells + 1) (slots + N) ls (by omega) (by omega) (h3.trans hpre) ⟨by rw [List.length_append, List.length_append, h4.1]; rfl, hP, hD⟩ hS (by rw [tLm_pre hpre (by rw [h4.1]; exact o2)]; exact h6)
  have e9 : (Value.ref a :: st).map (tv E (ads ++ [q9])) = .ref q9 :: st.map (tv E ads) := by
    rw [List.map_cons, tS_pre hpre (by rw [h4.1]; exact o3)]
    show Value.ref (tad E (ads ++ [q9]) a) :: _ = _
    rw [tad_push (h4.1.trans ha)]
  rw [e9] at K
  exact K
theorem g_newarrJ {z : Int32} {N a k' n' : Nat} {q : Nat} {h' : tHp} (hd : decode cc pc = .ok (.newarray .long, 2)) (hq : pc + 2 = q) (hz : ¬ z < 0) (hN : z.toNatClampNeg = N) (hB : N * componentBytes .long ≤ 536870912) (hok : (tokH h && (tokL h.length L && tokS h.length st)) = true) (hh : h ++ [.inr (.inr (.inl (List.replicate N 0)))] = h') (ha : h.length = a) (hk : k' + 1 = k) (hn : n' + N = n) (hw : Cond.arrayClass .long ∈ lw_tbl)
    (kk : tG l E own cc nL ret ini d Q k' n' q L (.ref a :: st) h') : tG l E own cc nL ret ini d Q k n pc L (.int z :: st) h := by
  subst hq; subst hh; subst hk; subst hn
  intro p e R s m args below meth c A ads0 X ads H locs cells slots ls h1 h2 h3 h4 h5 h6
  rw [Bool.and_eq_true, Bool.and_eq_true] at hok
  obtain ⟨o1, o2, o3⟩ := hok
  have hts := X.2.2.2.2.2.2.2.2.2.1.hts args
  have hK := X.2.2.2.2.2.2.2.2.2.1.1
  refine va_newa (D := E.1) (a0 := (N, .inr (.inl (fun j => (List.replicate N 0).getD j 0)))) X.1 X.2.1 (atype := .long) (hts _ (tmem hw rfl)) (ty := .long) rfl hK h4.2.1 h4.2.2 h5 X.2.2.2.2.2.2.2.2.2.2 (fun cA => by rw [vp_cell_l]; congr 1; funext j; rw [rep_getD]; rfl) hz hN hB (by omega) (by omega) hd (fun q9 cA H1 hK1 hP hD hS => ?_)
  have ecA := t_arrEq (t0 := 1) hK1 rfl (Or.inr (Or.inl rfl))
  subst ecA
  have hpre : ads <+: ads ++ [q9] := List.prefix_append ads [q9]
  have ew : tw E ads h ++ [(q9, .inl (E.2.1.2.1, N, .inr (.inl (fun j => (List.replicate N 0).getD j 0))))] = tw E (ads ++ [q9]) (h ++ [.inr (.inr (.inl (List.replicate N 0)))]) := by
    rw [tw_push h4.1 o1]
    show _ = _ ++ ([(q9, .inl (E.2.1.2.1, (List.replicate N (0 : Int64)).length, .inr (.inl (fun j => (List.replicate N 0).getD j 0))))] : va_W)
    rw [List.length_replicate]
  rw [ew] at hP hD
  have K := kk p e R s m args below meth c A ads0 X (ads ++ [q9]) H1 locs (cells + 1) (slots + N) ls (by omega) (by omega) (h3.trans hpre) ⟨by rw [List.length_append, List.length_append, h4.1]; rfl, hP, hD⟩ hS (by rw [tLm_pre hpre (by rw [h4.1]; exact o2)]; exact h6)
  have e9 : (Value.ref a :: st).map (tv E (ads ++ [q9])) = .ref q9 :: st.map (tv E ads) := by
    rw [List.map_cons, tS_pre hpre (by rw [h4.1]; exact o3)]
    show Value.ref (tad E (ads ++ [q9]) a) :: _ = _
    rw [tad_push (h4.1.trans ha)]
  rw [e9] at K
  exact K
theorem g_newarrZ {z : Int32} {N a k' n' : Nat} {q : Nat} {h' : tHp} (hd : decode cc pc = .ok (.newarray .boolean, 2)) (hq : pc + 2 = q) (hz : ¬ z < 0) (hN : z.toNatClampNeg = N) (hB : N * componentBytes .boolean ≤ 536870912) (hok : (tokH h && (tokL h.length L && tokS h.length st)) = true) (hh : h ++ [.inr (.inr (.inr (List.replicate N 0)))] = h') (ha : h.length = a) (hk : k' + 1 = k) (hn : n' + N = n) (hw : Cond.arrayClass .boolean ∈ lw_tbl)
    (kk : tG l E own cc nL ret ini d Q k' n' q L (.ref a :: st) h') : tG l E own cc nL ret ini d Q k n pc L (.int z :: st) h := by
  subst hq; subst hh; subst hk; subst hn
  intro p e R s m args below meth c A ads0 X ads H locs cells slots ls h1 h2 h3 h4 h5 h6
  rw [Bool.and_eq_true, Bool.and_eq_true] at hok
  obtain ⟨o1, o2, o3⟩ := hok
  have hts := X.2.2.2.2.2.2.2.2.2.1.hts args
  have hK := X.2.2.2.2.2.2.2.2.2.1.1
  refine va_newa (D := E.1) (a0 := (N, .inl (fun j => (List.replicate N 0).getD j 0))) X.1 X.2.1 (atype := .boolean) (hts _ (tmem hw rfl)) (ty := .boolean) rfl hK h4.2.1 h4.2.2 h5 X.2.2.2.2.2.2.2.2.2.2 (fun cA => by rw [vp_cell_i]; congr 1; funext j; rw [rep_getD]; rfl) hz hN hB (by omega) (by omega) hd (fun q9 cA H1 hK1 hP hD hS => ?_)
  have ecA := t_arrEq (t0 := 2) hK1 rfl (Or.inr (Or.inr rfl))
  subst ecA
  have hpre : ads <+: ads ++ [q9] := List.prefix_append ads [q9]
  have ew : tw E ads h ++ [(q9, .inl (E.2.1.2.2, N, .inl (fun j => (List.replicate N 0).getD j 0)))] = tw E (ads ++ [q9]) (h ++ [.inr (.inr (.inr (List.replicate N 0)))]) := by
    rw [tw_push h4.1 o1]
    show _ = _ ++ ([(q9, .inl (E.2.1.2.2, (List.replicate N (0 : Int32)).length, .inl (fun j => (List.replicate N 0).getD j 0)))] : va_W)
    rw [List.length_replicate]
  rw [ew] at hP hD
  have K := kk p e R s m args below meth c A ads0 X (ads ++ [q9]) H1 locs (cells + 1) (slots + N) ls (by omega) (by omega) (h3.trans hpre) ⟨by rw [List.length_append, List.length_append, h4.1]; rfl, hP, hD⟩ hS (by rw [tLm_pre hpre (by rw [h4.1]; exact o2)]; exact h6)
  have e9 : (Value.ref a :: st).map (tv E (ads ++ [q9])) = .ref q9 :: st.map (tv E ads) := by
    rw [List.map_cons, tS_pre hpre (by rw [h4.1]; exact o3)]
    show Value.ref (tad E (ads ++ [q9]) a) :: _ = _
    rw [tad_push (h4.1.trans ha)]
  rw [e9] at K
  exact K
theorem g_objInit {idx a : Nat} {q : Nat} (hl : Cond.methodLink own idx objectInit ∈ lw_tbl) (hi : Cond.instanceMethod objectInit ∈ lw_tbl) (hcd : Cond.code objectInit ⟨#[0xb1]⟩ 1 none ∈ lw_tbl) (hd : decode cc pc = .ok (.invokespecial idx, 3)) (hq : pc + 3 = q) (hdd : 1 ≤ d) (hst : (st.map fun v => v.category).sum ≤ 8)
    (kk : tG l E own cc nL ret ini d Q k n q L st h) : tG l E own cc nL ret ini d Q k n pc L (.ref a :: st) h := by
  subst hq
  intro p e R s m args below meth c A ads0 X ads H locs cells slots ls h1 h2 h3 h4 h5 h6
  have hts := X.2.2.2.2.2.2.2.2.2.1.hts args
  have K := kk p e R s m args below meth c A ads0 X ads H locs cells slots ls h1 h2 h3 h4 h5 h6
  have ec : ((st.map (tv E ads)).map fun v => v.category).sum ≤ 8 := by
    rw [List.map_map]
    have : (fun v => v.category) ∘ (tv E ads) = fun v : Value => v.category := funext fun v => tv_cat E ads v
    rw [this]; exact hst
  refine W.objInit X.1 X.2.1 X.2.2.2.2.2.2.1 (hts _ (tmem hl rfl)) (hts _ (tmem hi rfl)) (hts _ (tmem hcd rfl)) rfl (by rw [X.2.2.1]; exact h6.1) rfl hd (by rw [X.2.2.2.2.2.2.2.1]; exact hdd) ?_ K
  have e1 := X.2.2.2.2.2.2.2.2.1
  show 2 * 0 + _ + 12 ≤ _
  rw [e1]; omega
end TCALLS
