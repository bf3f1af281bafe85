section TCALL2
variable {l : Launch} {E : tEn} {own : String} {cc : ByteArray} {nL : Nat} {ret : Option FieldType} {ini : Bool} {d : Nat} {Q : Option Value → tHp → Prop} {k n : Nat} {pc : Nat} {L : List (Nat × Value)} {st : List Value} {h : tHp}
/-- what the tables say of a method that is called -/
def tM (y : MethodName) (cy : ByteArray) (maxL : Nat) (ry : Option FieldType) (na : Nat) : Prop := Cond.code y cy maxL ry ∈ lw_tbl ∧ (y.cls ≠ "java/lang/invoke/MethodHandle" ∧ y.cls ≠ "java/lang/invoke/VarHandle" ∧ (parseMethodDescriptor y.desc).map (fun d => d.parameters.length) = some na) ∧ Cond.initialized y.cls ∈ lw_tbl ∧ maxL ≤ 40
def tML (own : String) (idx : Nat) (y : MethodName) : Prop := Cond.methodLink own idx y ∈ lw_tbl ∨ ∃ host : String, Cond.methodLinkNest own idx y host ∈ lw_tbl
theorem tM_good {y : MethodName} {cy : ByteArray} {maxL : Nat} {ry : Option FieldType} {na : Nat} (h : tM y cy maxL ry na) : GoodIn tTB [Cond.code y cy maxL ry] := by
  intro w hw
  rcases List.mem_singleton.mp hw with rfl
  exact ⟨tmem h.1 rfl, Or.inl rfl⟩
theorem t_sumcat {ads : List Nat} {vs : List Value} (hst : (vs.map fun v => v.category).sum ≤ 8) : ((vs.map (tv E ads)).map fun v => v.category).sum ≤ 8 := by
  rw [List.map_map]
  have : (fun v => v.category) ∘ (tv E ads) = fun v : Value => v.category := funext fun v => tv_cat E ads v
  rw [this]; exact hst
theorem t_goon {p : Program} {e : Env} {R : Room} {s : State} {m : MethodId} {args a9 : Array Value} {below : List Frame} {meth : Method} {c : Code} {A : Nat → Prop} {ads0 ads : List Nat} {H : Heap} {locs : List Loc} {cells slots k' n' k2 n2 q : Nat} {ls : Array Slot} {g : JFrame} {r0 : Option Value} {h1 : tHp} {st1 : List Value}
    (X : tCx E own cc nL ret ini d p R s m meth c A) (b1 : cells + k ≤ R.cells) (b2 : slots + n ≤ R.slots) (b3 : ads0 <+: ads) (b4 : tR E ads h A H) (b5 : va_S A s.heap H locs) (b6 : lv_has ls nL (tLm E ads L))
    (hk : k2 + k' = k) (hn : n2 + n' = n) (hlen : h1.length = h.length ∨ (tokL h.length L && tokS h.length st) = true) (hst1 : r0.toList ++ st = st1) (hg : { g with pc := g.pc + 3, stack := [] } = F0 m q ls [])
    (hr : va_Run p l e R s m args below meth c H locs cells slots k' n' g (st.map (tv E ads)) (tQ E (va_A (tw E ads h) H.size) ads (fun r h' => r = r0 ∧ h' = h1) a9) (va_A (tw E ads h) H.size))
    (kk : tG l E own cc nL ret ini d Q k2 n2 q L st1 h1) : W p l e R s m args below meth c H locs cells slots (MQ below (tQ E A ads0 Q) args s R.cells R.slots A) g := by
  subst hst1; subst hk; subst hn
  have hF : ∀ q, va_A (tw E ads h) H.size q → A q := by
    intro q hq
    rcases hq with ⟨i, e9, h9⟩ | h9
    · exact b4.2.2.2 i (q, e9) h9
    · exact X.2.2.2.2.2.2.2.2.2.2 q (Nat.le_trans b5.1 h9)
  intro T hT XS
  obtain ⟨v, st₀, t, T', LL, h0, X', hL, e1, e2, ⟨⟨r, h', ads', hv, ⟨rfl, rfl⟩, hpre, hR1⟩, hz, hkp⟩, stp⟩ := hr T hT XS
  have hv : v = r.map (tv E ads') := by injection hv
  subst hv
  rw [h0] at hz hkp
  have eA : tLm E ads' L = tLm E ads L ∧ st.map (tv E ads') = st.map (tv E ads) := by
    rcases hlen with hlen | hlen
    · have : ads = ads' := hpre.eq_of_length (by rw [b4.1, hR1.1, hlen])
      subst this; exact ⟨rfl, rfl⟩
    · rw [Bool.and_eq_true] at hlen
      exact ⟨tLm_pre hpre (by rw [b4.1]; exact hlen.1), tS_pre hpre (by rw [b4.1]; exact hlen.2)⟩
  have hS1 : va_S A s.heap T'.heap (locs ++ LL) := ⟨Nat.le_trans b5.1 (by rw [e1]; exact hz), fun q h1 h2 => by rw [e1, hkp q (Nat.lt_of_lt_of_le h1 b5.1) (fun z => h2 (hF q z))]; exact b5.2.1 q h1 h2, fun q hq => by
      rcases List.mem_append.mp hq with h9 | h9
      · exact b5.2.2 q h9
      · exact hF _ (hL q h9)⟩
  have hR2 : tR E ads' h' A T'.heap := ⟨hR1.1, by rw [e1]; exact hR1.2.1, hR1.2.2.weaken (fun i x _ h9 => hF x.1 h9)⟩
  have K := kk p e R s m args below meth c A ads0 X ads' T'.heap (locs ++ LL) (cells + k') (slots + n') ls (by omega) (by omega) (b3.trans hpre) hR2 hS1 (by rw [eA.1]; exact b6)
  have e3 : { g with pc := g.pc + 3, stack := (r.map (tv E ads')).toList ++ st.map (tv E ads) } = F0 m q ls ((r.toList ++ st).map (tv E ads')) := by
    have e4 : (r.toList ++ st).map (tv E ads') = (r.map (tv E ads')).toList ++ st.map (tv E ads) := by
      rw [List.map_append, eA.2]; cases r <;> rfl
    rw [e4]
    obtain ⟨g1, g2, g3, g4, g5⟩ := g
    simp only [F0, JFrame.mk.injEq] at hg ⊢
    exact ⟨hg.1, hg.2.1, hg.2.2.1, trivial, hg.2.2.2.2⟩
  rw [← e3] at K
  obtain ⟨t2, a1, b1'⟩ := K T' rfl X'
  exact ⟨t2, stp t2 a1, b1'⟩
theorem t_pre {s : State} {A : Nat → Prop} {H : Heap} {locs : List Loc} {ads : List Nat} {as : List Value} (hU : tU E A s) (hA : ∀ q, s.heap.size ≤ q → A q) (b4 : tR E ads h A H) (b5 : va_S A s.heap H locs) :
    PreS s H (va_Pc (as.map (tv E ads)) (fun U => U.heap.size = H.size ∧ tU E (va_A (tw E ads h) H.size) U ∧ tR E ads h (fun _ => True) U.heap)) (as.map (tv E ads)) := by
  have hF : ∀ q, va_A (tw E ads h) H.size q → A q := by
    intro q hq
    rcases hq with ⟨i, e9, h9⟩ | h9
    · exact b4.2.2.2 i (q, e9) h9
    · exact hA q (Nat.le_trans b5.1 h9)
  refine ⟨fun a U g mk q => ?_, fun U hUh hW => ⟨rfl, by rw [hUh], hU.call b5 hF hUh hW, b4.1, by rw [hUh]; exact b4.2.1, b4.2.2.weaken (fun _ _ _ _ => trivial)⟩⟩
  obtain ⟨q0, q1, q2, q3⟩ := q
  refine ⟨q0, q1, ?_, q3⟩
  obtain ⟨c1, c2, ⟨c3, c4⟩, c5, c6⟩ := q2
  exact ⟨va_K.moved (u := U) (U := U.calling g mk a) (Vm.Alike.refl U.vm) c1, fun w hw => tWm (U := U.calling g mk a) (State.WarmedH.refl U) hw (c2 w hw) #[], ⟨c3.moved (U := U.calling g mk a) (Vm.Alike.refl U.vm), c4.moved (U := U.calling g mk a) (Vm.Alike.refl U.vm)⟩, c5.moved (U := U.calling g mk a) (Vm.Alike.refl U.vm), c6.moved (U := U.calling g mk a) (Vm.Alike.refl U.vm)⟩
theorem g_callS {idx : Nat} {y : MethodName} {cy : ByteArray} {maxL na d' k' n' k2 n2 q : Nat} {ry : Option FieldType} {as st0 st1 : List Value} {r0 : Option Value} {h1 : tHp} (hM : tM y cy maxL ry na) (hml : tML own idx y) (hs : Cond.static y ∈ lw_tbl) (hd : decode cc pc = .ok (.invokestatic idx, 3)) (hq : pc + 3 = q)
    (hev : tEv l E y cy maxL ry d' k' n' as h (fun r h' => r = r0 ∧ h' = h1)) (hst : as.reverse ++ st = st0) (hna : as.length = na) (hcat : (st.map fun v => v.category).sum ≤ 8) (hdd : d' + 1 ≤ d) (hk : k2 + k' = k) (hn : n2 + n' = n) (hlen : h1.length = h.length ∨ (tokL h.length L && tokS h.length st) = true) (hst1 : r0.toList ++ st = st1)
    (kk : tG l E own cc nL ret ini d Q k2 n2 q L st1 h1) : tG l E own cc nL ret ini d Q k n pc L st0 h := by
  subst hq; subst hst
  intro p e R s m args below meth c A ads0 X ads H locs cells slots ls b1 b2 b3 b4 b5 b6
  have hts := X.2.2.2.2.2.2.2.2.2.1.hts args
  have hRm : d' + 1 ≤ R.frames ∧ 8 + (maxL + 11) + 64 * d' ≤ R.locals := by
    have e1 := X.2.2.2.2.2.2.2.1
    have e2 := X.2.2.2.2.2.2.2.2.1
    have e3 := hM.2.2.2
    rw [e1, e2]; omega
  have hpre := t_pre (E := E) (as := as) X.2.2.2.2.2.2.2.2.2.1 X.2.2.2.2.2.2.2.2.2.2 b4 b5
  have hst9 : ((as.reverse ++ st).map (tv E ads)) = (as.map (tv E ads)).reverse ++ st.map (tv E ads) := by rw [List.map_append, List.map_reverse]
  refine t_goon (a9 := (as.map (tv E ads)).toArray) (k' := k') (n' := n') (st := st) X b1 b2 b3 b4 b5 b6 hk hn hlen hst1 rfl ?_ kk
  rcases hml with hml | ⟨host, hml⟩
  · exact va_runS (rest := st.map (tv E ads)) (As := as.map (tv E ads)) ⟨X.1, X.2.1, X.2.2.1, X.2.2.2.2.2.2.1, hts⟩ (hev ads H.size) ⟨callB_of na hts (tM_good hM) rfl rfl rfl (hts _ (tmem hM.2.2.1 rfl)) (hts _ (tmem hml rfl)) hM.2.1 hRm, hts _ (tmem hs rfl)⟩ hpre rfl (by rw [List.length_map]; exact hna) b6.1 hst9 (lv_room (t_sumcat hcat)) hd ⟨by omega, by omega⟩
  · exact va_runSN (rest := st.map (tv E ads)) (As := as.map (tv E ads)) (host := host) ⟨X.1, X.2.1, X.2.2.1, X.2.2.2.2.2.2.1, hts⟩ (hev ads H.size) ⟨va_cnB na hts (tM_good hM) rfl rfl rfl (X.2.2.2.2.2.2.2.2.2.1.2.1 _ (tmem hml rfl)) (hts _ (tmem hM.2.2.1 rfl)) hM.2.1 hRm, hts _ (tmem hs rfl), trivial⟩ hpre rfl (by rw [List.length_map]; exact hna) b6.1 hst9 (lv_room (t_sumcat hcat)) hd ⟨by omega, by omega⟩
theorem g_callV {idx ci a : Nat} {fs : List Value} {y : MethodName} {cy : ByteArray} {maxL na d' k' n' k2 n2 q : Nat} {ry : Option FieldType} {as st0 st1 : List Value} {r0 : Option Value} {h1 : tHp} {T : u_T} {N : Nat} (hM : tM y cy maxL ry na) (hml : tML own idx y) (hs : Cond.instanceMethod y ∈ lw_tbl ∧ Cond.selects y.cls y y ∈ lw_tbl) (hc : h[a]? = some (.inl (ci, fs))) (hci : vwCl[ci]? = some (y.cls, T, N)) (hd : decode cc pc = .ok (.invokevirtual idx, 3)) (hq : pc + 3 = q)
    (hev : tEv l E y cy maxL ry d' k' n' (.ref a :: as) h (fun r h' => r = r0 ∧ h' = h1)) (hst : as.reverse ++ .ref a :: st = st0) (hna : as.length = na) (hcat : (st.map fun v => v.category).sum ≤ 8) (hdd : d' + 1 ≤ d) (hk : k2 + k' = k) (hn : n2 + n' = n) (hlen : h1.length = h.length ∨ (tokL h.length L && tokS h.length st) = true) (hst1 : r0.toList ++ st = st1)
    (kk : tG l E own cc nL ret ini d Q k2 n2 q L st1 h1) : tG l E own cc nL ret ini d Q k n pc L st0 h := by
  subst hq; subst hst
  intro p e R s m args below meth c A ads0 X ads H locs cells slots ls b1 b2 b3 b4 b5 b6
  have hts := X.2.2.2.2.2.2.2.2.2.1.hts args
  have hRm : d' + 1 ≤ R.frames ∧ 8 + (maxL + 11) + 64 * d' ≤ R.locals := by
    have e1 := X.2.2.2.2.2.2.2.1
    have e2 := X.2.2.2.2.2.2.2.2.1
    have e3 := hM.2.2.2
    rw [e1, e2]; omega
  have hpre := t_pre (E := E) (as := .ref a :: as) X.2.2.2.2.2.2.2.2.2.1 X.2.2.2.2.2.2.2.2.2.2 b4 b5
  have hst9 : ((as.reverse ++ .ref a :: st).map (tv E ads)) = (as.map (tv E ads)).reverse ++ .ref (tad E ads a) :: st.map (tv E ads) := by rw [List.map_append, List.map_reverse]; rfl
  have hrecv := va_recv X.2.2.2.2.2.2.2.2.2.1.1 b4.2.1 hci (tw_get (E := E) b4.1 hc)
  refine t_goon (a9 := ((Value.ref a :: as).map (tv E ads)).toArray) (k' := k') (n' := n') (st := st) X b1 b2 b3 b4 b5 b6 hk hn hlen hst1 rfl ?_ kk
  rcases hml with hml | ⟨host, hml⟩
  · exact va_runV (C := y.cls) (b := tad E ads a) (rest := st.map (tv E ads)) (As := as.map (tv E ads)) ⟨X.1, X.2.1, X.2.2.1, X.2.2.2.2.2.2.1, hts⟩ (hev ads H.size) ⟨callB_of na hts (tM_good hM) rfl rfl rfl (hts _ (tmem hM.2.2.1 rfl)) (hts _ (tmem hml rfl)) hM.2.1 hRm, hts _ (tmem hs.1 rfl), hts _ (tmem hs.2 rfl)⟩ ⟨hpre.1, hrecv, hpre.2⟩ rfl (by rw [List.length_map]; exact hna) b6.1 hst9 (lv_room (t_sumcat hcat)) hd ⟨by omega, by omega⟩
  · exact va_runVN (C := y.cls) (b := tad E ads a) (rest := st.map (tv E ads)) (As := as.map (tv E ads)) (host := host) ⟨X.1, X.2.1, X.2.2.1, X.2.2.2.2.2.2.1, hts⟩ (hev ads H.size) ⟨va_cnB na hts (tM_good hM) rfl rfl rfl (X.2.2.2.2.2.2.2.2.2.1.2.1 _ (tmem hml rfl)) (hts _ (tmem hM.2.2.1 rfl)) hM.2.1 hRm, hts _ (tmem hs.1 rfl), hts _ (tmem hs.2 rfl)⟩ ⟨hpre.1, hrecv, hpre.2⟩ rfl (by rw [List.length_map]; exact hna) b6.1 hst9 (lv_room (t_sumcat hcat)) hd ⟨by omega, by omega⟩
theorem g_callI {idx a : Nat} {y : MethodName} {cy : ByteArray} {maxL na d' k' n' k2 n2 q : Nat} {as st0 st1 : List Value} {r0 : Option Value} {h1 : tHp} (hM : tM y cy maxL none na) (hml : tML own idx y) (hs : Cond.instanceMethod y ∈ lw_tbl) (hy : y.name = "<init>") (hd : decode cc pc = .ok (.invokespecial idx, 3)) (hq : pc + 3 = q)
    (hev : tEv l E y cy maxL none d' k' n' (.ref a :: as) h (fun r h' => r = r0 ∧ h' = h1)) (hst : as.reverse ++ .ref a :: st = st0) (hna : as.length = na) (hcat : (st.map fun v => v.category).sum ≤ 8) (hdd : d' + 1 ≤ d) (hk : k2 + k' = k) (hn : n2 + n' = n) (hlen : h1.length = h.length ∨ (tokL h.length L && tokS h.length st) = true) (hst1 : r0.toList ++ st = st1)
    (kk : tG l E own cc nL ret ini d Q k2 n2 q L st1 h1) : tG l E own cc nL ret ini d Q k n pc L st0 h := by
  subst hq; subst hst
  intro p e R s m args below meth c A ads0 X ads H locs cells slots ls b1 b2 b3 b4 b5 b6
  have hts := X.2.2.2.2.2.2.2.2.2.1.hts args
  have hRm : d' + 1 ≤ R.frames ∧ 8 + (maxL + 11) + 64 * d' ≤ R.locals := by
    have e1 := X.2.2.2.2.2.2.2.1
    have e2 := X.2.2.2.2.2.2.2.2.1
    have e3 := hM.2.2.2
    rw [e1, e2]; omega
  have hpre := t_pre (E := E) (as := .ref a :: as) X.2.2.2.2.2.2.2.2.2.1 X.2.2.2.2.2.2.2.2.2.2 b4 b5
  have hst9 : ((as.reverse ++ .ref a :: st).map (tv E ads)) = (as.map (tv E ads)).reverse ++ .ref (tad E ads a) :: st.map (tv E ads) := by rw [List.map_append, List.map_reverse]; rfl
  refine t_goon (a9 := ((Value.ref a :: as).map (tv E ads)).toArray) (k' := k') (n' := n') (st := st) X b1 b2 b3 b4 b5 b6 hk hn hlen hst1 rfl ?_ kk
  rcases hml with hml | ⟨host, hml⟩
  · exact va_runI (b := tad E ads a) (rest := st.map (tv E ads)) (As := as.map (tv E ads)) ⟨X.1, X.2.1, X.2.2.1, X.2.2.2.2.2.2.1, hts⟩ (hev ads H.size) ⟨callB_of na hts (tM_good hM) rfl rfl rfl (hts _ (tmem hM.2.2.1 rfl)) (hts _ (tmem hml rfl)) hM.2.1 hRm, hy, hts _ (tmem hs rfl)⟩ hpre rfl (by rw [List.length_map]; exact hna) b6.1 hst9 (lv_room (t_sumcat hcat)) hd ⟨by omega, by omega⟩
  · exact va_runIN (b := tad E ads a) (rest := st.map (tv E ads)) (As := as.map (tv E ads)) (host := host) ⟨X.1, X.2.1, X.2.2.1, X.2.2.2.2.2.2.1, hts⟩ (hev ads H.size) ⟨va_cnB na hts (tM_good hM) rfl rfl rfl (X.2.2.2.2.2.2.2.2.2.1.2.1 _ (tmem hml rfl)) (hts _ (tmem hM.2.2.1 rfl)) hM.2.1 hRm, hy, hts _ (tmem hs rfl)⟩ hpre rfl (by rw [List.length_map]; exact hna) b6.1 hst9 (lv_room (t_sumcat hcat)) hd ⟨by omega, by omega⟩
end TCALL2
