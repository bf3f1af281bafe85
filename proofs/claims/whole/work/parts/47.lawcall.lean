/-! the law's own walk: two systems side by side -/
def tW2 (E : tEn) (A : Nat → Prop) (a1 a2 : List Nat) (h1 h2 : tHp) (H : Heap) : Prop := a1.length = h1.length ∧ a2.length = h2.length ∧ va_P E.1 vwCl (tw E a1 h1 ++ tw E a2 h2) H ∧ va_D A (tw E a1 h1 ++ tw E a2 h2)
theorem va_P_l {D : va_G} {cl : List vw_C} {u v : va_W} {H : Heap} (h : va_P D cl (u ++ v) H) : va_P D cl u H := fun k q hk => h k q (by rw [List.getElem?_append_left (List.getElem?_eq_some_iff.mp hk).1]; exact hk)
theorem va_P_r {D : va_G} {cl : List vw_C} {u v : va_W} {H : Heap} (h : va_P D cl (u ++ v) H) : va_P D cl v H := fun k q hk => h (u.length + k) q (by rw [List.getElem?_append_right (by omega), Nat.add_sub_cancel_left]; exact hk)
theorem va_D_l {A : Nat → Prop} {u v : va_W} (h : va_D A (u ++ v)) : va_D A u :=
  ⟨fun i j p q hi hj e => h.1 i j p q (by rw [List.getElem?_append_left (List.getElem?_eq_some_iff.mp hi).1]; exact hi) (by rw [List.getElem?_append_left (List.getElem?_eq_some_iff.mp hj).1]; exact hj) e, fun k q hk => h.2 k q (by rw [List.getElem?_append_left (List.getElem?_eq_some_iff.mp hk).1]; exact hk)⟩
theorem va_D_r {A : Nat → Prop} {u v : va_W} (h : va_D A (u ++ v)) : va_D A v :=
  ⟨fun i j p q hi hj e => by
    have := h.1 (u.length + i) (u.length + j) p q (by rw [List.getElem?_append_right (by omega), Nat.add_sub_cancel_left]; exact hi) (by rw [List.getElem?_append_right (by omega), Nat.add_sub_cancel_left]; exact hj) e
    omega, fun k q hk => h.2 (u.length + k) q (by rw [List.getElem?_append_right (by omega), Nat.add_sub_cancel_left]; exact hk)⟩
theorem va_D_ap {A : Nat → Prop} {u v : va_W} (h : va_D A (u ++ v)) (i j : Nat) (x y : Nat × va_E) (hi : u[i]? = some x) (hj : v[j]? = some y) (e : x.1 = y.1) : False := by
  have h1 := (List.getElem?_eq_some_iff.mp hi).1
  have := h.1 i (u.length + j) x y (by rw [List.getElem?_append_left h1]; exact hi) (by rw [List.getElem?_append_right (by omega), Nat.add_sub_cancel_left]; exact hj) e
  omega
theorem tW2.swap {E : tEn} {A : Nat → Prop} {a1 a2 : List Nat} {h1 h2 : tHp} {H : Heap} (h : tW2 E A a1 a2 h1 h2 H) : tW2 E A a2 a1 h2 h1 H :=
  ⟨h.2.1, h.1, va_P.app (va_P_r h.2.2.1) (va_P_l h.2.2.1), va_D.app (va_D_r h.2.2.2) (va_D_l h.2.2.2) (fun i j x y hi hj e => va_D_ap h.2.2.2 j i y x hj hi e.symm)⟩
set_option maxHeartbeats 4000000 in
theorem lw_call {p : Program} {l : Launch} {e : Env} {s : State} {m : MethodId} {below : List Frame} {meth : Method} {c : Code} {b L : Nat} {xs : Nat → Int32} {E : tEn} {Q : State → Prop} {H : Heap} {locs : List Loc} {cells slots pc idx : Nat} {ls : Array Slot} {h h1 h2 : tHp} {ads a2 : List Nat} {y : MethodName} {cy : ByteArray} {maxL na d' k' n' ci : Nat} {ry : Option FieldType} {as rest st0 : List Value} {r0 : Value} {fs : List Value} {T : u_T} {N q : Nat}
    (C0 : lw_At p s m meth c b L xs) (hU : tU E (fun q => s.heap.size ≤ q) s) (hls : ls.size = 4) (hM : tM y cy maxL ry na) (hml : tML RL idx y) (hs : Cond.instanceMethod y ∈ lw_tbl ∧ Cond.selects y.cls y y ∈ lw_tbl) (hc : h[0]? = some (.inl (ci, fs))) (hci : vwCl[ci]? = some (y.cls, T, N)) (hd : decode code pc = .ok (.invokevirtual idx, 3)) (hq : pc + 3 = q)
    (hev : tEv l E y cy maxL ry d' k' n' (.ref 0 :: as) h (fun r h' => r = some r0 ∧ h' = h1)) (hst : as.reverse ++ .ref (tad E ads 0) :: rest = st0) (has : ∀ a, as.map (tv E a) = as) (hr0 : ∀ a, tv E a r0 = r0) (hna : as.length = na) (hcat : (rest.map fun v => v.category).sum ≤ 8) (hdd : d' ≤ 100) (hcs : cells + k' ≤ 600000) (hss : slots + n' ≤ 7302250) (hw : tW2 E (fun q => s.heap.size ≤ q) ads a2 h h2 H) (hS : va_S (fun q => s.heap.size ≤ q) s.heap H locs)
    (kk : ∀ (ads' : List Nat) (H1 : Heap) (locs1 : List Loc), tW2 E (fun q => s.heap.size ≤ q) ads' a2 h1 h2 H1 → va_S (fun q => s.heap.size ≤ q) s.heap H1 locs1 → tad E ads' 0 = tad E ads 0 → W p l e room_1 s m #[Value.ref b] below meth c H1 locs1 (cells + k') (slots + n') Q (F0 m q ls (r0 :: rest))) :
    W p l e room_1 s m #[Value.ref b] below meth c H locs cells slots Q (F0 m pc ls st0) := by
  subst hq; subst hst
  obtain ⟨hx, hb, hr, hmx, hown, -, -, -, hlocks, -⟩ := C0
  have hts := hU.hts #[Value.ref b]
  obtain ⟨w1, w2, w3, w4⟩ := hw
  have b4 : tR E ads h (fun q => s.heap.size ≤ q) H := ⟨w1, va_P_l w3, va_D_l w4⟩
  have hRm : d' + 1 ≤ room_1.frames ∧ 8 + (maxL + 11) + 64 * d' ≤ room_1.locals := by
    have e1 : room_1.frames = 2048 := rfl
    have e2 : room_1.locals = 84000 := rfl
    have e3 := hM.2.2.2
    rw [e1, e2]; omega
  have hF : ∀ q, va_A (tw E ads h) H.size q → s.heap.size ≤ q := by
    intro q hq
    rcases hq with ⟨i, e9, h9⟩ | h9
    · exact b4.2.2.2 i (q, e9) h9
    · exact Nat.le_trans hS.1 h9
  have hpre := t_pre (E := E) (as := .ref 0 :: as) hU (fun _ h9 => h9) b4 hS
  have hrecv := va_recv hU.1 b4.2.1 hci (tw_get (E := E) b4.1 hc)
  have hpre2 : ((Value.ref 0 :: as).map (tv E ads)) = .ref (tad E ads 0) :: as := by rw [List.map_cons, has]; rfl
  rw [hpre2] at hpre
  have hrun : va_Run p l e room_1 s m #[Value.ref b] below meth c H locs cells slots k' n' (F0 m pc ls (as.reverse ++ .ref (tad E ads 0) :: rest)) rest (tQ E (va_A (tw E ads h) H.size) ads (fun r h' => r = some r0 ∧ h' = h1) (Value.ref (tad E ads 0) :: as).toArray) (va_A (tw E ads h) H.size) := by
    have hevm := hev ads H.size
    rw [hpre2] at hevm
    rcases hml with hml | ⟨host, hml⟩
    · exact va_runV (C := y.cls) (b := tad E ads 0) (rest := rest) (As := as) ⟨hx, hb, hmx, hown, hts⟩ hevm ⟨callB_of na hts (tM_good hM) rfl rfl rfl (hts _ (tmem hM.2.2.1 rfl)) (hts _ (tmem hml rfl)) hM.2.1 hRm, hts _ (tmem hs.1 rfl), hts _ (tmem hs.2 rfl)⟩ ⟨hpre.1, hrecv, hpre.2⟩ rfl hna hls rfl (lv_room hcat) hd ⟨hcs, hss⟩
    · exact va_runVN (C := y.cls) (b := tad E ads 0) (rest := rest) (As := as) (host := host) ⟨hx, hb, hmx, hown, hts⟩ hevm ⟨va_cnB na hts (tM_good hM) rfl rfl rfl (hU.2.1 _ (tmem hml rfl)) (hts _ (tmem hM.2.2.1 rfl)) hM.2.1 hRm, hts _ (tmem hs.1 rfl), hts _ (tmem hs.2 rfl)⟩ ⟨hpre.1, hrecv, hpre.2⟩ rfl hna hls rfl (lv_room hcat) hd ⟨hcs, hss⟩
  intro T9 hT XS
  obtain ⟨v, st₀, t, T', LL, h0, X', hL, e1, e2, ⟨⟨r, h', ads', hv, ⟨rfl, rfl⟩, hpx, hR1⟩, hz, hkp⟩, stp⟩ := hrun T9 hT XS
  have hv : v = some r0 := by
    have hv2 : v = (some r0).map (tv E ads') := Outcome.returned.inj hv
    rw [hv2]
    show some (tv E ads' r0) = some r0
    rw [hr0]
  subst hv
  rw [h0] at hz hkp
  have hS1 : va_S (fun q => s.heap.size ≤ q) s.heap T'.heap (locs ++ LL) := ⟨Nat.le_trans hS.1 (by rw [e1]; exact hz), fun q h1 h2 => by rw [e1, hkp q (Nat.lt_of_lt_of_le h1 hS.1) (fun z => h2 (hF q z))]; exact hS.2.1 q h1 h2, fun q hq => by
      rcases List.mem_append.mp hq with h9 | h9
      · exact hS.2.2 q h9
      · exact hF _ (hL q h9)⟩
  have apart : ∀ (j : Nat) (x : Nat × va_E), (tw E a2 h2)[j]? = some x → x.1 < H.size ∧ ¬ va_A (tw E ads h) H.size x.1 := by
    intro j x hx9
    have hlt := ((va_P_r w3) j x hx9).lt
    refine ⟨hlt, fun hq => ?_⟩
    rcases hq with ⟨i, e9, h9⟩ | h9
    · exact va_D_ap w4 i j (x.1, e9) x h9 hx9 rfl
    · omega
  have hPn : va_P E.1 vwCl (tw E ads' h' ++ tw E a2 h2) T'.heap := va_P.app (by rw [e1]; exact hR1.2.1) (fun j x hx9 => ((va_P_r w3) j x hx9).kept (by rw [e1]; exact hkp x.1 (apart j x hx9).1 (apart j x hx9).2))
  have hDn : va_D (fun q => s.heap.size ≤ q) (tw E ads' h' ++ tw E a2 h2) := va_D.app (hR1.2.2.weaken (fun i x _ h9 => hF x.1 h9)) (va_D_r w4) (fun i j x y9 hi hj e9 => (apart j y9 hj).2 (by rw [← e9]; exact hR1.2.2.2 i x hi))
  have ht0 : tad E ads' 0 = tad E ads 0 := by
    obtain ⟨z, rfl⟩ := hpx
    unfold tad
    rw [List.getElem?_append_left (by rw [w1]; exact (List.getElem?_eq_some_iff.mp hc).1)]
  obtain ⟨t2, c1, c2⟩ := kk ads' T'.heap (locs ++ LL) ⟨hR1.1, w2, hPn, hDn⟩ hS1 ht0 T' rfl X'
  exact ⟨t2, stp t2 c1, c2⟩
/-- the same answer of both, and the two states go on together -/
def tSameI (l : Launch) (E : tEn) (J : tHp → tHp → Prop) (yX : MethodName) (cX : ByteArray) (mX : Nat) (yM : MethodName) (cM : ByteArray) (mM : Nat) (as : List Value) (hX hM : tHp) : Prop :=
  ∃ (z : Int32) (hX' hM' : tHp) (dX dM kX nX : Nat), dX ≤ 100 ∧ dM ≤ 100 ∧ kX ≤ 3 ∧ nX ≤ 873 ∧ tEv l E yX cX mX (some .int) dX kX nX (.ref 0 :: as) hX (fun r h => r = some (.int z) ∧ h = hX') ∧ tEv l E yM cM mM (some .int) dM 0 0 (.ref 0 :: as) hM (fun r h => r = some (.int z) ∧ h = hM') ∧ J hX' hM'
def tSameJ (l : Launch) (E : tEn) (J : tHp → tHp → Prop) (yX : MethodName) (cX : ByteArray) (mX : Nat) (yM : MethodName) (cM : ByteArray) (mM : Nat) (as : List Value) (hX hM : tHp) : Prop :=
  ∃ (z : Int64) (hX' hM' : tHp) (dX dM kX nX : Nat), dX ≤ 100 ∧ dM ≤ 100 ∧ kX ≤ 3 ∧ nX ≤ 873 ∧ tEv l E yX cX mX (some .long) dX kX nX (.ref 0 :: as) hX (fun r h => r = some (.long z) ∧ h = hX') ∧ tEv l E yM cM mM (some .long) dM 0 0 (.ref 0 :: as) hM (fun r h => r = some (.long z) ∧ h = hM') ∧ J hX' hM'
theorem lw_rd {p : Program} {l : Launch} {e : Env} {s : State} {m : MethodId} {below : List Frame} {meth : Method} {c : Code} {b L : Nat} {xs : Nat → Int32} {Q : State → Prop} {H : Heap} {locs : List Loc} {cells slots pc q i k : Nat} {z : Int} {ls : Array Slot} {rest : List Value} {p1 p2 : Value}
    (C0 : lw_At p s m meth c b L xs) (hS : va_S (fun q => s.heap.size ≤ q) s.heap H locs) (hl : lv_has ls 4 [(0, .ref b), (1, p1), (2, p2), (3, .int (nI i))]) (hi : i + k < L) (hL : L ≤ 2560) (hz : Int32.ofInt z = nI k)
    (d0 : decode code pc = .ok (.aload_n 0, 1)) (d1 : decode code (pc + 1) = .ok (.iload_n 3, 1)) (d2 : decode code (pc + 2) = .ok (.iconst z, 1)) (d3 : decode code (pc + 3) = .ok (.iadd, 1)) (d4 : decode code (pc + 4) = .ok (.iaload, 1)) (hq : pc + 5 = q)
    (kk : W p l e room_1 s m #[Value.ref b] below meth c H locs cells slots Q (F0 m q ls (.int (xs (i + k)) :: rest))) : W p l e room_1 s m #[Value.ref b] below meth c H locs cells slots Q (F0 m pc ls rest) := by
  subst hq
  obtain ⟨hx, hb, hr, hmx, hown, -, hXs, hbl, hlocks, -⟩ := C0
  refine lv_aload_n hx hb d0 rfl (lv_at hl 0 rfl) ?_
  refine lv_iload_n hx hb d1 rfl (lv_at hl 3 rfl) ?_
  refine lv_iconst hx hb d2 hz ?_
  refine lv_iadd hx hb d3 ?_
  rw [nI_add]
  have hin : vp_in (nI (i + k)) L := vp_in_nI hi (by omega)
  refine va_sld (A := fun q => s.heap.size ≤ q) hx hb hXs hbl (Nat.not_le.mpr hbl) hS hin d4 ?_
  rw [nI_clamp (by omega)]
  exact kk
