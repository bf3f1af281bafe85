set_option maxHeartbeats 4000000 in
theorem lw_callI {p : Program} {l : Launch} {e : Env} {s : State} {m : MethodId} {below : List Frame} {meth : Method} {c : Code} {b L : Nat} {xs : Nat → Int32} {E : tEn} {Q : State → Prop} {H : Heap} {locs : List Loc} {cells slots pc idx : Nat} {ls : Array Slot} {h h1 h2 : tHp} {ads a2 : List Nat} {y : MethodName} {cy : ByteArray} {maxL d' k' n' : Nat} {c0 : tC} {rest : List Value} {q : Nat}
    (C0 : lw_At p s m meth c b L xs) (hU : tU E (fun q => s.heap.size ≤ q) s) (hls : ls.size = 4) (hM : tM y cy maxL none 0) (hml : Cond.methodLink RL idx y ∈ lw_tbl) (hs : Cond.instanceMethod y ∈ lw_tbl) (hyi : y.name = "<init>") (hc : h[0]? = some c0) (hd : decode code pc = .ok (.invokespecial idx, 3)) (hq : pc + 3 = q)
    (hev : tEv l E y cy maxL none d' k' n' [.ref 0] h (fun r h' => r = none ∧ h' = h1)) (hcat : (rest.map fun v => v.category).sum ≤ 8) (hdd : d' ≤ 100) (hcs : cells + k' ≤ 600000) (hss : slots + n' ≤ 7302250) (hw : tW2 E (fun q => s.heap.size ≤ q) ads a2 h h2 H) (hS : va_S (fun q => s.heap.size ≤ q) s.heap H locs)
    (kk : ∀ (ads' : List Nat) (H1 : Heap) (locs1 : List Loc), tW2 E (fun q => s.heap.size ≤ q) ads' a2 h1 h2 H1 → va_S (fun q => s.heap.size ≤ q) s.heap H1 locs1 → tad E ads' 0 = tad E ads 0 → W p l e room_1 s m #[Value.ref b] below meth c H1 locs1 (cells + k') (slots + n') Q (F0 m q ls rest)) :
    W p l e room_1 s m #[Value.ref b] below meth c H locs cells slots Q (F0 m pc ls (.ref (tad E ads 0) :: rest)) := by
  subst hq
  obtain ⟨hx, hb, hr, hmx, hown, -, -, -, hlocks, -⟩ := C0
  have hts := hU.hts #[Value.ref b]
  obtain ⟨w1, w2, w3, w4⟩ := hw
  have b4 : tR E ads h (fun q => s.heap.size ≤ q) H := ⟨w1, va_P_l w3, va_D_l w4⟩
  have hRm : d' + 1 ≤ room_1.frames ∧ 8 + (maxL + 11) + 64 * d' ≤ room_1.locals := by
    have e1 : room_1.frames = 2048 := rfl
    have e2 : room_1.locals = 84000 := rfl
    have e3 := hM.2.2.2
    rw [e1, e2]; omega
  have hF : ∀ q, va_A (tw E ads h) H.size q → s.heap.size ≤ q := by
    intro q hq
    rcases hq with ⟨i, e9, h9⟩ | h9
    · exact b4.2.2.2 i (q, e9) h9
    · exact Nat.le_trans hS.1 h9
  have hpre := t_pre (E := E) (as := [.ref 0]) hU (fun _ h9 => h9) b4 hS
  have hpre2 : (([Value.ref 0] : List Value).map (tv E ads)) = [.ref (tad E ads 0)] := rfl
  rw [hpre2] at hpre
  have hrun : va_Run p l e room_1 s m #[Value.ref b] below meth c H locs cells slots k' n' (F0 m pc ls (.ref (tad E ads 0) :: rest)) rest (tQ E (va_A (tw E ads h) H.size) ads (fun r h' => r = none ∧ h' = h1) [Value.ref (tad E ads 0)].toArray) (va_A (tw E ads h) H.size) := by
    have hevm := hev ads H.size
    rw [hpre2] at hevm
    exact va_runI (b := tad E ads 0) (rest := rest) (As := []) ⟨hx, hb, hmx, hown, hts⟩ hevm ⟨callB_of 0 hts (tM_good hM) rfl rfl rfl (hts _ (tmem hM.2.2.1 rfl)) (hts _ (tmem hml rfl)) hM.2.1 hRm, hyi, hts _ (tmem hs rfl)⟩ hpre rfl rfl hls rfl (lv_room hcat) hd ⟨hcs, hss⟩
  intro T9 hT XS
  obtain ⟨v, st₀, t, T', LL, h0, X', hL, e1, e2, ⟨⟨r, h', ads', hv, ⟨rfl, rfl⟩, hpx, hR1⟩, hz, hkp⟩, stp⟩ := hrun T9 hT XS
  have hv : v = none := Outcome.returned.inj hv
  subst hv
  rw [h0] at hz hkp
  have hS1 : va_S (fun q => s.heap.size ≤ q) s.heap T'.heap (locs ++ LL) := ⟨Nat.le_trans hS.1 (by rw [e1]; exact hz), fun q h1 h2 => by rw [e1, hkp q (Nat.lt_of_lt_of_le h1 hS.1) (fun z => h2 (hF q z))]; exact hS.2.1 q h1 h2, fun q hq => by
      rcases List.mem_append.mp hq with h9 | h9
      · exact hS.2.2 q h9
      · exact hF _ (hL q h9)⟩
  have apart : ∀ (j : Nat) (x : Nat × va_E), (tw E a2 h2)[j]? = some x → x.1 < H.size ∧ ¬ va_A (tw E ads h) H.size x.1 := by
    intro j x hx9
    have hlt := ((va_P_r w3) j x hx9).lt
    refine ⟨hlt, fun hq => ?_⟩
    rcases hq with ⟨i, e9, h9⟩ | h9
    · exact va_D_ap w4 i j (x.1, e9) x h9 hx9 rfl
    · omega
  have hPn : va_P E.1 vwCl (tw E ads' h' ++ tw E a2 h2) T'.heap := va_P.app (by rw [e1]; exact hR1.2.1) (fun j x hx9 => ((va_P_r w3) j x hx9).kept (by rw [e1]; exact hkp x.1 (apart j x hx9).1 (apart j x hx9).2))
  have hDn : va_D (fun q => s.heap.size ≤ q) (tw E ads' h' ++ tw E a2 h2) := va_D.app (hR1.2.2.weaken (fun i x _ h9 => hF x.1 h9)) (va_D_r w4) (fun i j x y9 hi hj e9 => (apart j y9 hj).2 (by rw [← e9]; exact hR1.2.2.2 i x hi))
  have ht0 : tad E ads' 0 = tad E ads 0 := by
    obtain ⟨z, rfl⟩ := hpx
    unfold tad
    rw [List.getElem?_append_left (by rw [w1]; exact (List.getElem?_eq_some_iff.mp hc).1)]
  obtain ⟨t2, c1, c2⟩ := kk ads' T'.heap (locs ++ LL) ⟨hR1.1, w2, hPn, hDn⟩ hS1 ht0 T' rfl X'
  exact ⟨t2, stp t2 c1, c2⟩
theorem t_env {p : Program} {s : State} {m : MethodId} {meth : Method} {c : Code} {b L : Nat} {xs : Nat → Int32} (C0 : lw_At p s m meth c b L xs) : ∃ E : tEn, tU E (fun q => s.heap.size ≤ q) s := by
  obtain ⟨-, -, -, -, -, hts, -, -, -, hgv⟩ := C0
  have hs := flat_of_before _ hgv
  have hts2 : ∀ w ∈ tTB, w.before #[Value.ref b] s = true := fun w hw => hts w (List.mem_filter.mp hw).1
  have hA : ∀ a : Nat, a < s.heap.size → ¬ (fun q => s.heap.size ≤ q) a := fun a ha h9 => by dsimp only at h9; omega
  obtain ⟨t1, et1, hT1⟩ := va_Tof (N := 5) (f := fun j => .long (tVT.getD j 0)) (ty := .long) (tm := Term.static "ReadOnceRecognizer" "VARIABLE_TABLES" "[J") (A := fun q => s.heap.size ≤ q) (by decide) (hs _ (by decide +kernel)) (va_eqt (hs (Cond.eq (Term.length (Term.static "ReadOnceRecognizer" "VARIABLE_TABLES" "[J")) (Term.int 5)) (by decide +kernel))) (fun j hj => by
    match j, hj with
    | 0, _ => exact va_eqtl (hs (Cond.eq (Term.elem (Term.static "ReadOnceRecognizer" "VARIABLE_TABLES" "[J") (Term.int 0)) (Term.long 2863311530)) (by decide +kernel))
    | 1, _ => exact va_eqtl (hs (Cond.eq (Term.elem (Term.static "ReadOnceRecognizer" "VARIABLE_TABLES" "[J") (Term.int 1)) (Term.long 3435973836)) (by decide +kernel))
    | 2, _ => exact va_eqtl (hs (Cond.eq (Term.elem (Term.static "ReadOnceRecognizer" "VARIABLE_TABLES" "[J") (Term.int 2)) (Term.long 4042322160)) (by decide +kernel))
    | 3, _ => exact va_eqtl (hs (Cond.eq (Term.elem (Term.static "ReadOnceRecognizer" "VARIABLE_TABLES" "[J") (Term.int 3)) (Term.long 4278255360)) (by decide +kernel))
    | 4, _ => exact va_eqtl (hs (Cond.eq (Term.elem (Term.static "ReadOnceRecognizer" "VARIABLE_TABLES" "[J") (Term.int 4)) (Term.long 4294901760)) (by decide +kernel))
    | k + 5, h => exact absurd h (by omega)) hA
  obtain ⟨t2, et2, hT2⟩ := va_Tof (N := 7) (f := fun j => .int (tGA.getD j 0)) (ty := .int) (tm := Term.static "ReadOnceRecognizer$Catalog" "GAPS" "[I") (A := fun q => s.heap.size ≤ q) (by decide) (hs _ (by decide +kernel)) (va_eqt (hs (Cond.eq (Term.length (Term.static "ReadOnceRecognizer$Catalog" "GAPS" "[I")) (Term.int 7)) (by decide +kernel))) (fun j hj => by
    match j, hj with
    | 0, _ => exact va_eqt (hs (Cond.eq (Term.elem (Term.static "ReadOnceRecognizer$Catalog" "GAPS" "[I") (Term.int 0)) (Term.int 301)) (by decide +kernel))
    | 1, _ => exact va_eqt (hs (Cond.eq (Term.elem (Term.static "ReadOnceRecognizer$Catalog" "GAPS" "[I") (Term.int 1)) (Term.int 132)) (by decide +kernel))
    | 2, _ => exact va_eqt (hs (Cond.eq (Term.elem (Term.static "ReadOnceRecognizer$Catalog" "GAPS" "[I") (Term.int 2)) (Term.int 57)) (by decide +kernel))
    | 3, _ => exact va_eqt (hs (Cond.eq (Term.elem (Term.static "ReadOnceRecognizer$Catalog" "GAPS" "[I") (Term.int 3)) (Term.int 23)) (by decide +kernel))
    | 4, _ => exact va_eqt (hs (Cond.eq (Term.elem (Term.static "ReadOnceRecognizer$Catalog" "GAPS" "[I") (Term.int 4)) (Term.int 10)) (by decide +kernel))
    | 5, _ => exact va_eqt (hs (Cond.eq (Term.elem (Term.static "ReadOnceRecognizer$Catalog" "GAPS" "[I") (Term.int 5)) (Term.int 4)) (by decide +kernel))
    | 6, _ => exact va_eqt (hs (Cond.eq (Term.elem (Term.static "ReadOnceRecognizer$Catalog" "GAPS" "[I") (Term.int 6)) (Term.int 1)) (by decide +kernel))
    | k + 7, h => exact absurd h (by omega)) hA
  have hZ1 := va_Zof (v := .ref t1) (A := fun q => s.heap.size ≤ q) (hts (.laysStatic "ReadOnceRecognizer" "VARIABLE_TABLES" "[J") (by decide +kernel)) (hts (.initialized "ReadOnceRecognizer") (by decide +kernel)) et1 hA
  have hZ2 := va_Zof (v := .ref t2) (A := fun q => s.heap.size ≤ q) (hts (.laysStatic "ReadOnceRecognizer$Catalog" "GAPS" "[I") (by decide +kernel)) (hts (.initialized "ReadOnceRecognizer$Catalog") (by decide +kernel)) et2 hA
  obtain ⟨cI, kI, pI, fI, gI, iI⟩ := Cond.arrayClass_spec (hts _ ac_int)
  obtain ⟨cJ, kJ, pJ, fJ, gJ, iJ⟩ := Cond.arrayClass_spec (hts _ ac_long)
  obtain ⟨cZ, kZ, pZ, fZ, gZ, iZ⟩ := Cond.arrayClass_spec (hts _ ac_boolean)
  obtain ⟨c0, iS0, hKn0⟩ := u_known (C := RX0) (T := TX0) (N := 2) (n := 2) hts2 in_X0 (hts (.instantiable RX0 2) (t_in 595 (by decide +kernel)))
  obtain ⟨c1, iS1, hKn1⟩ := u_known (C := RX1) (T := TX1) (N := 3) (n := 3) hts2 in_X1 (hts (.instantiable RX1 3) (t_in 106 (by decide +kernel)))
  obtain ⟨c2, iS2, hKn2⟩ := u_known (C := RX2) (T := TX2) (N := 2) (n := 2) hts2 in_X2 (hts (.instantiable RX2 2) (t_in 162 (by decide +kernel)))
  obtain ⟨c3, iS3, hKn3⟩ := u_known (C := RX3) (T := TX3) (N := 5) (n := 5) hts2 in_X3 (hts (.instantiable RX3 5) (t_in 79 (by decide +kernel)))
  obtain ⟨c4, iS4, hKn4⟩ := u_known (C := RX4) (T := TX4) (N := 3) (n := 3) hts2 in_X4 (hts (.instantiable RX4 3) (t_in 60 (by decide +kernel)))
  obtain ⟨c5, iS5, hKn5⟩ := u_known (C := RX5) (T := TX5) (N := 6) (n := 6) hts2 in_X5 (hts (.instantiable RX5 6) (t_in 128 (by decide +kernel)))
  obtain ⟨c6, iS6, hKn6⟩ := u_known (C := RX6) (T := TX6) (N := 6) (n := 6) hts2 in_X6 (hts (.instantiable RX6 6) (t_in 23 (by decide +kernel)))
  obtain ⟨c7, iS7, hKn7⟩ := u_known (C := RX7) (T := TX7) (N := 11) (n := 11) hts2 in_X7 (hts (.instantiable RX7 11) (t_in 15 (by decide +kernel)))
  obtain ⟨c8, iS8, hKn8⟩ := u_known (C := RX8) (T := TX8) (N := 39) (n := 39) hts2 in_X8 (hts (.instantiable RX8 39) (t_in 732 (by decide +kernel)))
  obtain ⟨dC, dI, hKc⟩ : ∃ (dC : Nat → ClassId) (dI : Nat → Nat → Nat), ∀ (k : Nat) (q : vw_C), vwCl[k]? = some q → u_Kn s q.1 q.2.1 q.2.2 (dC k) (dI k) := by
    refine ⟨fun k => match k with | 0 => c0 | 1 => c1 | 2 => c2 | 3 => c3 | 4 => c4 | 5 => c5 | 6 => c6 | 7 => c7 | _ => c8, fun k => match k with | 0 => iS0 | 1 => iS1 | 2 => iS2 | 3 => iS3 | 4 => iS4 | 5 => iS5 | 6 => iS6 | 7 => iS7 | _ => iS8, ?_⟩
    intro k q hq
    match k, hq with
    | 0, hq => cases hq; exact hKn0
    | 1, hq => cases hq; exact hKn1
    | 2, hq => cases hq; exact hKn2
    | 3, hq => cases hq; exact hKn3
    | 4, hq => cases hq; exact hKn4
    | 5, hq => cases hq; exact hKn5
    | 6, hq => cases hq; exact hKn6
    | 7, hq => cases hq; exact hKn7
    | 8, hq => cases hq; exact hKn8
    | k + 9, hq => simp [vwCl] at hq
  refine ⟨((dC, dI), (cI, cJ, cZ), (t1, t2)), ⟨hKc, ?_⟩, ?_, ⟨hZ1, hT1⟩, hZ2, hT2⟩
  · intro k q hq
    match k, hq with
    | 0, hq => cases hq; exact ⟨fun n z => ⟨fun k h => (by cases h), kI, gI, pI, iI⟩, fI⟩
    | 1, hq => cases hq; exact ⟨fun n z => ⟨fun k h => (by cases h), kJ, gJ, pJ, iJ⟩, fJ⟩
    | 2, hq => cases hq; exact ⟨fun n z => ⟨fun k h => (by cases h), kZ, gZ, pZ, iZ⟩, fZ⟩
    | k + 3, hq => simp at hq
  · intro w hw
    obtain ⟨h1, h2⟩ := List.mem_filter.mp hw
    rcases Bool.or_eq_true_iff.mp h2 with h3 | h3
    · exact word_at (State.WarmedH.refl s) (good_of_word h3) (hts w h1)
    · cases w <;> first
        | exact va_Nw.of rfl (hts _ h1)
        | exact absurd h3 (by decide)
        | (simp [tNest] at h3; done)
