set_option maxRecDepth 20000 in
set_option maxHeartbeats 8000000 in
theorem start_open {p : Program} {e : Env} {s : State} {m : MethodId} {below : List Frame} {meth : Method} {c : Code} (l : Launch) {b L : Nat} {xs : Nat → Int32} (hL : L ≤ 2560) (C0 : lw_At p s m meth c b L xs) {J : tHp → tHp → Prop} (hA : ∀ E, tApi l E J) {hM0 : tHp} {dM : Nat} (hdM : dM ≤ 100) (hM : ∀ E, tEv l E yX8_init cX8_init 2 none dM 20 3943 [.ref 0] [.inl (8, [.int 0, .int 0, .null, .null, .int 0, .null, .null, .null, .long 0, .long 0, .int 0, .null, .null, .int 0, .null, .int 0, .null, .null, .int 0, .int 0, .long 0, .long 0, .null, .null, .null, .null, .int 0, .int 0, .null, .null, .int 0, .int 0, .int 0, .int 0, .int 0, .null, .null, .null, .null])] (fun r h' => r = none ∧ h' = hM0)) (hJ : J initX hM0) :
    W p l e room_1 s m #[Value.ref b] below meth c s.heap [] 0 0 (lw_Z below #[Value.ref b] s) (entryFrame m ([Value.ref b] : List Value).toArray 4) := by
  obtain ⟨hx, hb, hr, hmx, hown, hts, hXs, hbl, hlocks, hgv⟩ := id C0
  obtain ⟨E, hU⟩ := t_env C0
  have hts2 := hU.hts #[Value.ref b]
  have hA0 : ∀ q : Nat, s.heap.size ≤ q → (fun q : Nat => s.heap.size ≤ q) q := fun _ h => h
  have hS : va_S (fun q : Nat => s.heap.size ≤ q) s.heap s.heap [] := va_S.rf
  have hP : va_P E.1 vwCl [] s.heap := fun k q h => by simp at h
  have hD : va_D (fun q : Nat => s.heap.size ≤ q) [] := ⟨fun i j p q h => by simp at h, fun k q h => by simp at h⟩
  have hl := lv_entry ([.ref b]) (n := 4) (Nat.le_of_ble_eq_true rfl)
  rw [lg_entry_eq]
  generalize (lg_sl ([.ref b]) ++ List.replicate (4 - (lg_sl ([.ref b])).length) Slot.unset).toArray = ls at hl ⊢
  have hl : lv_has ls 4 [(0, .ref b)] := hl
  obtain ⟨C1, T1, ty1, e1, e2, e3, ⟨e4, e5, e6⟩, e7, -⟩ := fn_L_7
  refine va_new (D := E.1) hx hb hts2 e2 ty1 e3 hown (hts _ e4) (hts _ e5) (hts _ e6) hU.1 hP hD hS hA0 e1 e7 (Nat.le_of_ble_eq_true rfl) (Nat.le_of_ble_eq_true rfl) dL_law_0 (fun q1 H hP hD hS => ?_)
  have hw : tW2 E (fun q : Nat => s.heap.size ≤ q) [q1] [] [.inl (7, [.null, .null, .int 0, .null, .null, .null, .null, .null, .null, .null, .null])] [] H := ⟨rfl, rfl, hP, hD⟩
  refine lv_dup hx hb dL_law_3 rfl ?_
  refine lw_callI (ads := [q1]) (rest := [.ref q1]) (q := 7) C0 hU hl.1 tm_X7_init (t_in 16 (by decide +kernel)) ti_X7_init rfl rfl dL_law_4 rfl ev_newX (Nat.le_of_ble_eq_true rfl) (by decide) (by decide) (by decide) hw hS (fun aX H1 locs1 w1 s1 t1 => ?_)
  have t1 : tad E aX 0 = q1 := t1
  refine lv_astore_n (lv' := [(1, .ref q1), (0, .ref b)]) hx hb dL_law_7 rfl hl (by decide) rfl (fun ls hl => ?_)
  obtain ⟨C1, T1, ty1, e1, e2, e3, ⟨e4, e5, e6⟩, e7, -⟩ := fn_L_10
  refine va_new (D := E.1) hx hb hts2 e2 ty1 e3 hown (hts _ e4) (hts _ e5) (hts _ e6) hU.1 w1.2.2.1 w1.2.2.2 s1 hA0 e1 e7 (by decide) (by decide) dL_law_8 (fun q2 H2 hP2 hD2 hS2 => ?_)
  have hw2 : tW2 E (fun q : Nat => s.heap.size ≤ q) aX [q2] initX [.inl (8, [.int 0, .int 0, .null, .null, .int 0, .null, .null, .null, .long 0, .long 0, .int 0, .null, .null, .int 0, .null, .int 0, .null, .null, .int 0, .int 0, .long 0, .long 0, .null, .null, .null, .null, .int 0, .int 0, .null, .null, .int 0, .int 0, .int 0, .int 0, .int 0, .null, .null, .null, .null])] H2 := by
    have hn : tw E aX initX ++ tw E [] [] = tw E aX initX := List.append_nil _
    rw [hn] at hP2 hD2
    exact ⟨w1.1, rfl, hP2, hD2⟩
  refine lv_dup hx hb dL_law_11 rfl ?_
  refine lw_callI (ads := [q2]) (rest := [.ref q2]) (q := 15) C0 hU hl.1 tm_X8_init (t_in 733 (by decide +kernel)) ti_X8_init rfl rfl dL_law_12 rfl (hM E) (Nat.le_of_ble_eq_true rfl) hdM (by decide) (by decide) hw2.swap hS2 (fun aM H3 locs3 w3 s3 t3 => ?_)
  have t3 : tad E aM 0 = q2 := t3
  refine lv_astore_n (lv' := [(2, .ref q2), (1, .ref q1), (0, .ref b)]) hx hb dL_law_15 rfl hl (by decide) rfl (fun ls hl => ?_)
  refine lv_iconst (v := 0) hx hb dL_law_16 (by decide) ?_
  refine lv_istore_n (lv' := [(3, .int 0), (2, .ref q2), (1, .ref q1), (0, .ref b)]) hx hb dL_law_17 rfl hl (by decide) rfl (fun ls hl => ?_)
  refine law_loop hL C0 hU (hA E) 512 0 (Nat.zero_le L) (by omega) initX hM0 hJ aX aM H3 locs3 _ _ w3.swap s3 (by decide) (by decide) ls ?_
  rw [t1, t3]
  exact lv_sub hl [3, 2, 1, 0] rfl
