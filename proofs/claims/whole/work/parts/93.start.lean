/-! both objects as their constructors leave them; the law's walk -/
theorem s_list : ∃ res : Int32 × Int32 × List Int64 × List Int64 × List Int32 × List Int32, f_X8_start = some res ∧ rF 3 res.1 res.2.2.1 res.2.2.2.1 res.2.2.2.2.1 res.2.2.2.2.2 := by
  obtain ⟨a1, a2, a3, a4, a5, a6, b1, b2⟩ := p_list (n := 3) (by omega) (by omega) (m_fn := List.replicate 900 0) (m_md := List.replicate 900 0) (m_ms := List.replicate 900 0) (m_mr := List.replicate 900 0) List.length_replicate List.length_replicate List.length_replicate List.length_replicate 0 0
  refine ⟨(a1, a2, a3, a4, a5, a6), ?_, b2⟩
  have e3 : (3 : Int32) = nI 3 := rfl
  have e8 : (8 : Int32) = nI (pts 3) := by decide
  unfold f_X8_start
  rw [e3, e8]
  exact b1
theorem s_rA : rA (List.replicate 4 (-1)) (List.replicate 64 0) [-1, -1, -1, -1] (List.replicate 64 0) :=
  ⟨rfl, rfl, rfl, rfl, fun _ _ hv => Or.inl (List.eq_of_mem_replicate (List.mem_of_getElem? hv))⟩
theorem s_rH : rH 3 [] 0 (List.replicate 10 0) (List.replicate 10 0) 0 (List.replicate 10 0) (List.replicate 10 0) (List.replicate 10 0) :=
  ⟨fun q hq => (nomatch hq), ⟨rfl, pre.nil rfl, pre.nil rfl⟩, ⟨rfl, pre.nil rfl, pre.nil rfl, rfl, fun i s t hh => by cases hh⟩⟩
theorem s_rT : rT 0 [] 0 (List.replicate 32 0) 0 (List.replicate 32 0) :=
  ⟨by omega, rfl, fun k hk => absurd hk (by omega), rfl, rfl, pre.nil rfl, pre.nil rfl⟩
theorem s_rI : rI [] 0 (List.replicate 80 0) 0 (List.replicate 80 0) := ⟨fun v hv => (nomatch hv), rfl, rfl, pre.nil rfl, pre.nil rfl⟩
theorem s_rW : rW [] 0 (List.replicate 16 0) 0 (List.replicate 40 0) := ⟨rfl, rfl, pre.nil rfl, pre.nil rfl⟩
theorem s_rV : rV 0 3 0 0 0 (List.replicate 8 (-1)) (List.replicate 32 0) (-1) 0 0 0 (List.replicate 8 0) (List.replicate 8 0) (List.replicate 32 0) := ⟨⟨rfl, rfl, rfl, rfl, rfl⟩, Or.inl ⟨rfl, rfl⟩⟩
theorem s_rG : rG (List.replicate 32 0) (List.replicate 5 0) (List.replicate 4 0) (List.replicate 9 0) (List.replicate 9 0) (List.replicate 5 0) (List.replicate 12 0) (List.replicate 12 0) := ⟨rfl, rfl, rfl, rfl, rfl, rfl, rfl, rfl⟩
theorem s_rN : rN 3 3 3 8 := ⟨by decide, by decide, rfl, rfl, by decide⟩
/-- YOUR PART: from the entry, for every script of at most 2560 ints, the law comes to its end with true -/
theorem whole_start {p : Program} {e : Env} {s : State} {m : MethodId} {below : List Frame} {meth : Method} {c : Code} (l : Launch) (hflags : l.flags = flags0) {b L : Nat} {xs : Nat → Int32} (hL : L ≤ 2560) (C0 : lw_At p s m meth c b L xs) : W p l e room_1 s m #[Value.ref b] below meth c s.heap [] 0 0 (lw_Z below #[Value.ref b] s) (entryFrame m ([Value.ref b] : List Value).toArray 4) := by
  obtain ⟨res, hs, hF⟩ := s_list
  refine start_open l hL C0 (fun E => jJ_api l E) (dM := 4) (by decide) (fun E => ev_newM hs) ?_
  unfold initX
  exact jJ_mk s_rN (rS_none List.length_replicate) s_rH (rP_none 3) s_rT s_rI s_rW s_rA s_rV s_rG hF (Or.inl ⟨rfl, rfl⟩)
