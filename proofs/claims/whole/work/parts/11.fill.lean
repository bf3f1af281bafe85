/-! java.util.Arrays.fill, for any heap -/
theorem set_rep {α : Type} (xs : List α) (v : α) (j : Nat) (hj : j < xs.length) : (List.replicate j v ++ xs.drop j).set j v = List.replicate (j + 1) v ++ xs.drop (j + 1) := by
  apply List.ext_getElem?
  intro i
  have hlen : (List.replicate j v ++ xs.drop j).length = xs.length := by rw [List.length_append, List.length_replicate, List.length_drop]; omega
  by_cases hi : j = i
  · subst hi
    rw [List.getElem?_set_self (by omega), List.getElem?_append_left (by rw [List.length_replicate]; omega), List.getElem?_replicate, if_pos (by omega)]
  · rw [List.getElem?_set_ne hi]
    by_cases h2 : i < j
    · rw [List.getElem?_append_left (by rw [List.length_replicate]; omega), List.getElem?_append_left (by rw [List.length_replicate]; omega), List.getElem?_replicate, List.getElem?_replicate, if_pos h2, if_pos (by omega)]
    · rw [List.getElem?_append_right (by rw [List.length_replicate]; omega), List.getElem?_append_right (by rw [List.length_replicate]; omega), List.length_replicate, List.length_replicate, List.getElem?_drop, List.getElem?_drop]
      congr 1
      omega
def tfill {α : Type} (xs : List α) (v : α) : Option (List α) := if xs.length < 2147483648 then some (List.replicate xs.length v) else none
theorem tfill_some {α : Type} {xs zs : List α} {v : α} (h : tfill xs v = some zs) : xs.length < 2 ^ 31 ∧ zs = List.replicate xs.length v := by
  unfold tfill at h
  split at h
  · next h1 => exact ⟨h1, (Option.some.inj h).symm⟩
  · cases h
theorem tst_nI {α : Type} {xs : List α} {j : Nat} {v : α} (hj : j < xs.length) (hn : xs.length < 2 ^ 31) : tst xs (nI j) v = some (xs.set j v) := by
  unfold tst
  rw [if_neg (nI_pos (by omega)), nI_clamp (by omega), if_neg (by omega)]
theorem tld_nI {α : Type} {xs : List α} {j : Nat} (hj : j < 2 ^ 31) : tld xs (nI j) = xs[j]? := by
  unfold tld
  rw [if_neg (nI_pos hj), nI_clamp hj]
set_option maxHeartbeats 4000000 in
theorem fillI_loop {l : Launch} {E : tEn} {h : tHp} {a : Nat} {xs : List Int32} {v : Int32} (ha : a < h.length) (hn : xs.length < 2 ^ 31) : ∀ (m j : Nat), j + m = xs.length →
    tG l E RJ7 cJ7_fill_53178 4 none false 1 (fun r h1 => r = none ∧ h1 = h.set a (.inr (.inl (List.replicate xs.length v)))) 0 0 5 [(0, .ref a), (1, .int v), (2, .int (nI j)), (3, .int (nI xs.length))] [] (h.set a (.inr (.inl (List.replicate j v ++ xs.drop j)))) := by
  intro m
  induction m with
  | zero =>
    intro j hj
    refine g_iload_n 2 (q := 6) dJ7_fill_53178_5 rfl rfl ?_
    refine g_iload_n 3 (q := 7) dJ7_fill_53178_6 rfl rfl ?_
    refine g_icmp_ge (t := 20) (q := 10) dJ7_fill_53178_7 (by decide) rfl (fun c => ?_) (fun c => absurd (nI_le (by omega) (by omega)) c)
    refine g_return dJ7_fill_53178_20 rfl ⟨rfl, ?_⟩
    have : j = xs.length := by omega
    subst this
    rw [List.drop_length, List.append_nil]
  | succ m ih =>
    intro j hj
    have hlen : (List.replicate j v ++ xs.drop j).length = xs.length := by rw [List.length_append, List.length_replicate, List.length_drop]; omega
    refine g_iload_n 2 (q := 6) dJ7_fill_53178_5 rfl rfl ?_
    refine g_iload_n 3 (q := 7) dJ7_fill_53178_6 rfl rfl ?_
    refine g_icmp_ge (t := 20) (q := 10) dJ7_fill_53178_7 (by decide) rfl (fun c => absurd c (nI_ge (by omega) hn)) (fun c => ?_)
    refine g_aload_n 0 (q := 11) dJ7_fill_53178_10 rfl rfl ?_
    refine g_iload_n 2 (q := 12) dJ7_fill_53178_11 rfl rfl ?_
    refine g_iload_n 1 (q := 13) dJ7_fill_53178_12 rfl rfl ?_
    refine g_iastore (q := 14) (ys := List.replicate (j + 1) v ++ xs.drop (j + 1)) dJ7_fill_53178_13 rfl (List.getElem?_set_self ha) (by rw [tst_nI (by omega) (by omega), set_rep xs v j (by omega)]) (by rw [List.set_set]) ?_
    refine g_iinc 2 (q := 17) (v := nI (j + 1)) (L' := [(0, .ref a), (1, .int v), (2, .int (nI (j + 1))), (3, .int (nI xs.length))]) dJ7_fill_53178_14 rfl rfl (by rw [nI_succ]; rfl) (by decide) rfl ?_
    refine g_goto (t := 5) dJ7_fill_53178_17 (by decide) ?_
    exact ih (j + 1) (by omega)
set_option maxHeartbeats 4000000 in
theorem ev_fillI {l : Launch} {E : tEn} {h h' : tHp} {a : Nat} {xs zs : List Int32} {v : Int32} (hc : h[a]? = some (.inr (.inl xs))) (hv : tfill xs v = some zs) (hh : h.set a (.inr (.inl zs)) = h') : tEv l E yJ7_fill_53178 cJ7_fill_53178 4 none 1 0 0 [.ref a, .int v] h (fun r h1 => r = none ∧ h1 = h') := by
  obtain ⟨hn, rfl⟩ := tfill_some hv
  subst hh
  refine tEv.of (own := RJ7) (ini := false) (L := [(0, .ref a), (1, .int v)]) (by decide +kernel) rfl (fun h9 => nomatch h9) rfl (Nat.le_of_ble_eq_true rfl) ?_
  refine g_iconst (q := 1) (v := nI 0) dJ7_fill_53178_0 rfl rfl ?_
  refine g_istore_n (q := 2) (L' := [(0, .ref a), (1, .int v), (2, .int (nI 0))]) dJ7_fill_53178_1 rfl (by decide) rfl ?_
  refine g_aload_n 0 (q := 3) dJ7_fill_53178_2 rfl rfl ?_
  refine g_alenI (q := 4) (v := nI xs.length) dJ7_fill_53178_3 rfl hc rfl ?_
  refine g_istore_n (q := 5) (L' := [(0, .ref a), (1, .int v), (2, .int (nI 0)), (3, .int (nI xs.length))]) dJ7_fill_53178_4 rfl (by decide) rfl ?_
  have K := fillI_loop (l := l) (E := E) (v := v) (List.getElem?_eq_some_iff.mp hc).1 hn xs.length 0 (by omega)
  have e : h.set a (.inr (.inl (List.replicate 0 v ++ xs.drop 0))) = h := by
    show h.set a (.inr (.inl xs)) = h
    apply List.ext_getElem?
    intro i
    by_cases hi : a = i
    · subst hi; rw [List.getElem?_set_self (List.getElem?_eq_some_iff.mp hc).1, hc]
    · rw [List.getElem?_set_ne hi]
  rw [e] at K
  exact K
set_option maxHeartbeats 4000000 in
theorem fillJ_loop {l : Launch} {E : tEn} {h : tHp} {a : Nat} {xs : List Int64} {v : Int64} (ha : a < h.length) (hn : xs.length < 2 ^ 31) : ∀ (m j : Nat), j + m = xs.length →
    tG l E RJ7 cJ7_fill_d0a16 5 none false 1 (fun r h1 => r = none ∧ h1 = h.set a (.inr (.inr (.inl (List.replicate xs.length v))))) 0 0 6 [(0, .ref a), (1, .long v), (3, .int (nI j)), (4, .int (nI xs.length))] [] (h.set a (.inr (.inr (.inl (List.replicate j v ++ xs.drop j))))) := by
  intro m
  induction m with
  | zero =>
    intro j hj
    refine g_iload_n 2 (q := 7) dJ7_fill_d0a16_6 rfl rfl ?_
    refine g_iload 3 (q := 9) dJ7_fill_d0a16_7 rfl rfl ?_
    refine g_icmp_ge (t := 22) (q := 12) dJ7_fill_d0a16_9 (by decide) rfl (fun c => ?_) (fun c => absurd (nI_le (by omega) (by omega)) c)
    refine g_return dJ7_fill_d0a16_22 rfl ⟨rfl, ?_⟩
    have : j = xs.length := by omega
    subst this
    rw [List.drop_length, List.append_nil]
  | succ m ih =>
    intro j hj
    have hlen : (List.replicate j v ++ xs.drop j).length = xs.length := by rw [List.length_append, List.length_replicate, List.length_drop]; omega
    refine g_iload_n 2 (q := 7) dJ7_fill_d0a16_6 rfl rfl ?_
    refine g_iload 3 (q := 9) dJ7_fill_d0a16_7 rfl rfl ?_
    refine g_icmp_ge (t := 22) (q := 12) dJ7_fill_d0a16_9 (by decide) rfl (fun c => absurd c (nI_ge (by omega) hn)) (fun c => ?_)
    refine g_aload_n 0 (q := 13) dJ7_fill_d0a16_12 rfl rfl ?_
    refine g_iload_n 2 (q := 14) dJ7_fill_d0a16_13 rfl rfl ?_
    refine g_lload_n 1 (q := 15) dJ7_fill_d0a16_14 rfl rfl ?_
    refine g_lastore (q := 16) (ys := List.replicate (j + 1) v ++ xs.drop (j + 1)) dJ7_fill_d0a16_15 rfl (List.getElem?_set_self ha) (by rw [tst_nI (by omega) (by omega), set_rep xs v j (by omega)]) (by rw [List.set_set]) ?_
    refine g_iinc 2 (q := 19) (v := nI (j + 1)) (L' := [(0, .ref a), (1, .long v), (3, .int (nI (j + 1))), (4, .int (nI xs.length))]) dJ7_fill_d0a16_16 rfl rfl (by rw [nI_succ]; rfl) (by decide) rfl ?_
    refine g_goto (t := 6) dJ7_fill_d0a16_19 (by decide) ?_
    exact ih (j + 1) (by omega)
set_option maxHeartbeats 4000000 in
theorem ev_fillJ {l : Launch} {E : tEn} {h h' : tHp} {a : Nat} {xs zs : List Int64} {v : Int64} (hc : h[a]? = some (.inr (.inr (.inl xs)))) (hv : tfill xs v = some zs) (hh : h.set a (.inr (.inr (.inl zs))) = h') : tEv l E yJ7_fill_d0a16 cJ7_fill_d0a16 5 none 1 0 0 [.ref a, .long v] h (fun r h1 => r = none ∧ h1 = h') := by
  obtain ⟨hn, rfl⟩ := tfill_some hv
  subst hh
  refine tEv.of (own := RJ7) (ini := false) (L := [(0, .ref a), (1, .long v)]) (by decide +kernel) rfl (fun h9 => nomatch h9) rfl (Nat.le_of_ble_eq_true rfl) ?_
  refine g_iconst (q := 1) (v := nI 0) dJ7_fill_d0a16_0 rfl rfl ?_
  refine g_istore_n (q := 2) (L' := [(0, .ref a), (1, .long v), (3, .int (nI 0))]) dJ7_fill_d0a16_1 rfl (by decide) rfl ?_
  refine g_aload_n 0 (q := 3) dJ7_fill_d0a16_2 rfl rfl ?_
  refine g_alenJ (q := 4) (v := nI xs.length) dJ7_fill_d0a16_3 rfl hc rfl ?_
  refine g_istore (q := 6) (L' := [(0, .ref a), (1, .long v), (3, .int (nI 0)), (4, .int (nI xs.length))]) dJ7_fill_d0a16_4 rfl (by decide) rfl ?_
  have K := fillJ_loop (l := l) (E := E) (v := v) (List.getElem?_eq_some_iff.mp hc).1 hn xs.length 0 (by omega)
  have e : h.set a (.inr (.inr (.inl (List.replicate 0 v ++ xs.drop 0)))) = h := by
    show h.set a (.inr (.inr (.inl xs))) = h
    apply List.ext_getElem?
    intro i
    by_cases hi : a = i
    · subst hi; rw [List.getElem?_set_self (List.getElem?_eq_some_iff.mp hc).1, hc]
    · rw [List.getElem?_set_ne hi]
  rw [e] at K
  exact K
