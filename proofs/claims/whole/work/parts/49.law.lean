set_option maxRecDepth 20000 in
set_option maxHeartbeats 8000000 in
theorem law_loop {p : Program} {l : Launch} {e : Env} {s : State} {m : MethodId} {below : List Frame} {meth : Method} {c : Code} {b L : Nat} {xs : Nat → Int32} {E : tEn} {J : tHp → tHp → Prop} (hL : L ≤ 2560) (C0 : lw_At p s m meth c b L xs) (hU : tU E (fun q => s.heap.size ≤ q) s) (hA : tApi l E J) :
    ∀ (n i : Nat), i ≤ L → L < i + 5 * n + 5 → ∀ (hX hM : tHp), J hX hM → ∀ (aX aM : List Nat) (H : Heap) (locs : List Loc) (cells slots : Nat), tW2 E (fun q => s.heap.size ≤ q) aX aM hX hM H → va_S (fun q => s.heap.size ≤ q) s.heap H locs → cells + 3 * n ≤ 600000 → slots + 873 * n ≤ 7302250 → ∀ (ls : Array Slot), lv_has ls 4 [(0, .ref b), (1, .ref (tad E aX 0)), (2, .ref (tad E aM 0)), (3, .int (nI i))] →
      W p l e room_1 s m #[Value.ref b] below meth c H locs cells slots (lw_Z below #[Value.ref b] s) (F0 m 18 ls []) := by
  obtain ⟨hx, hb, hr, hmx, hown, -, hXs, hbl, hlocks, hgv⟩ := id C0
  have hbA : ¬ (fun q : Nat => s.heap.size ≤ q) b := Nat.not_le.mpr hbl
  have head : ∀ (i : Nat) (H : Heap) (locs : List Loc) (cells slots : Nat) (ls : Array Slot) (p1 p2 : Value), i ≤ L → va_S (fun q => s.heap.size ≤ q) s.heap H locs → cells ≤ 600000 → slots ≤ 7302250 → lv_has ls 4 [(0, .ref b), (1, p1), (2, p2), (3, .int (nI i))] → (i + 5 ≤ L → W p l e room_1 s m #[Value.ref b] below meth c H locs cells slots (lw_Z below #[Value.ref b] s) (F0 m 26 ls [])) → W p l e room_1 s m #[Value.ref b] below meth c H locs cells slots (lw_Z below #[Value.ref b] s) (F0 m 18 ls []) := by
    intro i H locs cells slots ls p1 p2 hi hS hc hs hl kk
    refine lv_iload_n hx hb dL_law_18 rfl (lv_at hl 3 rfl) ?_
    refine lv_aload_n hx hb dL_law_19 rfl (lv_at hl 0 rfl) ?_
    refine va_slen (A := fun q => s.heap.size ≤ q) hx hb hXs hbl hbA hS dL_law_20 ?_
    refine lv_iconst (v := nI 5) hx hb dL_law_21 rfl ?_
    refine lv_isub hx hb dL_law_22 ?_
    have hcmp : nI L - nI 5 < nI i ↔ L < i + 5 := by
      rw [Int32.lt_iff_toInt_lt, pk_sub_toInt (by omega) (by omega), nI_toInt (by omega)]
      omega
    refine lv_icmp_gt (tgt := 1624) hx hb dL_law_23 (by decide) (fun c1 => ?_) (fun c1 => kk ?_)
    · refine lv_iconst (v := 1) hx hb dL_law_1624 (by decide) ?_
      refine va_forget (fun q hq => hS.2.2 q hq) ?_
      refine W.widen (k := 600000) (n := 7302250) hc hs ?_
      exact lw_ret hx hb hr hlocks dL_law_1625
    · have c1 : ¬ nI L - nI 5 < nI i := c1
      rw [hcmp] at c1
      omega
  intro n
  induction n with
  | zero =>
    intro i hi hn hX hM hJ aX aM H locs cells slots hw hS hc hs ls hl
    exact head i H locs cells slots ls _ _ hi hS (by omega) (by omega) hl (fun h9 => absurd h9 (by omega))
  | succ n ih =>
    intro i hi hn hX hM hJ aX aM H locs cells slots hw hS hc hs ls hl
    refine head i H locs cells slots ls _ _ hi hS (by omega) (by omega) hl (fun hlt => ?_)
    have hK : ∀ (hX' hM' : tHp) (aX' aM' : List Nat) (H' : Heap) (locs' : List Loc) (cells' slots' : Nat), J hX' hM' → tW2 E (fun q => s.heap.size ≤ q) aX' aM' hX' hM' H' → va_S (fun q => s.heap.size ≤ q) s.heap H' locs' → cells' ≤ cells + 3 → slots' ≤ slots + 873 → lv_has ls 4 [(0, .ref b), (1, .ref (tad E aX' 0)), (2, .ref (tad E aM' 0)), (3, .int (nI i))] → W p l e room_1 s m #[Value.ref b] below meth c H' locs' cells' slots' (lw_Z below #[Value.ref b] s) (F0 m 1618 ls []) := by
      intro hX' hM' aX' aM' H' locs' cells' slots' hJ' hw' hS' hc' hs' hl'
      refine lv_iinc (v := nI (i + 5)) (lv' := [(3, .int (nI (i + 5))), (0, .ref b), (1, .ref (tad E aX' 0)), (2, .ref (tad E aM' 0))]) hx hb dL_law_1618 hl' (k := 3) rfl (nI_add i 5) (by decide) rfl (fun ls2 hl2 => ?_)
      refine lv_goto (tgt := 18) hx hb dL_law_1621 (by decide) ?_
      exact ih (i + 5) (by omega) (by omega) hX' hM' hJ' aX' aM' H' locs' cells' slots' hw' hS' (by omega) (by omega) ls2 (lv_sub hl2 [1, 2, 3, 0] rfl)
    refine lv_aload_n hx hb dL_law_26 rfl (lv_at hl 0 rfl) ?_
    refine lv_iload_n hx hb dL_law_27 rfl (lv_at hl 3 rfl) ?_
    refine va_sld (A := fun q => s.heap.size ≤ q) hx hb hXs hbl hbA hS (vp_in_nI (by omega) (by omega)) dL_law_28 ?_
    refine lv_bipush (v := 63) hx hb dL_law_29 rfl ?_
    refine lv_iand hx hb dL_law_31 ?_
    obtain ⟨j, hj, ej⟩ := pk_andE (xs (nI i).toNatClampNeg) (m := 63) 6 rfl
    rw [ej]
    obtain ⟨⟨fX, hcX⟩, ⟨fM, hcM⟩, -⟩ := hA hX hM hJ
    have hap := hA hX hM hJ
    by_cases hj48 : j < 48
    · match j, hj48 with
      | 0, hj9 =>
        refine lv_tableIn (tgt := 240) hx hb dL_law_32 (by rw [nI_toInt (by decide)]; decide) (by rw [nI_toInt (by decide)]; decide) (by rw [nI_toInt (by decide)]; rfl) (by decide) ?_
        exact law_c0 C0 hU hL hlt hl (by omega) (by omega) hcX hcM hw hS hap.2.2.1 hK
      | 1, hj9 =>
        refine lv_tableIn (tgt := 263) hx hb dL_law_32 (by rw [nI_toInt (by decide)]; decide) (by rw [nI_toInt (by decide)]; decide) (by rw [nI_toInt (by decide)]; rfl) (by decide) ?_
        exact law_c1 C0 hU hL hlt hl (by omega) (by omega) hcX hcM hw hS hap.2.2.2.1 hK
      | 2, hj9 =>
        refine lv_tableIn (tgt := 276) hx hb dL_law_32 (by rw [nI_toInt (by decide)]; decide) (by rw [nI_toInt (by decide)]; decide) (by rw [nI_toInt (by decide)]; rfl) (by decide) ?_
        exact law_c2 C0 hU hL hlt hl (by omega) (by omega) hcX hcM hw hS hap.2.2.2.2.1 hK
      | 3, hj9 =>
        refine lv_tableIn (tgt := 339) hx hb dL_law_32 (by rw [nI_toInt (by decide)]; decide) (by rw [nI_toInt (by decide)]; decide) (by rw [nI_toInt (by decide)]; rfl) (by decide) ?_
        exact law_c3 C0 hU hL hlt hl (by omega) (by omega) hcX hcM hw hS hap.2.2.2.2.2.1 hK
      | 4, hj9 =>
        refine lv_tableIn (tgt := 363) hx hb dL_law_32 (by rw [nI_toInt (by decide)]; decide) (by rw [nI_toInt (by decide)]; decide) (by rw [nI_toInt (by decide)]; rfl) (by decide) ?_
        exact law_c4 C0 hU hL hlt hl (by omega) (by omega) hcX hcM hw hS hap.2.2.2.2.2.2.1 hK
      | 5, hj9 =>
        refine lv_tableIn (tgt := 386) hx hb dL_law_32 (by rw [nI_toInt (by decide)]; decide) (by rw [nI_toInt (by decide)]; decide) (by rw [nI_toInt (by decide)]; rfl) (by decide) ?_
        exact law_c5 C0 hU hL hlt hl (by omega) (by omega) hcX hcM hw hS hap.2.2.2.2.2.2.2.1 hK
      | 6, hj9 =>
        refine lv_tableIn (tgt := 419) hx hb dL_law_32 (by rw [nI_toInt (by decide)]; decide) (by rw [nI_toInt (by decide)]; decide) (by rw [nI_toInt (by decide)]; rfl) (by decide) ?_
        exact law_c6 C0 hU hL hlt hl (by omega) (by omega) hcX hcM hw hS hap.2.2.2.2.2.2.2.2.1 hK
      | 7, hj9 =>
        refine lv_tableIn (tgt := 442) hx hb dL_law_32 (by rw [nI_toInt (by decide)]; decide) (by rw [nI_toInt (by decide)]; decide) (by rw [nI_toInt (by decide)]; rfl) (by decide) ?_
        exact law_c7 C0 hU hL hlt hl (by omega) (by omega) hcX hcM hw hS hap.2.2.2.2.2.2.2.2.2.1 hK
      | 8, hj9 =>
        refine lv_tableIn (tgt := 465) hx hb dL_law_32 (by rw [nI_toInt (by decide)]; decide) (by rw [nI_toInt (by decide)]; decide) (by rw [nI_toInt (by decide)]; rfl) (by decide) ?_
        exact law_c8 C0 hU hL hlt hl (by omega) (by omega) hcX hcM hw hS hap.2.2.2.2.2.2.2.2.2.2.1 hK
      | 9, hj9 =>
        refine lv_tableIn (tgt := 488) hx hb dL_law_32 (by rw [nI_toInt (by decide)]; decide) (by rw [nI_toInt (by decide)]; decide) (by rw [nI_toInt (by decide)]; rfl) (by decide) ?_
        exact law_c9 C0 hU hL hlt hl (by omega) (by omega) hcX hcM hw hS hap.2.2.2.2.2.2.2.2.2.2.2.1 hK
      | 10, hj9 =>
        refine lv_tableIn (tgt := 511) hx hb dL_law_32 (by rw [nI_toInt (by decide)]; decide) (by rw [nI_toInt (by decide)]; decide) (by rw [nI_toInt (by decide)]; rfl) (by decide) ?_
        exact law_c10 C0 hU hL hlt hl (by omega) (by omega) hcX hcM hw hS hap.2.2.2.2.2.2.2.2.2.2.2.2.1 hK
      | 11, hj9 =>
        refine lv_tableIn (tgt := 544) hx hb dL_law_32 (by rw [nI_toInt (by decide)]; decide) (by rw [nI_toInt (by decide)]; decide) (by rw [nI_toInt (by decide)]; rfl) (by decide) ?_
        exact law_c11 C0 hU hL hlt hl (by omega) (by omega) hcX hcM hw hS hap.2.2.2.2.2.2.2.2.2.2.2.2.2.1 hK
      | 12, hj9 =>
        refine lv_tableIn (tgt := 577) hx hb dL_law_32 (by rw [nI_toInt (by decide)]; decide) (by rw [nI_toInt (by decide)]; decide) (by rw [nI_toInt (by decide)]; rfl) (by decide) ?_
        exact law_c12 C0 hU hL hlt hl (by omega) (by omega) hcX hcM hw hS hap.2.2.2.2.2.2.2.2.2.2.2.2.2.2.1 hK
      | 13, hj9 =>
        refine lv_tableIn (tgt := 610) hx hb dL_law_32 (by rw [nI_toInt (by decide)]; decide) (by rw [nI_toInt (by decide)]; decide) (by rw [nI_toInt (by decide)]; rfl) (by decide) ?_
        exact law_c13 C0 hU hL hlt hl (by omega) (by omega) hcX hcM hw hS hap.2.2.2.2.2.2.2.2.2.2.2.2.2.2.2.1 hK
      | 14, hj9 =>
        refine lv_tableIn (tgt := 633) hx hb dL_law_32 (by rw [nI_toInt (by decide)]; decide) (by rw [nI_toInt (by decide)]; decide) (by rw [nI_toInt (by decide)]; rfl) (by decide) ?_
        exact law_c14 C0 hU hL hlt hl (by omega) (by omega) hcX hcM hw hS hap.2.2.2.2.2.2.2.2.2.2.2.2.2.2.2.2.1 hK
      | 15, hj9 =>
        refine lv_tableIn (tgt := 656) hx hb dL_law_32 (by rw [nI_toInt (by decide)]; decide) (by rw [nI_toInt (by decide)]; decide) (by rw [nI_toInt (by decide)]; rfl) (by decide) ?_
        exact law_c15 C0 hU hL hlt hl (by omega) (by omega) hcX hcM hw hS hap.2.2.2.2.2.2.2.2.2.2.2.2.2.2.2.2.2.1 hK
      | 16, hj9 =>
        refine lv_tableIn (tgt := 679) hx hb dL_law_32 (by rw [nI_toInt (by decide)]; decide) (by rw [nI_toInt (by decide)]; decide) (by rw [nI_toInt (by decide)]; rfl) (by decide) ?_
        exact law_c16 C0 hU hL hlt hl (by omega) (by omega) hcX hcM hw hS hap.2.2.2.2.2.2.2.2.2.2.2.2.2.2.2.2.2.2.1 hK
      | 17, hj9 =>
        refine lv_tableIn (tgt := 712) hx hb dL_law_32 (by rw [nI_toInt (by decide)]; decide) (by rw [nI_toInt (by decide)]; decide) (by rw [nI_toInt (by decide)]; rfl) (by decide) ?_
        exact law_c17 C0 hU hL hlt hl (by omega) (by omega) hcX hcM hw hS hap.2.2.2.2.2.2.2.2.2.2.2.2.2.2.2.2.2.2.2.1 hK
      | 18, hj9 =>
        refine lv_tableIn (tgt := 745) hx hb dL_law_32 (by rw [nI_toInt (by decide)]; decide) (by rw [nI_toInt (by decide)]; decide) (by rw [nI_toInt (by decide)]; rfl) (by decide) ?_
        exact law_c18 C0 hU hL hlt hl (by omega) (by omega) hcX hcM hw hS hap.2.2.2.2.2.2.2.2.2.2.2.2.2.2.2.2.2.2.2.2.1 hK
      | 19, hj9 =>
        refine lv_tableIn (tgt := 778) hx hb dL_law_32 (by rw [nI_toInt (by decide)]; decide) (by rw [nI_toInt (by decide)]; decide) (by rw [nI_toInt (by decide)]; rfl) (by decide) ?_
        exact law_c19 C0 hU hL hlt hl (by omega) (by omega) hcX hcM hw hS hap.2.2.2.2.2.2.2.2.2.2.2.2.2.2.2.2.2.2.2.2.2.1 hK
      | 20, hj9 =>
        refine lv_tableIn (tgt := 801) hx hb dL_law_32 (by rw [nI_toInt (by decide)]; decide) (by rw [nI_toInt (by decide)]; decide) (by rw [nI_toInt (by decide)]; rfl) (by decide) ?_
        exact law_c20 C0 hU hL hlt hl (by omega) (by omega) hcX hcM hw hS hap.2.2.2.2.2.2.2.2.2.2.2.2.2.2.2.2.2.2.2.2.2.2.1 hK
      | 21, hj9 =>
        refine lv_tableIn (tgt := 824) hx hb dL_law_32 (by rw [nI_toInt (by decide)]; decide) (by rw [nI_toInt (by decide)]; decide) (by rw [nI_toInt (by decide)]; rfl) (by decide) ?_
        exact law_c21 C0 hU hL hlt hl (by omega) (by omega) hcX hcM hw hS hap.2.2.2.2.2.2.2.2.2.2.2.2.2.2.2.2.2.2.2.2.2.2.2.1 hK
      | 22, hj9 =>
        refine lv_tableIn (tgt := 847) hx hb dL_law_32 (by rw [nI_toInt (by decide)]; decide) (by rw [nI_toInt (by decide)]; decide) (by rw [nI_toInt (by decide)]; rfl) (by decide) ?_
        exact law_c22 C0 hU hL hlt hl (by omega) (by omega) hcX hcM hw hS hap.2.2.2.2.2.2.2.2.2.2.2.2.2.2.2.2.2.2.2.2.2.2.2.2.1 hK
      | 23, hj9 =>
        refine lv_tableIn (tgt := 870) hx hb dL_law_32 (by rw [nI_toInt (by decide)]; decide) (by rw [nI_toInt (by decide)]; decide) (by rw [nI_toInt (by decide)]; rfl) (by decide) ?_
        exact law_c23 C0 hU hL hlt hl (by omega) (by omega) hcX hcM hw hS hap.2.2.2.2.2.2.2.2.2.2.2.2.2.2.2.2.2.2.2.2.2.2.2.2.2.1 hK
      | 24, hj9 =>
        refine lv_tableIn (tgt := 923) hx hb dL_law_32 (by rw [nI_toInt (by decide)]; decide) (by rw [nI_toInt (by decide)]; decide) (by rw [nI_toInt (by decide)]; rfl) (by decide) ?_
        exact law_c24 C0 hU hL hlt hl (by omega) (by omega) hcX hcM hw hS hap.2.2.2.2.2.2.2.2.2.2.2.2.2.2.2.2.2.2.2.2.2.2.2.2.2.2.1 hK
      | 25, hj9 =>
        refine lv_tableIn (tgt := 956) hx hb dL_law_32 (by rw [nI_toInt (by decide)]; decide) (by rw [nI_toInt (by decide)]; decide) (by rw [nI_toInt (by decide)]; rfl) (by decide) ?_
        exact law_c25 C0 hU hL hlt hl (by omega) (by omega) hcX hcM hw hS hap.2.2.2.2.2.2.2.2.2.2.2.2.2.2.2.2.2.2.2.2.2.2.2.2.2.2.2.1 hK
      | 26, hj9 =>
        refine lv_tableIn (tgt := 1009) hx hb dL_law_32 (by rw [nI_toInt (by decide)]; decide) (by rw [nI_toInt (by decide)]; decide) (by rw [nI_toInt (by decide)]; rfl) (by decide) ?_
        exact law_c26 C0 hU hL hlt hl (by omega) (by omega) hcX hcM hw hS hap.2.2.2.2.2.2.2.2.2.2.2.2.2.2.2.2.2.2.2.2.2.2.2.2.2.2.2.2.1 hK
      | 27, hj9 =>
        refine lv_tableIn (tgt := 1062) hx hb dL_law_32 (by rw [nI_toInt (by decide)]; decide) (by rw [nI_toInt (by decide)]; decide) (by rw [nI_toInt (by decide)]; rfl) (by decide) ?_
        exact law_c27 C0 hU hL hlt hl (by omega) (by omega) hcX hcM hw hS hap.2.2.2.2.2.2.2.2.2.2.2.2.2.2.2.2.2.2.2.2.2.2.2.2.2.2.2.2.2.1 hK
      | 28, hj9 =>
        refine lv_tableIn (tgt := 1115) hx hb dL_law_32 (by rw [nI_toInt (by decide)]; decide) (by rw [nI_toInt (by decide)]; decide) (by rw [nI_toInt (by decide)]; rfl) (by decide) ?_
        exact law_c28 C0 hU hL hlt hl (by omega) (by omega) hcX hcM hw hS hap.2.2.2.2.2.2.2.2.2.2.2.2.2.2.2.2.2.2.2.2.2.2.2.2.2.2.2.2.2.2.1 hK
      | 29, hj9 =>
        refine lv_tableIn (tgt := 1158) hx hb dL_law_32 (by rw [nI_toInt (by decide)]; decide) (by rw [nI_toInt (by decide)]; decide) (by rw [nI_toInt (by decide)]; rfl) (by decide) ?_
        exact law_c29 C0 hU hL hlt hl (by omega) (by omega) hcX hcM hw hS hap.2.2.2.2.2.2.2.2.2.2.2.2.2.2.2.2.2.2.2.2.2.2.2.2.2.2.2.2.2.2.2.1 hK
      | 30, hj9 =>
        refine lv_tableIn (tgt := 1201) hx hb dL_law_32 (by rw [nI_toInt (by decide)]; decide) (by rw [nI_toInt (by decide)]; decide) (by rw [nI_toInt (by decide)]; rfl) (by decide) ?_
        exact law_c30 C0 hU hL hlt hl (by omega) (by omega) hcX hcM hw hS hap.2.2.2.2.2.2.2.2.2.2.2.2.2.2.2.2.2.2.2.2.2.2.2.2.2.2.2.2.2.2.2.2.1 hK
      | 31, hj9 =>
        refine lv_tableIn (tgt := 1234) hx hb dL_law_32 (by rw [nI_toInt (by decide)]; decide) (by rw [nI_toInt (by decide)]; decide) (by rw [nI_toInt (by decide)]; rfl) (by decide) ?_
        exact law_c31 C0 hU hL hlt hl (by omega) (by omega) hcX hcM hw hS hap.2.2.2.2.2.2.2.2.2.2.2.2.2.2.2.2.2.2.2.2.2.2.2.2.2.2.2.2.2.2.2.2.2.1 hK
      | 32, hj9 =>
        refine lv_tableIn (tgt := 1257) hx hb dL_law_32 (by rw [nI_toInt (by decide)]; decide) (by rw [nI_toInt (by decide)]; decide) (by rw [nI_toInt (by decide)]; rfl) (by decide) ?_
        exact law_c32 C0 hU hL hlt hl (by omega) (by omega) hcX hcM hw hS hap.2.2.2.2.2.2.2.2.2.2.2.2.2.2.2.2.2.2.2.2.2.2.2.2.2.2.2.2.2.2.2.2.2.2.1 hK
      | 33, hj9 =>
        refine lv_tableIn (tgt := 1270) hx hb dL_law_32 (by rw [nI_toInt (by decide)]; decide) (by rw [nI_toInt (by decide)]; decide) (by rw [nI_toInt (by decide)]; rfl) (by decide) ?_
        exact law_c33 C0 hU hL hlt hl (by omega) (by omega) hcX hcM hw hS hap.2.2.2.2.2.2.2.2.2.2.2.2.2.2.2.2.2.2.2.2.2.2.2.2.2.2.2.2.2.2.2.2.2.2.2.1 hK
      | 34, hj9 =>
        refine lv_tableIn (tgt := 1294) hx hb dL_law_32 (by rw [nI_toInt (by decide)]; decide) (by rw [nI_toInt (by decide)]; decide) (by rw [nI_toInt (by decide)]; rfl) (by decide) ?_
        exact law_c34 C0 hU hL hlt hl (by omega) (by omega) hcX hcM hw hS hap.2.2.2.2.2.2.2.2.2.2.2.2.2.2.2.2.2.2.2.2.2.2.2.2.2.2.2.2.2.2.2.2.2.2.2.2.1 hK
      | 35, hj9 =>
        refine lv_tableIn (tgt := 1308) hx hb dL_law_32 (by rw [nI_toInt (by decide)]; decide) (by rw [nI_toInt (by decide)]; decide) (by rw [nI_toInt (by decide)]; rfl) (by decide) ?_
        exact law_c35 C0 hU hL hlt hl (by omega) (by omega) hcX hcM hw hS hap.2.2.2.2.2.2.2.2.2.2.2.2.2.2.2.2.2.2.2.2.2.2.2.2.2.2.2.2.2.2.2.2.2.2.2.2.2.1 hK
      | 36, hj9 =>
        refine lv_tableIn (tgt := 1331) hx hb dL_law_32 (by rw [nI_toInt (by decide)]; decide) (by rw [nI_toInt (by decide)]; decide) (by rw [nI_toInt (by decide)]; rfl) (by decide) ?_
        exact law_c36 C0 hU hL hlt hl (by omega) (by omega) hcX hcM hw hS hap.2.2.2.2.2.2.2.2.2.2.2.2.2.2.2.2.2.2.2.2.2.2.2.2.2.2.2.2.2.2.2.2.2.2.2.2.2.2.1 hK
      | 37, hj9 =>
        refine lv_tableIn (tgt := 1384) hx hb dL_law_32 (by rw [nI_toInt (by decide)]; decide) (by rw [nI_toInt (by decide)]; decide) (by rw [nI_toInt (by decide)]; rfl) (by decide) ?_
        exact law_c37 C0 hU hL hlt hl (by omega) (by omega) hcX hcM hw hS hap.2.2.2.2.2.2.2.2.2.2.2.2.2.2.2.2.2.2.2.2.2.2.2.2.2.2.2.2.2.2.2.2.2.2.2.2.2.2.2.1 hK
      | 38, hj9 =>
        refine lv_tableIn (tgt := 1397) hx hb dL_law_32 (by rw [nI_toInt (by decide)]; decide) (by rw [nI_toInt (by decide)]; decide) (by rw [nI_toInt (by decide)]; rfl) (by decide) ?_
        exact law_c38 C0 hU hL hlt hl (by omega) (by omega) hcX hcM hw hS hap.2.2.2.2.2.2.2.2.2.2.2.2.2.2.2.2.2.2.2.2.2.2.2.2.2.2.2.2.2.2.2.2.2.2.2.2.2.2.2.2.1 hK
      | 39, hj9 =>
        refine lv_tableIn (tgt := 1410) hx hb dL_law_32 (by rw [nI_toInt (by decide)]; decide) (by rw [nI_toInt (by decide)]; decide) (by rw [nI_toInt (by decide)]; rfl) (by decide) ?_
        exact law_c39 C0 hU hL hlt hl (by omega) (by omega) hcX hcM hw hS hap.2.2.2.2.2.2.2.2.2.2.2.2.2.2.2.2.2.2.2.2.2.2.2.2.2.2.2.2.2.2.2.2.2.2.2.2.2.2.2.2.2.1 hK
      | 40, hj9 =>
        refine lv_tableIn (tgt := 1423) hx hb dL_law_32 (by rw [nI_toInt (by decide)]; decide) (by rw [nI_toInt (by decide)]; decide) (by rw [nI_toInt (by decide)]; rfl) (by decide) ?_
        exact law_c40 C0 hU hL hlt hl (by omega) (by omega) hcX hcM hw hS hap.2.2.2.2.2.2.2.2.2.2.2.2.2.2.2.2.2.2.2.2.2.2.2.2.2.2.2.2.2.2.2.2.2.2.2.2.2.2.2.2.2.2.1 hK
      | 41, hj9 =>
        refine lv_tableIn (tgt := 1436) hx hb dL_law_32 (by rw [nI_toInt (by decide)]; decide) (by rw [nI_toInt (by decide)]; decide) (by rw [nI_toInt (by decide)]; rfl) (by decide) ?_
        exact law_c41 C0 hU hL hlt hl (by omega) (by omega) hcX hcM hw hS hap.2.2.2.2.2.2.2.2.2.2.2.2.2.2.2.2.2.2.2.2.2.2.2.2.2.2.2.2.2.2.2.2.2.2.2.2.2.2.2.2.2.2.2.1 hK
      | 42, hj9 =>
        refine lv_tableIn (tgt := 1449) hx hb dL_law_32 (by rw [nI_toInt (by decide)]; decide) (by rw [nI_toInt (by decide)]; decide) (by rw [nI_toInt (by decide)]; rfl) (by decide) ?_
        exact law_c42 C0 hU hL hlt hl (by omega) (by omega) hcX hcM hw hS hap.2.2.2.2.2.2.2.2.2.2.2.2.2.2.2.2.2.2.2.2.2.2.2.2.2.2.2.2.2.2.2.2.2.2.2.2.2.2.2.2.2.2.2.2.1 hK
      | 43, hj9 =>
        refine lv_tableIn (tgt := 1482) hx hb dL_law_32 (by rw [nI_toInt (by decide)]; decide) (by rw [nI_toInt (by decide)]; decide) (by rw [nI_toInt (by decide)]; rfl) (by decide) ?_
        exact law_c43 C0 hU hL hlt hl (by omega) (by omega) hcX hcM hw hS hap.2.2.2.2.2.2.2.2.2.2.2.2.2.2.2.2.2.2.2.2.2.2.2.2.2.2.2.2.2.2.2.2.2.2.2.2.2.2.2.2.2.2.2.2.2.1 hK
      | 44, hj9 =>
        refine lv_tableIn (tgt := 1525) hx hb dL_law_32 (by rw [nI_toInt (by decide)]; decide) (by rw [nI_toInt (by decide)]; decide) (by rw [nI_toInt (by decide)]; rfl) (by decide) ?_
        exact law_c44 C0 hU hL hlt hl (by omega) (by omega) hcX hcM hw hS hap.2.2.2.2.2.2.2.2.2.2.2.2.2.2.2.2.2.2.2.2.2.2.2.2.2.2.2.2.2.2.2.2.2.2.2.2.2.2.2.2.2.2.2.2.2.2.1 hK
      | 45, hj9 =>
        refine lv_tableIn (tgt := 1559) hx hb dL_law_32 (by rw [nI_toInt (by decide)]; decide) (by rw [nI_toInt (by decide)]; decide) (by rw [nI_toInt (by decide)]; rfl) (by decide) ?_
        exact law_c45 C0 hU hL hlt hl (by omega) (by omega) hcX hcM hw hS hap.2.2.2.2.2.2.2.2.2.2.2.2.2.2.2.2.2.2.2.2.2.2.2.2.2.2.2.2.2.2.2.2.2.2.2.2.2.2.2.2.2.2.2.2.2.2.2.1 hK
      | 46, hj9 =>
        refine lv_tableIn (tgt := 1592) hx hb dL_law_32 (by rw [nI_toInt (by decide)]; decide) (by rw [nI_toInt (by decide)]; decide) (by rw [nI_toInt (by decide)]; rfl) (by decide) ?_
        exact law_c46 C0 hU hL hlt hl (by omega) (by omega) hcX hcM hw hS hap.2.2.2.2.2.2.2.2.2.2.2.2.2.2.2.2.2.2.2.2.2.2.2.2.2.2.2.2.2.2.2.2.2.2.2.2.2.2.2.2.2.2.2.2.2.2.2.2.1 hK
      | 47, hj9 =>
        refine lv_tableIn (tgt := 1605) hx hb dL_law_32 (by rw [nI_toInt (by decide)]; decide) (by rw [nI_toInt (by decide)]; decide) (by rw [nI_toInt (by decide)]; rfl) (by decide) ?_
        exact law_c47 C0 hU hL hlt hl (by omega) (by omega) hcX hcM hw hS hap.2.2.2.2.2.2.2.2.2.2.2.2.2.2.2.2.2.2.2.2.2.2.2.2.2.2.2.2.2.2.2.2.2.2.2.2.2.2.2.2.2.2.2.2.2.2.2.2.2 hK
      | k + 48, hj9 => exact absurd hj9 (by omega)
    · refine lv_tableOut (tgt := 1618) hx hb dL_law_32 (Or.inr (by rw [nI_toInt (by omega)]; omega)) (by decide) ?_
      exact hK hX hM aX aM H locs cells slots hJ hw hS (by omega) (by omega) hl
