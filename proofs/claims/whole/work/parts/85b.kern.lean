/-! .. and what the kernel finds of them -/
theorem k_seg : ∀ s, s < 32 → 1 ≤ s → chkS s = true := by decide +kernel
theorem k_CE : eqO (msort SEGS.flatten) CE = true := by decide +kernel
theorem k_srt : srtB CE = true := by decide +kernel
theorem k_big : CE.all (fun e => Nat.blt e 1099511627776) = true := by decide +kernel
theorem k_cN : ∀ n, n < 6 → 1 ≤ n → eqO (cN n CE) (FL n) = true := by decide +kernel
theorem k_f1 : eqO (msort (fsN 1)) fl1 = true := by decide +kernel
theorem k_f2 : eqO (msort (fsN 2)) fl2 = true := by decide +kernel
theorem k_f3 : eqO (msort (fsN 3)) fl3 = true := by decide +kernel
theorem k_f4 : eqO (msort (fsN 4)) fl4 = true := by decide +kernel
theorem k_f5 : eqO (msort (fsN 5)) fl5 = true := by decide +kernel
theorem k_e : ∀ n, n < 6 → 1 ≤ n → CE.all (chkE n) = true := by decide +kernel
