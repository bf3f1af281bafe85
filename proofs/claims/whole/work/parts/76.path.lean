/-! induced paths -/
def pcond (A : Nat → Nat) (k : Nat) : Bool := (k / 125 != k / 25 % 5) && (k / 125 != k / 5 % 5) && (k / 125 != k % 5) && (k / 25 % 5 != k / 5 % 5) && (k / 25 % 5 != k % 5) && (k / 5 % 5 != k % 5) && (A (k / 125)).testBit (k / 25 % 5) && (A (k / 25 % 5)).testBit (k / 5 % 5) && (A (k / 5 % 5)).testBit (k % 5) && !(A (k / 125)).testBit (k / 5 % 5) && !(A (k / 125)).testBit (k % 5) && !(A (k / 25 % 5)).testBit (k % 5)
theorem pdig : ∀ k, k < 625 → nI k / 125 = nI (k / 125) ∧ (nI k / 25) - (nI k / 25) / 5 * 5 = nI (k / 25 % 5) ∧ (nI k / 5) - (nI k / 5) / 5 * 5 = nI (k / 5 % 5) ∧ nI k - nI k / 5 * 5 = nI (k % 5) := by decide +kernel
theorem M_near {A : Nat → Nat} (hA : ∀ v, A v < 32) {u v : Nat} (hu : u < 5) (hv : v < 5) : f_X8_areNear (nI u) (nI v) (adjL A) = some (nI ((A u).testBit v).toNat) := by
  have := hA u
  unfold f_X8_areNear
  rw [adjL_ld A hu, Option.bind_some, n_bit (by omega) (by omega)]
  cases (A u).testBit v <;> rfl
theorem X_near {A : Nat → Nat} (hA : ∀ v, A v < 32) {u v : Nat} (hu : u < 5) (hv : v < 5) : f_X3_areAdjacent (nI u) (nI v) (adjL A) = some (nI ((A u).testBit v).toNat) := by
  have := hA u
  unfold f_X3_areAdjacent
  rw [adjL_ld A hu, Option.bind_some, n_has (by omega) (by omega)]
theorem M_path_loop {A : Nat → Nat} (hA : ∀ v, A v < 32) {K : Option Int32} : ∀ (m k fu : Nat), k + m = 625 → m < fu → f_X8_path_L2 (adjL A) K fu (nI k) = match ff (pcond A) m k with | some p => some (nI p) | none => K := by
  intro m
  induction m with
  | zero =>
    intro k fu hk hf
    obtain ⟨fu, rfl⟩ : ∃ q, fu = q + 1 := ⟨fu - 1, by omega⟩
    have : k = 625 := by omega
    subst this
    rw [f_X8_path_L2, if_pos (by decide)]; rfl
  | succ m ih =>
    intro k fu hk hf
    obtain ⟨fu, rfl⟩ : ∃ q, fu = q + 1 := ⟨fu - 1, by omega⟩
    obtain ⟨d1, d2, d3, d4⟩ := pdig k (by omega)
    have hu : k / 125 < 5 := by omega
    have hv : k / 25 % 5 < 5 := by omega
    have hw : k / 5 % 5 < 5 := by omega
    have hx : k % 5 < 5 := by omega
    have skip : pcond A k = false → f_X8_path_L2 (adjL A) K fu (nI k + 1) = match ff (pcond A) (m + 1) k with | some p => some (nI p) | none => K := by
      intro h
      rw [nI_1, ih (k + 1) fu (by omega) (by omega), ff, h]; rfl
    rw [f_X8_path_L2, if_neg (by rw [show (625 : Int32) = nI 625 from rfl]; exact nI_ge (by omega) (by decide)), d1, d2, d3, d4]
    by_cases c0 : k / 125 = k / 25 % 5
    · rw [if_pos (congrArg nI c0)]; exact skip (by unfold pcond; simp [c0])
    rw [if_neg (fun q => c0 ((nI_eq (by omega) (by omega)).mp q))]
    by_cases c1 : k / 125 = k / 5 % 5
    · rw [if_pos (congrArg nI c1)]; exact skip (by unfold pcond; simp [c1])
    rw [if_neg (fun q => c1 ((nI_eq (by omega) (by omega)).mp q))]
    by_cases c2 : k / 125 = k % 5
    · rw [if_pos (congrArg nI c2)]; exact skip (by unfold pcond; simp [c2])
    rw [if_neg (fun q => c2 ((nI_eq (by omega) (by omega)).mp q))]
    by_cases c3 : k / 25 % 5 = k / 5 % 5
    · rw [if_pos (congrArg nI c3)]; exact skip (by unfold pcond; simp [c3])
    rw [if_neg (fun q => c3 ((nI_eq (by omega) (by omega)).mp q))]
    by_cases c4 : k / 25 % 5 = k % 5
    · rw [if_pos (congrArg nI c4)]; exact skip (by unfold pcond; simp [c4])
    rw [if_neg (fun q => c4 ((nI_eq (by omega) (by omega)).mp q))]
    by_cases c5 : k / 5 % 5 = k % 5
    · rw [if_pos (congrArg nI c5)]; exact skip (by unfold pcond; simp [c5])
    rw [if_neg (fun q => c5 ((nI_eq (by omega) (by omega)).mp q))]
    rw [M_near hA hu hv, Option.bind_some]
    by_cases b0 : (A (k / 125)).testBit (k / 25 % 5) = false
    · rw [b0, if_pos bf0]; exact skip (by unfold pcond; simp [b0])
    have b0 : (A (k / 125)).testBit (k / 25 % 5) = true := eq_true_of_ne_false b0
    rw [b0, if_neg bt1]
    rw [M_near hA hv hw, Option.bind_some]
    by_cases b1 : (A (k / 25 % 5)).testBit (k / 5 % 5) = false
    · rw [b1, if_pos bf0]; exact skip (by unfold pcond; simp [b1])
    have b1 : (A (k / 25 % 5)).testBit (k / 5 % 5) = true := eq_true_of_ne_false b1
    rw [b1, if_neg bt1]
    rw [M_near hA hw hx, Option.bind_some]
    by_cases b2 : (A (k / 5 % 5)).testBit (k % 5) = false
    · rw [b2, if_pos bf0]; exact skip (by unfold pcond; simp [b2])
    have b2 : (A (k / 5 % 5)).testBit (k % 5) = true := eq_true_of_ne_false b2
    rw [b2, if_neg bt1]
    rw [M_near hA hu hw, Option.bind_some]
    by_cases b3 : (A (k / 125)).testBit (k / 5 % 5) = true
    · rw [b3, if_neg bt1]; exact skip (by unfold pcond; simp [b3])
    have b3 : (A (k / 125)).testBit (k / 5 % 5) = false := eq_false_of_ne_true b3
    rw [b3, if_pos bf0]
    rw [M_near hA hu hx, Option.bind_some]
    by_cases b4 : (A (k / 125)).testBit (k % 5) = true
    · rw [b4, if_neg bt1]; exact skip (by unfold pcond; simp [b4])
    have b4 : (A (k / 125)).testBit (k % 5) = false := eq_false_of_ne_true b4
    rw [b4, if_pos bf0]
    rw [M_near hA hv hx, Option.bind_some]
    by_cases b5 : (A (k / 25 % 5)).testBit (k % 5) = true
    · rw [b5, if_neg bt1]; exact skip (by unfold pcond; simp [b5])
    have b5 : (A (k / 25 % 5)).testBit (k % 5) = false := eq_false_of_ne_true b5
    rw [b5, if_pos bf0]
    have hp : pcond A k = true := by unfold pcond; simp [c0, c1, c2, c3, c4, c5, b0, b1, b2, b3, b4, b5]
    rw [ff, hp]; rfl
theorem M_path {A : Nat → Nat} (hA : ∀ v, A v < 32) : f_X8_path (adjL A) = some (oI (ff (pcond A) 625 0)) := by
  have h := M_path_loop hA (K := some (-1)) 625 0 tFU (by omega) (by unfold tFU; omega)
  rw [nI_0] at h
  unfold f_X8_path
  rw [h]
  cases ff (pcond A) 625 0 <;> rfl
theorem ff_add (b : Nat → Bool) (c : Nat) : ∀ a k, ff b (a + c) k = match ff b a k with | some r => some r | none => ff b c (k + a)
  | 0, k => by rw [Nat.zero_add]; rfl
  | a + 1, k => by
    rw [show a + 1 + c = (a + c) + 1 by omega, ff, ff]
    cases b k
    · rw [if_neg (by decide), if_neg (by decide), ff_add b c a (k + 1), show k + 1 + a = k + (a + 1) by omega]
    · rfl
theorem ff_shift (b : Nat → Bool) (a : Nat) : ∀ m k, ff b m (a + k) = (ff (fun x => b (a + x)) m k).map (a + ·)
  | 0, _ => rfl
  | m + 1, k => by
    rw [ff, ff]
    cases b (a + k)
    · rw [if_neg (by decide), if_neg (by decide), show a + k + 1 = a + (k + 1) by omega, ff_shift b a m (k + 1)]
    · rfl
theorem ff_none_of {b : Nat → Bool} {m k : Nat} (h : ∀ j, k ≤ j → j < k + m → b j = false) : ff b m k = none := by
  cases e : ff b m k with
  | none => rfl
  | some i =>
    obtain ⟨h1, h2, h3, -⟩ := ff_some e
    rw [h i h1 h2] at h3; cases h3
theorem X_low {s : Nat} (hs : s < 2 ^ 31) : f_X7_lowestVariable (nI s) = some (oI (ff s.testBit 5 0)) := by
  have key : ∀ (m k fu : Nat), k + m = 5 → m < fu → f_X7_lowestVariable_L2 (nI s) (some (-1)) fu (nI k) = some (oI (ff s.testBit m k)) := by
    intro m
    induction m with
    | zero =>
      intro k fu hk hf
      obtain ⟨fu, rfl⟩ : ∃ q, fu = q + 1 := ⟨fu - 1, by omega⟩
      have : k = 5 := by omega
      subst this
      rw [f_X7_lowestVariable_L2, if_pos (by decide)]; rfl
    | succ m ih =>
      intro k fu hk hf
      obtain ⟨fu, rfl⟩ : ∃ q, fu = q + 1 := ⟨fu - 1, by omega⟩
      rw [f_X7_lowestVariable_L2, if_neg (by rw [show (5 : Int32) = nI 5 from rfl]; exact nI_ge (by omega) (by decide)), n_has hs (by omega), nI_1, ih (k + 1) fu (by omega) (by omega), ff]
      cases s.testBit k with
      | false => rw [if_pos bf0]; rfl
      | true => rw [if_neg bt1]; rfl
  exact key 5 0 tFU (by omega) (by unfold tFU; omega)
def p4 (k : Nat) : List Int32 := [nI (k / 125), nI (k / 25 % 5), nI (k / 5 % 5), nI (k % 5)]
theorem pcond_at (A : Nat → Nat) {u v w x : Nat} (hu : u < 5) (hv : v < 5) (hw : w < 5) (hx : x < 5) : pcond A (125 * u + 25 * v + 5 * w + x) = ((u != v) && (u != w) && (u != x) && (v != w) && (v != x) && (w != x) && (A u).testBit v && (A v).testBit w && (A w).testBit x && !(A u).testBit w && !(A u).testBit x && !(A v).testBit x) := by
  have e1 : (125 * u + 25 * v + 5 * w + x) / 125 = u := by omega
  have e2 : (125 * u + 25 * v + 5 * w + x) / 25 % 5 = v := by omega
  have e3 : (125 * u + 25 * v + 5 * w + x) / 5 % 5 = w := by omega
  have e4 : (125 * u + 25 * v + 5 * w + x) % 5 = x := by omega
  unfold pcond
  rw [e1, e2, e3, e4]
theorem p4_at {u v w x : Nat} (hu : u < 5) (hv : v < 5) (hw : w < 5) (hx : x < 5) : p4 (125 * u + 25 * v + 5 * w + x) = [nI u, nI v, nI w, nI x] := by
  unfold p4
  rw [show (125 * u + 25 * v + 5 * w + x) / 125 = u by omega, show (125 * u + 25 * v + 5 * w + x) / 25 % 5 = v by omega, show (125 * u + 25 * v + 5 * w + x) / 5 % 5 = w by omega, show (125 * u + 25 * v + 5 * w + x) % 5 = x by omega]
theorem list4 {g : List Int32} (h : g.length = 4) (a b c d : Int32) : ((tst g 0 a).bind fun z18 => (tst z18 1 b).bind fun z20 => (tst z20 2 c).bind fun z22 => (tst z22 3 d).bind fun z24 => some ((1 : Int32), z24)) = some (1, [a, b, c, d]) := by
  match g, h with
  | [_, _, _, _], _ => rfl
theorem X_from {A : Nat → Nat} (hA : ∀ v, A v < 32) (hI : ∀ v, (A v).testBit v = false) (hS : ∀ u v, (A u).testBit v = true → (A v).testBit u = true) {g_t : List Int32} (hg : g_t.length = 4) {u v : Nat} (hu : u < 5) (hv : v < 5) (huv : (A u).testBit v = true) {K : Option (Int32 × List Int32)} : ∀ (m w fu : Nat), w + m = 5 → m < fu → f_X3_findPathFrom_L2 (nI u) (nI v) (adjL A) g_t K fu (nI w) = match ff (pcond A) (5 * m) (125 * u + 25 * v + 5 * w) with | some k => some (1, p4 k) | none => K := by
  have hne : u ≠ v := fun e => by subst e; rw [hI] at huv; cases huv
  intro m
  induction m with
  | zero =>
    intro w fu hk hf
    obtain ⟨fu, rfl⟩ : ∃ q, fu = q + 1 := ⟨fu - 1, by omega⟩
    have : w = 5 := by omega
    subst this
    rw [f_X3_findPathFrom_L2, if_pos (by decide)]; rfl
  | succ m ih =>
    intro w fu hk hf
    obtain ⟨fu, rfl⟩ : ∃ q, fu = q + 1 := ⟨fu - 1, by omega⟩
    have hw : w < 5 := by omega
    have skip : ff (pcond A) 5 (125 * u + 25 * v + 5 * w) = none → f_X3_findPathFrom_L2 (nI u) (nI v) (adjL A) g_t K fu (nI w + 1) = match ff (pcond A) (5 * (m + 1)) (125 * u + 25 * v + 5 * w) with | some k => some (1, p4 k) | none => K := by
      intro h
      rw [nI_1, ih (w + 1) fu (by omega) (by omega), show 5 * (m + 1) = 5 + 5 * m by omega, ff_add, h, show 125 * u + 25 * v + 5 * (w + 1) = 125 * u + 25 * v + 5 * w + 5 by omega]
    have nn : (∀ x, x < 5 → pcond A (125 * u + 25 * v + 5 * w + x) = false) → ff (pcond A) 5 (125 * u + 25 * v + 5 * w) = none := by
      intro h
      apply ff_none_of
      intro j h1 h2
      have := h (j - (125 * u + 25 * v + 5 * w)) (by omega)
      rw [show 125 * u + 25 * v + 5 * w + (j - (125 * u + 25 * v + 5 * w)) = j by omega] at this
      exact this
    rw [f_X3_findPathFrom_L2, if_neg (by rw [show (5 : Int32) = nI 5 from rfl]; exact nI_ge (by omega) (by decide))]
    by_cases c0 : w = u
    · rw [if_pos (congrArg nI c0)]
      exact skip (nn (fun x hx => by rw [pcond_at A hu hv hw hx]; simp [c0]))
    rw [if_neg (fun q => c0 ((nI_eq (by omega) (by omega)).mp q)), X_near hA hv hw, Option.bind_some]
    by_cases b0 : (A v).testBit w = false
    · rw [b0, if_pos bf0]
      exact skip (nn (fun x hx => by rw [pcond_at A hu hv hw hx]; simp [b0]))
    have b0 : (A v).testBit w = true := eq_true_of_ne_false b0
    rw [b0, if_neg bt1, X_near hA hu hw, Option.bind_some]
    by_cases b1 : (A u).testBit w = true
    · rw [b1, if_neg bt1]
      exact skip (nn (fun x hx => by rw [pcond_at A hu hv hw hx]; simp [b1]))
    have b1 : (A u).testBit w = false := eq_false_of_ne_true b1
    have hvw : v ≠ w := fun e => by subst e; rw [hI] at b0; cases b0
    have hs : andn (andn (A w) (A u)) (A v) < 2 ^ 31 := by
      have h3 := andn_le (andn (A w) (A u)) (A v)
      have h4 := andn_le (A w) (A u)
      have := hA w
      omega
    rw [b1, if_pos bf0, adjL_ld A hw, Option.bind_some, adjL_ld A hu, Option.bind_some, adjL_ld A hv, Option.bind_some, n_andn, n_andn, X_low hs, Option.bind_some]
    have eq : ∀ x, x < 5 → pcond A (125 * u + 25 * v + 5 * w + x) = (andn (andn (A w) (A u)) (A v)).testBit x := by
      intro x hx
      rw [pcond_at A hu hv hw hx, andn_bit, andn_bit, huv, b0, b1]
      have c0' : u ≠ w := Ne.symm c0
      cases hwx : (A w).testBit x with
      | false => simp
      | true =>
        have hwx2 : w ≠ x := fun e => by subst e; rw [hI] at hwx; cases hwx
        cases hux : (A u).testBit x with
        | true => simp
        | false =>
          cases hvx : (A v).testBit x with
          | true => simp
          | false =>
            have e1 : u ≠ x := fun e => by subst e; rw [hS u v huv] at hvx; cases hvx
            have e2 : v ≠ x := fun e => by subst e; rw [huv] at hux; cases hux
            simp [hne, c0', e1, hvw, e2, hwx2]
    have e5 : ff (pcond A) 5 (125 * u + 25 * v + 5 * w) = (ff (andn (andn (A w) (A u)) (A v)).testBit 5 0).map (125 * u + 25 * v + 5 * w + ·) := by
      have := ff_shift (pcond A) (125 * u + 25 * v + 5 * w) 5 0
      rw [Nat.add_zero] at this
      rw [this]
      congr 1
      exact ff_cong (fun i _ h2 => eq i (by omega))
    cases hf : ff (andn (andn (A w) (A u)) (A v)).testBit 5 0 with
    | none =>
      rw [if_pos (show oI none = -1 from rfl)]
      exact skip (by rw [e5, hf]; rfl)
    | some x =>
      obtain ⟨-, hx, -, -⟩ := ff_some hf
      show (if nI x = -1 then _ else _) = _
      rw [if_neg (nI_ne_m1 (by omega)), list4 hg, show 5 * (m + 1) = 5 + 5 * m by omega, ff_add, e5, hf]
      show _ = some (1, p4 (125 * u + 25 * v + 5 * w + x))
      rw [p4_at hu hv hw (by omega)]; rfl
theorem X_path9 {A : Nat → Nat} (hA : ∀ v, A v < 32) (hI : ∀ v, (A v).testBit v = false) (hS : ∀ u v, (A u).testBit v = true → (A v).testBit u = true) {g_t : List Int32} (hg : g_t.length = 4) {u : Nat} (hu : u < 5) {K : List Int32 → Option (Int32 × List Int32)} : ∀ (m v fu : Nat), v + m = 5 → m < fu → f_X3_findPath_L9 (nI u) (adjL A) K fu (nI v) g_t = match ff (pcond A) (25 * m) (125 * u + 25 * v) with | some k => some (1, p4 k) | none => K g_t := by
  intro m
  induction m with
  | zero =>
    intro v fu hk hf
    obtain ⟨fu, rfl⟩ : ∃ q, fu = q + 1 := ⟨fu - 1, by omega⟩
    have : v = 5 := by omega
    subst this
    rw [f_X3_findPath_L9, if_pos (by decide)]; rfl
  | succ m ih =>
    intro v fu hk hf
    obtain ⟨fu, rfl⟩ : ∃ q, fu = q + 1 := ⟨fu - 1, by omega⟩
    have hv : v < 5 := by omega
    have skip : ff (pcond A) 25 (125 * u + 25 * v) = none → f_X3_findPath_L9 (nI u) (adjL A) K fu (nI v + 1) g_t = match ff (pcond A) (25 * (m + 1)) (125 * u + 25 * v) with | some k => some (1, p4 k) | none => K g_t := by
      intro h
      rw [nI_1, ih (v + 1) fu (by omega) (by omega), show 25 * (m + 1) = 25 + 25 * m by omega, ff_add, h, show 125 * u + 25 * (v + 1) = 125 * u + 25 * v + 25 by omega]
    rw [f_X3_findPath_L9, if_neg (by rw [show (5 : Int32) = nI 5 from rfl]; exact nI_ge (by omega) (by decide)), X_near hA hu hv, Option.bind_some]
    cases b0 : (A u).testBit v with
    | false =>
      rw [if_pos bf0]
      refine skip (ff_none_of (fun j h1 h2 => ?_))
      have := pcond_at A hu hv (w := (j - (125 * u + 25 * v)) / 5) (x := (j - (125 * u + 25 * v)) % 5) (by omega) (by omega)
      rw [show 125 * u + 25 * v + 5 * ((j - (125 * u + 25 * v)) / 5) + (j - (125 * u + 25 * v)) % 5 = j by omega] at this
      rw [this, b0]; simp
    | true =>
      have hF := X_from hA hI hS hg hu hv b0 (K := some (0, g_t)) 5 0 tFU (by omega) (by unfold tFU; omega)
      rw [nI_0] at hF
      have hF : f_X3_findPathFrom (nI u) (nI v) (adjL A) g_t = _ := hF
      rw [if_neg bt1, hF]
      simp only [Nat.mul_zero, Nat.add_zero]
      cases h : ff (pcond A) 25 (125 * u + 25 * v) with
      | none =>
        simp only [Option.bind_some, if_true]
        exact skip h
      | some k =>
        simp only [Option.bind_some]
        rw [if_neg z_1, show 25 * (m + 1) = 25 + 25 * m by omega, ff_add, h]
theorem X_path {A : Nat → Nat} (hA : ∀ v, A v < 32) (hI : ∀ v, (A v).testBit v = false) (hS : ∀ u v, (A u).testBit v = true → (A v).testBit u = true) {g_t : List Int32} (hg : g_t.length = 4) : f_X3_findPath (adjL A) g_t = match ff (pcond A) 625 0 with | some k => some (1, p4 k) | none => some (0, g_t) := by
  have key : ∀ (m u fu : Nat), u + m = 5 → m < fu → f_X3_findPath_L2 (adjL A) (fun k10 => some (0, k10)) fu (nI u) g_t = match ff (pcond A) (125 * m) (125 * u) with | some k => some (1, p4 k) | none => some (0, g_t) := by
    intro m
    induction m with
    | zero =>
      intro u fu hk hf
      obtain ⟨fu, rfl⟩ : ∃ q, fu = q + 1 := ⟨fu - 1, by omega⟩
      have : u = 5 := by omega
      subst this
      rw [f_X3_findPath_L2, if_pos (by decide)]; rfl
    | succ m ih =>
      intro u fu hk hf
      obtain ⟨fu, rfl⟩ : ∃ q, fu = q + 1 := ⟨fu - 1, by omega⟩
      have h9 := X_path9 hA hI hS hg (u := u) (by omega) (K := fun k9 => f_X3_findPath_L2 (adjL A) (fun k10 => some (0, k10)) fu (nI u + 1) k9) 5 0 tFU (by omega) (by unfold tFU; omega)
      rw [nI_0] at h9
      rw [f_X3_findPath_L2, if_neg (by rw [show (5 : Int32) = nI 5 from rfl]; exact nI_ge (by omega) (by decide)), h9]
      simp only [nI_1]
      rw [ih (u + 1) fu (by omega) (by omega), show 125 * (m + 1) = 125 + 125 * m by omega, ff_add, Nat.mul_zero, Nat.add_zero, show 125 * (u + 1) = 125 * u + 125 by omega]
      cases ff (pcond A) (25 * 5) (125 * u) <;> rfl
  exact key 5 0 tFU (by omega) (by unfold tFU; omega)
