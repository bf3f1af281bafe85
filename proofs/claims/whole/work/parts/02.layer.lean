/-! OUR LAYER. An abstract heap is a list of cells: an object (class number, fields), int[], long[], boolean[]; a reference is the cell's place in the list; the two static arrays stand as .retAddr 0 and .retAddr 1. tG: from this point of a method's code the machine comes to an end with Q. tEv: a method's contract in these words. -/
abbrev tC : Type := (Nat × List Value) ⊕ (List Int32 ⊕ (List Int64 ⊕ List Int32))
abbrev tHp : Type := List tC
abbrev tEn : Type := va_G × (ClassId × ClassId × ClassId) × (Nat × Nat)
def tad (E : tEn) (ads : List Nat) (k : Nat) : Nat := match ads[k]? with
  | some a => a
  | none => 0
def tv (E : tEn) (ads : List Nat) (v : Value) : Value := match v with
  | .ref k => .ref (tad E ads k)
  | .retAddr k => .ref (if k = 0 then E.2.2.1 else E.2.2.2)
  | w => w
theorem tv_cat (E : tEn) (ads : List Nat) (v : Value) : (tv E ads v).category = v.category := by cases v <;> rfl
def tce (E : tEn) (ads : List Nat) (c : tC) : va_E := match c with
  | .inl o => .inr (o.1, o.2.map (tv E ads))
  | .inr (.inl l) => .inl (E.2.1.1, l.length, .inl (fun j => l.getD j 0))
  | .inr (.inr (.inl l)) => .inl (E.2.1.2.1, l.length, .inr (.inl (fun j => l.getD j 0)))
  | .inr (.inr (.inr l)) => .inl (E.2.1.2.2, l.length, .inl (fun j => l.getD j 0))
def tw (E : tEn) (ads : List Nat) (h : tHp) : va_W := List.zipWith (fun a c => (a, tce E ads c)) ads h
theorem tw_get {E : tEn} {ads : List Nat} {h : tHp} {j : Nat} {c : tC} (hl : ads.length = h.length) (hc : h[j]? = some c) : (tw E ads h)[j]? = some (tad E ads j, tce E ads c) := by
  have hj : j < h.length := (List.getElem?_eq_some_iff.mp hc).1
  have ha : ads[j]? = some (ads[j]'(by omega)) := List.getElem?_eq_getElem (by omega)
  unfold tw
  rw [List.getElem?_zipWith, ha, hc]
  simp only [tad, ha]
theorem tw_set {E : tEn} {ads : List Nat} {h : tHp} {j : Nat} {c : tC} (hl : ads.length = h.length) (hj : j < h.length) : (tw E ads h).set j (tad E ads j, tce E ads c) = tw E ads (h.set j c) := by
  apply List.ext_getElem?
  intro i
  have hlen : (tw E ads h).length = h.length := by unfold tw; rw [List.length_zipWith]; omega
  by_cases hij : j = i
  · subst hij
    have h2 : (h.set j c)[j]? = some c := by rw [List.getElem?_set_self hj]
    rw [tw_get (by rw [List.length_set]; exact hl) h2, List.getElem?_set_self (by omega)]
  · rw [List.getElem?_set_ne hij]
    unfold tw
    rw [List.getElem?_zipWith, List.getElem?_zipWith, List.getElem?_set_ne hij]
def tR (E : tEn) (ads : List Nat) (h : tHp) (A : Nat → Prop) (H : Heap) : Prop := ads.length = h.length ∧ va_P E.1 vwCl (tw E ads h) H ∧ va_D A (tw E ads h)
def tVT : List Int64 := [2863311530, 3435973836, 4042322160, 4278255360, 4294901760]
def tGA : List Int32 := [301, 132, 57, 23, 10, 4, 1]
def tNest : Cond → Bool
  | .fieldLinkNest .. => true
  | .methodLinkNest .. => true
  | _ => false
def tSt (w : Cond) : Bool := goodWord w || tNest w
def tTB : List Cond := lw_tbl.filter tSt
theorem tmem {w : Cond} (h1 : w ∈ lw_tbl) (h2 : tSt w = true) : w ∈ tTB := List.mem_filter.mpr ⟨h1, h2⟩
def tU (E : tEn) (A : Nat → Prop) (U : State) : Prop :=
  va_K E.1 vwCl [(E.2.1.1, .int), (E.2.1.2.1, .long), (E.2.1.2.2, .boolean)] U ∧ (∀ w ∈ tTB, va_Nw w U) ∧
  (va_Z "ReadOnceRecognizer" "VARIABLE_TABLES" "[J" (.ref E.2.2.1) A U U.heap ∧ va_T .long E.2.2.1 5 (fun j => .long (tVT.getD j 0)) A U U.heap) ∧
  (va_Z "ReadOnceRecognizer$Catalog" "GAPS" "[I" (.ref E.2.2.2) A U U.heap ∧ va_T .int E.2.2.2 7 (fun j => .int (tGA.getD j 0)) A U U.heap)
theorem tWm {s U : State} {w : Cond} (hW : s.WarmedH U.vm) (hw : w ∈ tTB) (h : va_Nw w s) (args : Array Value) : w.before args U = true := by
  have h1 := (List.mem_filter.mp hw).2
  rcases Bool.or_eq_true_iff.mp h1 with h2 | h2
  · exact word_at hW (good_of_word h2) h
  · cases w <;> first
      | exact va_Nw.use rfl (va_Nw.warmF hW h)
      | exact va_Nw.use rfl (va_Nw.warmM hW h)
      | exact absurd h2 (by decide)
      | (simp [tNest] at h2; done)
theorem tU.hts {E : tEn} {A : Nat → Prop} {s : State} (h : tU E A s) (args : Array Value) : ∀ w ∈ tTB, w.before args s = true := fun w hw => tWm (State.WarmedH.refl s) hw (h.2.1 w hw) args
theorem tU.call {E : tEn} {A A1 : Nat → Prop} {s U : State} {H : Heap} {locs : List Loc} (h : tU E A s) (hS : va_S A s.heap H locs) (hA : ∀ q, A1 q → A q) (hU : U.heap = H) (hW : s.WarmedH U.vm) : tU E A1 U := by
  obtain ⟨h1, h2, ⟨h3, h4⟩, h5, h6⟩ := h
  have hk : ∀ a : Nat, a < s.heap.size → ¬ A a → U.heap[a]? = s.heap[a]? := fun a ha hn => by rw [hU]; exact hS.2.1 a ha hn
  exact ⟨va_K.moved hW.alike h1, fun w hw => tWm hW hw (h2 w hw) #[], ⟨((h3.kept hk).moved hW.alike).narrow hA, ((h4.kept hk).moved hW.alike).narrow hA⟩, ((h5.kept hk).moved hW.alike).narrow hA, ((h6.kept hk).moved hW.alike).narrow hA⟩
/-- what holds all along a method's run -/
def tCx (E : tEn) (own : String) (cc : ByteArray) (nL : Nat) (ret : Option FieldType) (ini : Bool) (d : Nat) (p : Program) (R : Room) (s : State) (m : MethodId) (meth : Method) (c : Code) (A : Nat → Prop) : Prop :=
  p.tables.exec = Jvm.exec ∧ c.code = cc ∧ c.maxLocals = nL ∧ meth.sig.returnType = ret ∧ meth.locks = false ∧ (ini = true → meth.name = "<init>") ∧ s.vm.findClass own = some m.cls ∧ R.frames = d ∧ R.locals = 64 * d ∧ tU E A s ∧ ∀ q, s.heap.size ≤ q → A q
def tQ (E : tEn) (A : Nat → Prop) (ads0 : List Nat) (Q : Option Value → tHp → Prop) : Array Value → State → Outcome → State → Prop := fun _ st oc t =>
  (∃ (r : Option Value) (h' : tHp) (ads' : List Nat), oc = .returned (r.map (tv E ads')) ∧ Q r h' ∧ ads0 <+: ads' ∧ tR E ads' h' A t.heap) ∧ va_F A st t
def tLm (E : tEn) (ads : List Nat) (L : List (Nat × Value)) : List (Nat × Value) := L.map (fun q => (q.1, tv E ads q.2))
def tG (l : Launch) (E : tEn) (own : String) (cc : ByteArray) (nL : Nat) (ret : Option FieldType) (ini : Bool) (d : Nat) (Q : Option Value → tHp → Prop) (k n : Nat) (pc : Nat) (L : List (Nat × Value)) (st : List Value) (h : tHp) : Prop :=
  ∀ (p : Program) (e : Env) (R : Room) (s : State) (m : MethodId) (args : Array Value) (below : List Frame) (meth : Method) (c : Code) (A : Nat → Prop) (ads0 : List Nat), tCx E own cc nL ret ini d p R s m meth c A →
    ∀ (ads : List Nat) (H : Heap) (locs : List Loc) (cells slots : Nat) (ls : Array Slot), cells + k ≤ R.cells → slots + n ≤ R.slots → ads0 <+: ads → tR E ads h A H → va_S A s.heap H locs → lv_has ls nL (tLm E ads L) →
      W p l e R s m args below meth c H locs cells slots (MQ below (tQ E A ads0 Q) args s R.cells R.slots A) (F0 m pc ls (st.map (tv E ads)))
def tEv (l : Launch) (E : tEn) (y : MethodName) (cc : ByteArray) (maxL : Nat) (ret : Option FieldType) (d k n : Nat) (av : List Value) (h : tHp) (Q : Option Value → tHp → Prop) : Prop :=
  ∀ (ads : List Nat) (sz : Nat), Met l y [Cond.code y cc maxL ret] { frames := d, cells := k, slots := n, locals := 64 * d }
    (va_Pc (av.map (tv E ads)) (fun U => U.heap.size = sz ∧ tU E (va_A (tw E ads h) sz) U ∧ tR E ads h (fun _ => True) U.heap))
    (tQ E (va_A (tw E ads h) sz) ads Q) k n (va_A (tw E ads h) sz)
theorem tLm_at {E : tEn} {ads : List Nat} {ls : Array Slot} {nL : Nat} {L : List (Nat × Value)} (h : lv_has ls nL (tLm E ads L)) (j : Nat) {i : Nat} {v : Value} (hj : L[j]? = some (i, v)) : ls[i]? = some (.val (tv E ads v)) :=
  lv_at h j (by unfold tLm; rw [List.getElem?_map, hj]; rfl)
theorem lv_args_tv (E : tEn) (ads : List Nat) : ∀ (vs : List Value) (i : Nat), lv_args i (vs.map (tv E ads)) = tLm E ads (lv_args i vs)
  | [], _ => rfl
  | v :: vs, i => by
    show (i, tv E ads v) :: lv_args (if (tv E ads v).category = 2 then i + 2 else i + 1) (vs.map (tv E ads)) = (i, tv E ads v) :: tLm E ads (lv_args (if v.category = 2 then i + 2 else i + 1) vs)
    rw [tv_cat, lv_args_tv E ads vs]
theorem lg_sl_len (E : tEn) (ads : List Nat) : ∀ vs : List Value, (lg_sl (vs.map (tv E ads))).length = (lg_sl vs).length
  | [] => rfl
  | v :: vs => by
    have h := lg_sl_len E ads vs
    unfold lg_sl at h ⊢
    rw [List.map_cons, List.flatMap_cons, List.flatMap_cons, List.length_append, List.length_append, h, tv_cat]
    split <;> rfl
theorem tEv.of {l : Launch} {E : tEn} {y : MethodName} {cc : ByteArray} {maxL : Nat} {ret : Option FieldType} {ini : Bool} {d k n : Nat} {av : List Value} {h : tHp} {Q : Option Value → tHp → Prop} {L : List (Nat × Value)} {own : String}
    (hy : plainName y.cls = true) (ho : y.cls = own) (hi : ini = true → y.name = "<init>") (hL : lv_args 0 av = L) (hn : (lg_sl av).length ≤ maxL) (hG : tG l E own cc maxL ret ini d Q k n 0 L [] h) : tEv l E y cc maxL ret d k n av h Q := by
  intro ads sz
  refine Met.ofW (cc := cc) (maxL := maxL) (ret := ret) hy rfl ?_
  intro p e s m args below meth c s₁ B hml hv
  obtain ⟨rfl, hsz, hU, hR⟩ := hv
  subst hsz; subst ho; subst hL
  have hl := lv_entry (av.map (tv E ads)) (n := maxL) (by rw [lg_sl_len]; exact hn)
  rw [lg_entry_eq]
  rw [lv_args_tv] at hl
  refine hG p e _ s m _ below meth c (va_A (tw E ads h) s.heap.size) ads ⟨B.exec, B.bytes, hml, B.returns, B.notSynchronized, fun h9 => ?_, findClass_of_methodNamed B.named, rfl, rfl, hU, fun q hq => Or.inr hq⟩ ads s.heap [] 0 0 _ (by show 0 + k ≤ k; omega) (by show 0 + n ≤ n; omega) (List.prefix_refl ads) ⟨hR.1, hR.2.1, hR.2.2.self⟩ va_S.rf hl
  have := (name_of_methodNamed B.named B.method).1
  rw [this]
  exact hi h9
