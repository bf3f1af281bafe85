section TRULES
variable {l : Launch} {E : tEn} {own : String} {cc : ByteArray} {nL : Nat} {ret : Option FieldType} {ini : Bool} {d : Nat} {Q : Option Value → tHp → Prop} {k n : Nat} {pc : Nat} {L : List (Nat × Value)} {st : List Value} {h : tHp}
theorem g_iadd {x y : Int32} {q : Nat} (hd : decode cc pc = .ok (.iadd, 1)) (hq : pc + 1 = q)  (kk : tG l E own cc nL ret ini d Q k n q L (.int (x + y) :: st) h) : tG l E own cc nL ret ini d Q k n pc L (.int y :: .int x :: st) h := by
  subst hq
  exact fun p e R s m args below meth c A ads0 X ads H locs cells slots ls h1 h2 h3 h4 h5 h6 => lv_iadd X.1 X.2.1 hd  (kk p e R s m args below meth c A ads0 X ads H locs cells slots ls h1 h2 h3 h4 h5 h6)
theorem g_isub {x y : Int32} {q : Nat} (hd : decode cc pc = .ok (.isub, 1)) (hq : pc + 1 = q)  (kk : tG l E own cc nL ret ini d Q k n q L (.int (x - y) :: st) h) : tG l E own cc nL ret ini d Q k n pc L (.int y :: .int x :: st) h := by
  subst hq
  exact fun p e R s m args below meth c A ads0 X ads H locs cells slots ls h1 h2 h3 h4 h5 h6 => lv_isub X.1 X.2.1 hd  (kk p e R s m args below meth c A ads0 X ads H locs cells slots ls h1 h2 h3 h4 h5 h6)
theorem g_imul {x y : Int32} {q : Nat} (hd : decode cc pc = .ok (.imul, 1)) (hq : pc + 1 = q)  (kk : tG l E own cc nL ret ini d Q k n q L (.int (x * y) :: st) h) : tG l E own cc nL ret ini d Q k n pc L (.int y :: .int x :: st) h := by
  subst hq
  exact fun p e R s m args below meth c A ads0 X ads H locs cells slots ls h1 h2 h3 h4 h5 h6 => lv_imul X.1 X.2.1 hd  (kk p e R s m args below meth c A ads0 X ads H locs cells slots ls h1 h2 h3 h4 h5 h6)
theorem g_iand {x y : Int32} {q : Nat} (hd : decode cc pc = .ok (.iand, 1)) (hq : pc + 1 = q)  (kk : tG l E own cc nL ret ini d Q k n q L (.int (x &&& y) :: st) h) : tG l E own cc nL ret ini d Q k n pc L (.int y :: .int x :: st) h := by
  subst hq
  exact fun p e R s m args below meth c A ads0 X ads H locs cells slots ls h1 h2 h3 h4 h5 h6 => lv_iand X.1 X.2.1 hd  (kk p e R s m args below meth c A ads0 X ads H locs cells slots ls h1 h2 h3 h4 h5 h6)
theorem g_ior {x y : Int32} {q : Nat} (hd : decode cc pc = .ok (.ior, 1)) (hq : pc + 1 = q)  (kk : tG l E own cc nL ret ini d Q k n q L (.int (x ||| y) :: st) h) : tG l E own cc nL ret ini d Q k n pc L (.int y :: .int x :: st) h := by
  subst hq
  exact fun p e R s m args below meth c A ads0 X ads H locs cells slots ls h1 h2 h3 h4 h5 h6 => lv_ior X.1 X.2.1 hd  (kk p e R s m args below meth c A ads0 X ads H locs cells slots ls h1 h2 h3 h4 h5 h6)
theorem g_ixor {x y : Int32} {q : Nat} (hd : decode cc pc = .ok (.ixor, 1)) (hq : pc + 1 = q)  (kk : tG l E own cc nL ret ini d Q k n q L (.int (x ^^^ y) :: st) h) : tG l E own cc nL ret ini d Q k n pc L (.int y :: .int x :: st) h := by
  subst hq
  exact fun p e R s m args below meth c A ads0 X ads H locs cells slots ls h1 h2 h3 h4 h5 h6 => lv_ixor X.1 X.2.1 hd  (kk p e R s m args below meth c A ads0 X ads H locs cells slots ls h1 h2 h3 h4 h5 h6)
theorem g_ishl {x y : Int32} {q : Nat} (hd : decode cc pc = .ok (.ishl, 1)) (hq : pc + 1 = q)  (kk : tG l E own cc nL ret ini d Q k n q L (.int (x <<< (y &&& 31)) :: st) h) : tG l E own cc nL ret ini d Q k n pc L (.int y :: .int x :: st) h := by
  subst hq
  exact fun p e R s m args below meth c A ads0 X ads H locs cells slots ls h1 h2 h3 h4 h5 h6 => lv_ishl X.1 X.2.1 hd  (kk p e R s m args below meth c A ads0 X ads H locs cells slots ls h1 h2 h3 h4 h5 h6)
theorem g_ishr {x y : Int32} {q : Nat} (hd : decode cc pc = .ok (.ishr, 1)) (hq : pc + 1 = q)  (kk : tG l E own cc nL ret ini d Q k n q L (.int (x >>> (y &&& 31)) :: st) h) : tG l E own cc nL ret ini d Q k n pc L (.int y :: .int x :: st) h := by
  subst hq
  exact fun p e R s m args below meth c A ads0 X ads H locs cells slots ls h1 h2 h3 h4 h5 h6 => lv_ishr X.1 X.2.1 hd  (kk p e R s m args below meth c A ads0 X ads H locs cells slots ls h1 h2 h3 h4 h5 h6)
theorem g_idiv {x y : Int32} {q : Nat} (hd : decode cc pc = .ok (.idiv, 1)) (hq : pc + 1 = q) (hne : ¬ y = 0) (kk : tG l E own cc nL ret ini d Q k n q L (.int (x / y) :: st) h) : tG l E own cc nL ret ini d Q k n pc L (.int y :: .int x :: st) h := by
  subst hq
  exact fun p e R s m args below meth c A ads0 X ads H locs cells slots ls h1 h2 h3 h4 h5 h6 => lv_idiv X.1 X.2.1 hd hne (kk p e R s m args below meth c A ads0 X ads H locs cells slots ls h1 h2 h3 h4 h5 h6)
theorem g_irem {x y : Int32} {q : Nat} (hd : decode cc pc = .ok (.irem, 1)) (hq : pc + 1 = q) (hne : ¬ y = 0) (kk : tG l E own cc nL ret ini d Q k n q L (.int (x - x / y * y) :: st) h) : tG l E own cc nL ret ini d Q k n pc L (.int y :: .int x :: st) h := by
  subst hq
  exact fun p e R s m args below meth c A ads0 X ads H locs cells slots ls h1 h2 h3 h4 h5 h6 => lv_irem X.1 X.2.1 hd hne (kk p e R s m args below meth c A ads0 X ads H locs cells slots ls h1 h2 h3 h4 h5 h6)
theorem g_ineg {x : Int32} {q : Nat} (hd : decode cc pc = .ok (.ineg, 1)) (hq : pc + 1 = q)  (kk : tG l E own cc nL ret ini d Q k n q L (.int (-x) :: st) h) : tG l E own cc nL ret ini d Q k n pc L (.int x :: st) h := by
  subst hq
  exact fun p e R s m args below meth c A ads0 X ads H locs cells slots ls h1 h2 h3 h4 h5 h6 => lv_ineg X.1 X.2.1 hd  (kk p e R s m args below meth c A ads0 X ads H locs cells slots ls h1 h2 h3 h4 h5 h6)
theorem g_ladd {x y : Int64} {q : Nat} (hd : decode cc pc = .ok (.ladd, 1)) (hq : pc + 1 = q)  (kk : tG l E own cc nL ret ini d Q k n q L (.long (x + y) :: st) h) : tG l E own cc nL ret ini d Q k n pc L (.long y :: .long x :: st) h := by
  subst hq
  exact fun p e R s m args below meth c A ads0 X ads H locs cells slots ls h1 h2 h3 h4 h5 h6 => lv_ladd X.1 X.2.1 hd  (kk p e R s m args below meth c A ads0 X ads H locs cells slots ls h1 h2 h3 h4 h5 h6)
theorem g_lsub {x y : Int64} {q : Nat} (hd : decode cc pc = .ok (.lsub, 1)) (hq : pc + 1 = q)  (kk : tG l E own cc nL ret ini d Q k n q L (.long (x - y) :: st) h) : tG l E own cc nL ret ini d Q k n pc L (.long y :: .long x :: st) h := by
  subst hq
  exact fun p e R s m args below meth c A ads0 X ads H locs cells slots ls h1 h2 h3 h4 h5 h6 => lv_lsub X.1 X.2.1 hd  (kk p e R s m args below meth c A ads0 X ads H locs cells slots ls h1 h2 h3 h4 h5 h6)
theorem g_land {x y : Int64} {q : Nat} (hd : decode cc pc = .ok (.land, 1)) (hq : pc + 1 = q)  (kk : tG l E own cc nL ret ini d Q k n q L (.long (x &&& y) :: st) h) : tG l E own cc nL ret ini d Q k n pc L (.long y :: .long x :: st) h := by
  subst hq
  exact fun p e R s m args below meth c A ads0 X ads H locs cells slots ls h1 h2 h3 h4 h5 h6 => lv_land X.1 X.2.1 hd  (kk p e R s m args below meth c A ads0 X ads H locs cells slots ls h1 h2 h3 h4 h5 h6)
theorem g_lor {x y : Int64} {q : Nat} (hd : decode cc pc = .ok (.lor, 1)) (hq : pc + 1 = q)  (kk : tG l E own cc nL ret ini d Q k n q L (.long (x ||| y) :: st) h) : tG l E own cc nL ret ini d Q k n pc L (.long y :: .long x :: st) h := by
  subst hq
  exact fun p e R s m args below meth c A ads0 X ads H locs cells slots ls h1 h2 h3 h4 h5 h6 => lv_lor X.1 X.2.1 hd  (kk p e R s m args below meth c A ads0 X ads H locs cells slots ls h1 h2 h3 h4 h5 h6)
theorem g_lxor {x y : Int64} {q : Nat} (hd : decode cc pc = .ok (.lxor, 1)) (hq : pc + 1 = q)  (kk : tG l E own cc nL ret ini d Q k n q L (.long (x ^^^ y) :: st) h) : tG l E own cc nL ret ini d Q k n pc L (.long y :: .long x :: st) h := by
  subst hq
  exact fun p e R s m args below meth c A ads0 X ads H locs cells slots ls h1 h2 h3 h4 h5 h6 => lv_lxor X.1 X.2.1 hd  (kk p e R s m args below meth c A ads0 X ads H locs cells slots ls h1 h2 h3 h4 h5 h6)
def tiushr (x y : Int32) : Int32 := (x.toUInt32 >>> (y.toUInt32 &&& Int32.toUInt32 31)).toInt32
def tlushr (x : Int64) (y : Int32) : Int64 := (x.toUInt64 >>> (y.toInt64.toUInt64 &&& Int64.toUInt64 63)).toInt64
def tlshl (x : Int64) (y : Int32) : Int64 := x <<< (y.toInt64 &&& 63)
def tlshr (x : Int64) (y : Int32) : Int64 := x >>> (y.toInt64 &&& 63)
theorem g_iushr {x y : Int32} {q : Nat} (hd : decode cc pc = .ok (.iushr, 1)) (hq : pc + 1 = q)  (kk : tG l E own cc nL ret ini d Q k n q L (.int (tiushr x y) :: st) h) : tG l E own cc nL ret ini d Q k n pc L (.int y :: .int x :: st) h := by
  subst hq
  exact fun p e R s m args below meth c A ads0 X ads H locs cells slots ls h1 h2 h3 h4 h5 h6 => lv_iushr X.1 X.2.1 hd rfl (kk p e R s m args below meth c A ads0 X ads H locs cells slots ls h1 h2 h3 h4 h5 h6)
theorem g_lushr {x : Int64} {y : Int32} {q : Nat} (hd : decode cc pc = .ok (.lushr, 1)) (hq : pc + 1 = q)  (kk : tG l E own cc nL ret ini d Q k n q L (.long (tlushr x y) :: st) h) : tG l E own cc nL ret ini d Q k n pc L (.int y :: .long x :: st) h := by
  subst hq
  exact fun p e R s m args below meth c A ads0 X ads H locs cells slots ls h1 h2 h3 h4 h5 h6 => lv_lushr X.1 X.2.1 hd rfl (kk p e R s m args below meth c A ads0 X ads H locs cells slots ls h1 h2 h3 h4 h5 h6)
theorem g_lshl {x : Int64} {y : Int32} {q : Nat} (hd : decode cc pc = .ok (.lshl, 1)) (hq : pc + 1 = q)  (kk : tG l E own cc nL ret ini d Q k n q L (.long (tlshl x y) :: st) h) : tG l E own cc nL ret ini d Q k n pc L (.int y :: .long x :: st) h := by
  subst hq
  exact fun p e R s m args below meth c A ads0 X ads H locs cells slots ls h1 h2 h3 h4 h5 h6 => lv_lshl X.1 X.2.1 hd rfl (kk p e R s m args below meth c A ads0 X ads H locs cells slots ls h1 h2 h3 h4 h5 h6)
theorem g_lshr {x : Int64} {y : Int32} {q : Nat} (hd : decode cc pc = .ok (.lshr, 1)) (hq : pc + 1 = q)  (kk : tG l E own cc nL ret ini d Q k n q L (.long (tlshr x y) :: st) h) : tG l E own cc nL ret ini d Q k n pc L (.int y :: .long x :: st) h := by
  subst hq
  exact fun p e R s m args below meth c A ads0 X ads H locs cells slots ls h1 h2 h3 h4 h5 h6 => lv_lshr X.1 X.2.1 hd rfl (kk p e R s m args below meth c A ads0 X ads H locs cells slots ls h1 h2 h3 h4 h5 h6)
theorem g_i2l {x : Int32} {q : Nat} (hd : decode cc pc = .ok (.i2l, 1)) (hq : pc + 1 = q)  (kk : tG l E own cc nL ret ini d Q k n q L (.long x.toInt64 :: st) h) : tG l E own cc nL ret ini d Q k n pc L (.int x :: st) h := by
  subst hq
  exact fun p e R s m args below meth c A ads0 X ads H locs cells slots ls h1 h2 h3 h4 h5 h6 => lv_i2l X.1 X.2.1 hd rfl (kk p e R s m args below meth c A ads0 X ads H locs cells slots ls h1 h2 h3 h4 h5 h6)
theorem g_l2i {x : Int64} {q : Nat} (hd : decode cc pc = .ok (.l2i, 1)) (hq : pc + 1 = q)  (kk : tG l E own cc nL ret ini d Q k n q L (.int x.toInt32 :: st) h) : tG l E own cc nL ret ini d Q k n pc L (.long x :: st) h := by
  subst hq
  exact fun p e R s m args below meth c A ads0 X ads H locs cells slots ls h1 h2 h3 h4 h5 h6 => lv_l2i X.1 X.2.1 hd rfl (kk p e R s m args below meth c A ads0 X ads H locs cells slots ls h1 h2 h3 h4 h5 h6)
theorem g_lcmp {x y : Int64} {q : Nat} (hd : decode cc pc = .ok (.lcmp, 1)) (hq : pc + 1 = q)  (kk : tG l E own cc nL ret ini d Q k n q L (.int (lg_cmp x y) :: st) h) : tG l E own cc nL ret ini d Q k n pc L (.long y :: .long x :: st) h := by
  subst hq
  exact fun p e R s m args below meth c A ads0 X ads H locs cells slots ls h1 h2 h3 h4 h5 h6 => W.lcmp X.1 X.2.1 hd  (kk p e R s m args below meth c A ads0 X ads H locs cells slots ls h1 h2 h3 h4 h5 h6)
theorem g_iconst {z : Int} {v : Int32} {q : Nat} (hd : decode cc pc = .ok (.iconst z, 1)) (hq : pc + 1 = q) (hv : Int32.ofInt z = v) (kk : tG l E own cc nL ret ini d Q k n q L (.int v :: st) h) : tG l E own cc nL ret ini d Q k n pc L (st) h := by
  subst hq
  exact fun p e R s m args below meth c A ads0 X ads H locs cells slots ls h1 h2 h3 h4 h5 h6 => lv_iconst X.1 X.2.1 hd hv (kk p e R s m args below meth c A ads0 X ads H locs cells slots ls h1 h2 h3 h4 h5 h6)
theorem g_bipush {z : Int} {v : Int32} {q : Nat} (hd : decode cc pc = .ok (.bipush z, 2)) (hq : pc + 2 = q) (hv : (Int8.ofInt z).toInt32 = v) (kk : tG l E own cc nL ret ini d Q k n q L (.int v :: st) h) : tG l E own cc nL ret ini d Q k n pc L (st) h := by
  subst hq
  exact fun p e R s m args below meth c A ads0 X ads H locs cells slots ls h1 h2 h3 h4 h5 h6 => lv_bipush X.1 X.2.1 hd hv (kk p e R s m args below meth c A ads0 X ads H locs cells slots ls h1 h2 h3 h4 h5 h6)
theorem g_sipush {z : Int} {v : Int32} {q : Nat} (hd : decode cc pc = .ok (.sipush z, 3)) (hq : pc + 3 = q) (hv : (Int16.ofInt z).toInt32 = v) (kk : tG l E own cc nL ret ini d Q k n q L (.int v :: st) h) : tG l E own cc nL ret ini d Q k n pc L (st) h := by
  subst hq
  exact fun p e R s m args below meth c A ads0 X ads H locs cells slots ls h1 h2 h3 h4 h5 h6 => lv_sipush X.1 X.2.1 hd hv (kk p e R s m args below meth c A ads0 X ads H locs cells slots ls h1 h2 h3 h4 h5 h6)
theorem g_lconst {z : Fin 2} {v : Int64} {q : Nat} (hd : decode cc pc = .ok (.lconst z, 1)) (hq : pc + 1 = q) (hv : Int64.ofNat (z : Nat) = v) (kk : tG l E own cc nL ret ini d Q k n q L (.long v :: st) h) : tG l E own cc nL ret ini d Q k n pc L (st) h := by
  subst hq
  exact fun p e R s m args below meth c A ads0 X ads H locs cells slots ls h1 h2 h3 h4 h5 h6 => lv_lconst X.1 X.2.1 hd hv (kk p e R s m args below meth c A ads0 X ads H locs cells slots ls h1 h2 h3 h4 h5 h6)
theorem g_aconst_null  {q : Nat} (hd : decode cc pc = .ok (.aconst_null, 1)) (hq : pc + 1 = q)  (kk : tG l E own cc nL ret ini d Q k n q L (.null :: st) h) : tG l E own cc nL ret ini d Q k n pc L (st) h := by
  subst hq
  exact fun p e R s m args below meth c A ads0 X ads H locs cells slots ls h1 h2 h3 h4 h5 h6 => lv_null X.1 X.2.1 hd  (kk p e R s m args below meth c A ads0 X ads H locs cells slots ls h1 h2 h3 h4 h5 h6)
theorem g_dup {v : Value} {q : Nat} (hd : decode cc pc = .ok (.dup, 1)) (hq : pc + 1 = q) (hv : v.category = 1) (kk : tG l E own cc nL ret ini d Q k n q L (v :: v :: st) h) : tG l E own cc nL ret ini d Q k n pc L (v :: st) h := by
  subst hq
  exact fun p e R s m args below meth c A ads0 X ads H locs cells slots ls h1 h2 h3 h4 h5 h6 => lv_dup X.1 X.2.1 hd (by rw [tv_cat]; exact hv) (kk p e R s m args below meth c A ads0 X ads H locs cells slots ls h1 h2 h3 h4 h5 h6)
theorem g_pop {v : Value} {q : Nat} (hd : decode cc pc = .ok (.pop, 1)) (hq : pc + 1 = q) (hv : v.category = 1) (kk : tG l E own cc nL ret ini d Q k n q L (st) h) : tG l E own cc nL ret ini d Q k n pc L (v :: st) h := by
  subst hq
  exact fun p e R s m args below meth c A ads0 X ads H locs cells slots ls h1 h2 h3 h4 h5 h6 => lv_pop X.1 X.2.1 hd (by rw [tv_cat]; exact hv) (kk p e R s m args below meth c A ads0 X ads H locs cells slots ls h1 h2 h3 h4 h5 h6)
theorem g_dup2 {v w : Value} {q : Nat} (hd : decode cc pc = .ok (.dup2, 1)) (hq : pc + 1 = q) (hv : v.category = 1) (hw : w.category = 1) (kk : tG l E own cc nL ret ini d Q k n q L (v :: w :: v :: w :: st) h) : tG l E own cc nL ret ini d Q k n pc L (v :: w :: st) h := by
  subst hq
  exact fun p e R s m args below meth c A ads0 X ads H locs cells slots ls h1 h2 h3 h4 h5 h6 => lv_dup2_11 X.1 X.2.1 hd (by rw [tv_cat]; exact hv) (by rw [tv_cat]; exact hw) (kk p e R s m args below meth c A ads0 X ads H locs cells slots ls h1 h2 h3 h4 h5 h6)
theorem g_iload_n (j : Nat) {kf : Fin 4} {x : Int32} {q : Nat} (hd : decode cc pc = .ok (.iload_n kf, 1)) (hq : pc + 1 = q) (hl : L[j]? = some (kf.val, .int x)) (kk : tG l E own cc nL ret ini d Q k n q L (.int x :: st) h) : tG l E own cc nL ret ini d Q k n pc L (st) h := by
  subst hq
  exact fun p e R s m args below meth c A ads0 X ads H locs cells slots ls h1 h2 h3 h4 h5 h6 => lv_iload_n X.1 X.2.1 hd rfl (tLm_at h6 j hl) (kk p e R s m args below meth c A ads0 X ads H locs cells slots ls h1 h2 h3 h4 h5 h6)
theorem g_iload (j : Nat) {i : Nat} {x : Int32} {q : Nat} (hd : decode cc pc = .ok (.iload i, 2)) (hq : pc + 2 = q) (hl : L[j]? = some (i, .int x)) (kk : tG l E own cc nL ret ini d Q k n q L (.int x :: st) h) : tG l E own cc nL ret ini d Q k n pc L (st) h := by
  subst hq
  exact fun p e R s m args below meth c A ads0 X ads H locs cells slots ls h1 h2 h3 h4 h5 h6 => lv_iload X.1 X.2.1 hd (tLm_at h6 j hl) (kk p e R s m args below meth c A ads0 X ads H locs cells slots ls h1 h2 h3 h4 h5 h6)
theorem g_lload_n (j : Nat) {kf : Fin 4} {x : Int64} {q : Nat} (hd : decode cc pc = .ok (.lload_n kf, 1)) (hq : pc + 1 = q) (hl : L[j]? = some (kf.val, .long x)) (kk : tG l E own cc nL ret ini d Q k n q L (.long x :: st) h) : tG l E own cc nL ret ini d Q k n pc L (st) h := by
  subst hq
  exact fun p e R s m args below meth c A ads0 X ads H locs cells slots ls h1 h2 h3 h4 h5 h6 => lv_lload_n X.1 X.2.1 hd rfl (tLm_at h6 j hl) (kk p e R s m args below meth c A ads0 X ads H locs cells slots ls h1 h2 h3 h4 h5 h6)
theorem g_lload (j : Nat) {i : Nat} {x : Int64} {q : Nat} (hd : decode cc pc = .ok (.lload i, 2)) (hq : pc + 2 = q) (hl : L[j]? = some (i, .long x)) (kk : tG l E own cc nL ret ini d Q k n q L (.long x :: st) h) : tG l E own cc nL ret ini d Q k n pc L (st) h := by
  subst hq
  exact fun p e R s m args below meth c A ads0 X ads H locs cells slots ls h1 h2 h3 h4 h5 h6 => lv_lload X.1 X.2.1 hd (tLm_at h6 j hl) (kk p e R s m args below meth c A ads0 X ads H locs cells slots ls h1 h2 h3 h4 h5 h6)
theorem g_aload_n (j : Nat) {kf : Fin 4} {x : Nat} {q : Nat} (hd : decode cc pc = .ok (.aload_n kf, 1)) (hq : pc + 1 = q) (hl : L[j]? = some (kf.val, .ref x)) (kk : tG l E own cc nL ret ini d Q k n q L (.ref x :: st) h) : tG l E own cc nL ret ini d Q k n pc L (st) h := by
  subst hq
  exact fun p e R s m args below meth c A ads0 X ads H locs cells slots ls h1 h2 h3 h4 h5 h6 => lv_aload_n X.1 X.2.1 hd rfl (tLm_at h6 j hl) (kk p e R s m args below meth c A ads0 X ads H locs cells slots ls h1 h2 h3 h4 h5 h6)
theorem g_aload (j : Nat) {i : Nat} {x : Nat} {q : Nat} (hd : decode cc pc = .ok (.aload i, 2)) (hq : pc + 2 = q) (hl : L[j]? = some (i, .ref x)) (kk : tG l E own cc nL ret ini d Q k n q L (.ref x :: st) h) : tG l E own cc nL ret ini d Q k n pc L (st) h := by
  subst hq
  exact fun p e R s m args below meth c A ads0 X ads H locs cells slots ls h1 h2 h3 h4 h5 h6 => lv_aload X.1 X.2.1 hd (tLm_at h6 j hl) (kk p e R s m args below meth c A ads0 X ads H locs cells slots ls h1 h2 h3 h4 h5 h6)
def tins (i : Nat) (v : Value) : List (Nat × Value) → List (Nat × Value)
  | [] => [(i, v)]
  | q :: L => bif Nat.blt i q.1 then (i, v) :: q :: L else q :: tins i v L
theorem tins_mem {i : Nat} {v : Value} : ∀ {L : List (Nat × Value)} {q : Nat × Value}, q ∈ tins i v L → q = (i, v) ∨ q ∈ L
  | [], q, h => Or.inl (List.mem_singleton.mp h)
  | r :: L, q, h => by
    unfold tins at h
    cases hb : Nat.blt i r.1 with
    | true => rw [hb] at h; exact (List.mem_cons.mp h).imp id id
    | false =>
      rw [hb] at h
      rcases List.mem_cons.mp h with h | h
      · exact Or.inr (h ▸ List.mem_cons_self)
      · exact (tins_mem h).imp id (List.mem_cons_of_mem _)
def tls (i : Nat) (v : Value) (L : List (Nat × Value)) : List (Nat × Value) := tins i v (L.filter (fun q => !(q.1 == i) && !(q.1 + 1 == i && q.2.category == 2)))
def tls2 (i : Nat) (v : Value) (L : List (Nat × Value)) : List (Nat × Value) := tins i v (L.filter (fun q => !(q.1 == i) && (!(q.1 == i + 1) && !(q.1 + 1 == i && q.2.category == 2))))
theorem tls_has {ads : List Nat} {ls : Array Slot} {i : Nat} {v : Value} (h : lv_has ls nL ((i, tv E ads v) :: (tLm E ads L).filter (fun q => !(q.1 == i) && !(q.1 + 1 == i && q.2.category == 2)))) : lv_has ls nL (tLm E ads (tls i v L)) := by
  refine ⟨h.1, h.2.1, fun q hq => h.2.2 q ?_⟩
  obtain ⟨r, hr, rfl⟩ := List.mem_map.mp hq
  rcases tins_mem hr with rfl | hr
  · exact List.mem_cons_self
  · obtain ⟨h1, h2⟩ := List.mem_filter.mp hr
    exact List.mem_cons_of_mem _ (List.mem_filter.mpr ⟨List.mem_map.mpr ⟨r, h1, rfl⟩, by rw [tv_cat]; exact h2⟩)
theorem tls2_has {ads : List Nat} {ls : Array Slot} {i : Nat} {v : Value} (h : lv_has ls nL ((i, tv E ads v) :: (tLm E ads L).filter (fun q => !(q.1 == i) && (!(q.1 == i + 1) && !(q.1 + 1 == i && q.2.category == 2))))) : lv_has ls nL (tLm E ads (tls2 i v L)) := by
  refine ⟨h.1, h.2.1, fun q hq => h.2.2 q ?_⟩
  obtain ⟨r, hr, rfl⟩ := List.mem_map.mp hq
  rcases tins_mem hr with rfl | hr
  · exact List.mem_cons_self
  · obtain ⟨h1, h2⟩ := List.mem_filter.mp hr
    exact List.mem_cons_of_mem _ (List.mem_filter.mpr ⟨List.mem_map.mpr ⟨r, h1, rfl⟩, by rw [tv_cat]; exact h2⟩)
theorem g_istore_n {kf : Fin 4} {x : Int32} {q : Nat} {L' : List (Nat × Value)} (hd : decode cc pc = .ok (.istore_n kf, 1)) (hq : pc + 1 = q) (hi : kf.val < nL) (hL : tls kf.val (.int x) L = L') (kk : tG l E own cc nL ret ini d Q k n q L' (st) h) : tG l E own cc nL ret ini d Q k n pc L (.int x :: st) h := by
  subst hq; subst hL
  exact fun p e R s m args below meth c A ads0 X ads H locs cells slots ls h1 h2 h3 h4 h5 h6 => lv_istore_n X.1 X.2.1 hd rfl h6 hi rfl (fun ls9 h9 => kk p e R s m args below meth c A ads0 X ads H locs cells slots ls9 h1 h2 h3 h4 h5 (tls_has h9))
theorem g_istore {i : Nat} {x : Int32} {q : Nat} {L' : List (Nat × Value)} (hd : decode cc pc = .ok (.istore i, 2)) (hq : pc + 2 = q) (hi : i < nL) (hL : tls i (.int x) L = L') (kk : tG l E own cc nL ret ini d Q k n q L' (st) h) : tG l E own cc nL ret ini d Q k n pc L (.int x :: st) h := by
  subst hq; subst hL
  exact fun p e R s m args below meth c A ads0 X ads H locs cells slots ls h1 h2 h3 h4 h5 h6 => lv_istore X.1 X.2.1 hd h6 hi rfl (fun ls9 h9 => kk p e R s m args below meth c A ads0 X ads H locs cells slots ls9 h1 h2 h3 h4 h5 (tls_has h9))
theorem g_lstore_n {kf : Fin 4} {x : Int64} {q : Nat} {L' : List (Nat × Value)} (hd : decode cc pc = .ok (.lstore_n kf, 1)) (hq : pc + 1 = q) (hi : kf.val + 1 < nL) (hL : tls2 kf.val (.long x) L = L') (kk : tG l E own cc nL ret ini d Q k n q L' (st) h) : tG l E own cc nL ret ini d Q k n pc L (.long x :: st) h := by
  subst hq; subst hL
  exact fun p e R s m args below meth c A ads0 X ads H locs cells slots ls h1 h2 h3 h4 h5 h6 => lv_lstore_n X.1 X.2.1 hd rfl h6 hi rfl (fun ls9 h9 => kk p e R s m args below meth c A ads0 X ads H locs cells slots ls9 h1 h2 h3 h4 h5 (tls2_has h9))
theorem g_lstore {i : Nat} {x : Int64} {q : Nat} {L' : List (Nat × Value)} (hd : decode cc pc = .ok (.lstore i, 2)) (hq : pc + 2 = q) (hi : i + 1 < nL) (hL : tls2 i (.long x) L = L') (kk : tG l E own cc nL ret ini d Q k n q L' (st) h) : tG l E own cc nL ret ini d Q k n pc L (.long x :: st) h := by
  subst hq; subst hL
  exact fun p e R s m args below meth c A ads0 X ads H locs cells slots ls h1 h2 h3 h4 h5 h6 => lv_lstore X.1 X.2.1 hd h6 hi rfl (fun ls9 h9 => kk p e R s m args below meth c A ads0 X ads H locs cells slots ls9 h1 h2 h3 h4 h5 (tls2_has h9))
theorem g_astore_n {kf : Fin 4} {x : Nat} {q : Nat} {L' : List (Nat × Value)} (hd : decode cc pc = .ok (.astore_n kf, 1)) (hq : pc + 1 = q) (hi : kf.val < nL) (hL : tls kf.val (.ref x) L = L') (kk : tG l E own cc nL ret ini d Q k n q L' (st) h) : tG l E own cc nL ret ini d Q k n pc L (.ref x :: st) h := by
  subst hq; subst hL
  exact fun p e R s m args below meth c A ads0 X ads H locs cells slots ls h1 h2 h3 h4 h5 h6 => lv_astore_n X.1 X.2.1 hd rfl h6 hi rfl (fun ls9 h9 => kk p e R s m args below meth c A ads0 X ads H locs cells slots ls9 h1 h2 h3 h4 h5 (tls_has h9))
theorem g_astore {i : Nat} {x : Nat} {q : Nat} {L' : List (Nat × Value)} (hd : decode cc pc = .ok (.astore i, 2)) (hq : pc + 2 = q) (hi : i < nL) (hL : tls i (.ref x) L = L') (kk : tG l E own cc nL ret ini d Q k n q L' (st) h) : tG l E own cc nL ret ini d Q k n pc L (.ref x :: st) h := by
  subst hq; subst hL
  exact fun p e R s m args below meth c A ads0 X ads H locs cells slots ls h1 h2 h3 h4 h5 h6 => lv_astore X.1 X.2.1 hd h6 hi rfl (fun ls9 h9 => kk p e R s m args below meth c A ads0 X ads H locs cells slots ls9 h1 h2 h3 h4 h5 (tls_has h9))
theorem g_iinc (j : Nat) {i : Nat} {z : Int} {x v : Int32} {q : Nat} {L' : List (Nat × Value)} (hd : decode cc pc = .ok (.iinc i z, 3)) (hq : pc + 3 = q) (hl : L[j]? = some (i, .int x)) (hv : x + Int32.ofInt z = v) (hi : i < nL) (hL : tls i (.int v) L = L') (kk : tG l E own cc nL ret ini d Q k n q L' (st) h) : tG l E own cc nL ret ini d Q k n pc L (st) h := by
  subst hq; subst hL
  exact fun p e R s m args below meth c A ads0 X ads H locs cells slots ls h1 h2 h3 h4 h5 h6 => lv_iinc (k := j) X.1 X.2.1 hd h6 (by unfold tLm; rw [List.getElem?_map, hl]; rfl) hv hi rfl (fun ls9 h9 => kk p e R s m args below meth c A ads0 X ads H locs cells slots ls9 h1 h2 h3 h4 h5 (tls_has h9))
theorem g_ls (is : List Nat) {L' : List (Nat × Value)} (hL : is.filterMap (fun i => L[i]?) = L') (kk : tG l E own cc nL ret ini d Q k n pc L' (st) h) : tG l E own cc nL ret ini d Q k n pc L (st) h := by
  subst hL
  exact fun p e R s m args below meth c A ads0 X ads H locs cells slots ls h1 h2 h3 h4 h5 h6 => kk p e R s m args below meth c A ads0 X ads H locs cells slots ls h1 h2 h3 h4 h5 ⟨h6.1, h6.2.1, fun q hq => by
    obtain ⟨r, hr, rfl⟩ := List.mem_map.mp hq
    obtain ⟨i, -, hi⟩ := List.mem_filterMap.mp hr
    exact h6.2.2 _ (List.mem_map.mpr ⟨r, List.mem_of_getElem? hi, rfl⟩)⟩
theorem g_if_eq {x : Int32} {off : Int} {t q : Nat} (hd : decode cc pc = .ok (.ifCond .eq off, 3)) (ht : (pc : Int) + off = (t : Int)) (hq : pc + 3 = q) (kt : x = 0 → tG l E own cc nL ret ini d Q k n t L (st) h) (kf : ¬ x = 0 → tG l E own cc nL ret ini d Q k n q L (st) h) : tG l E own cc nL ret ini d Q k n pc L (.int x :: st) h := by
  subst hq
  exact fun p e R s m args below meth c A ads0 X ads H locs cells slots ls h1 h2 h3 h4 h5 h6 => lv_if_eq X.1 X.2.1 hd ht (fun z => kt z p e R s m args below meth c A ads0 X ads H locs cells slots ls h1 h2 h3 h4 h5 h6) (fun z => kf z p e R s m args below meth c A ads0 X ads H locs cells slots ls h1 h2 h3 h4 h5 h6)
theorem g_icmp_eq {x y : Int32} {off : Int} {t q : Nat} (hd : decode cc pc = .ok (.if_icmp .eq off, 3)) (ht : (pc : Int) + off = (t : Int)) (hq : pc + 3 = q) (kt : x = y → tG l E own cc nL ret ini d Q k n t L (st) h) (kf : ¬ x = y → tG l E own cc nL ret ini d Q k n q L (st) h) : tG l E own cc nL ret ini d Q k n pc L (.int y :: .int x :: st) h := by
  subst hq
  exact fun p e R s m args below meth c A ads0 X ads H locs cells slots ls h1 h2 h3 h4 h5 h6 => lv_icmp_eq X.1 X.2.1 hd ht (fun z => kt z p e R s m args below meth c A ads0 X ads H locs cells slots ls h1 h2 h3 h4 h5 h6) (fun z => kf z p e R s m args below meth c A ads0 X ads H locs cells slots ls h1 h2 h3 h4 h5 h6)
theorem g_if_ne {x : Int32} {off : Int} {t q : Nat} (hd : decode cc pc = .ok (.ifCond .ne off, 3)) (ht : (pc : Int) + off = (t : Int)) (hq : pc + 3 = q) (kt : ¬ x = 0 → tG l E own cc nL ret ini d Q k n t L (st) h) (kf : x = 0 → tG l E own cc nL ret ini d Q k n q L (st) h) : tG l E own cc nL ret ini d Q k n pc L (.int x :: st) h := by
  subst hq
  exact fun p e R s m args below meth c A ads0 X ads H locs cells slots ls h1 h2 h3 h4 h5 h6 => lv_if_ne X.1 X.2.1 hd ht (fun z => kt z p e R s m args below meth c A ads0 X ads H locs cells slots ls h1 h2 h3 h4 h5 h6) (fun z => kf z p e R s m args below meth c A ads0 X ads H locs cells slots ls h1 h2 h3 h4 h5 h6)
theorem g_icmp_ne {x y : Int32} {off : Int} {t q : Nat} (hd : decode cc pc = .ok (.if_icmp .ne off, 3)) (ht : (pc : Int) + off = (t : Int)) (hq : pc + 3 = q) (kt : ¬ x = y → tG l E own cc nL ret ini d Q k n t L (st) h) (kf : x = y → tG l E own cc nL ret ini d Q k n q L (st) h) : tG l E own cc nL ret ini d Q k n pc L (.int y :: .int x :: st) h := by
  subst hq
  exact fun p e R s m args below meth c A ads0 X ads H locs cells slots ls h1 h2 h3 h4 h5 h6 => lv_icmp_ne X.1 X.2.1 hd ht (fun z => kt z p e R s m args below meth c A ads0 X ads H locs cells slots ls h1 h2 h3 h4 h5 h6) (fun z => kf z p e R s m args below meth c A ads0 X ads H locs cells slots ls h1 h2 h3 h4 h5 h6)
theorem g_if_lt {x : Int32} {off : Int} {t q : Nat} (hd : decode cc pc = .ok (.ifCond .lt off, 3)) (ht : (pc : Int) + off = (t : Int)) (hq : pc + 3 = q) (kt : x < 0 → tG l E own cc nL ret ini d Q k n t L (st) h) (kf : ¬ x < 0 → tG l E own cc nL ret ini d Q k n q L (st) h) : tG l E own cc nL ret ini d Q k n pc L (.int x :: st) h := by
  subst hq
  exact fun p e R s m args below meth c A ads0 X ads H locs cells slots ls h1 h2 h3 h4 h5 h6 => lv_if_lt X.1 X.2.1 hd ht (fun z => kt z p e R s m args below meth c A ads0 X ads H locs cells slots ls h1 h2 h3 h4 h5 h6) (fun z => kf z p e R s m args below meth c A ads0 X ads H locs cells slots ls h1 h2 h3 h4 h5 h6)
theorem g_icmp_lt {x y : Int32} {off : Int} {t q : Nat} (hd : decode cc pc = .ok (.if_icmp .lt off, 3)) (ht : (pc : Int) + off = (t : Int)) (hq : pc + 3 = q) (kt : x < y → tG l E own cc nL ret ini d Q k n t L (st) h) (kf : ¬ x < y → tG l E own cc nL ret ini d Q k n q L (st) h) : tG l E own cc nL ret ini d Q k n pc L (.int y :: .int x :: st) h := by
  subst hq
  exact fun p e R s m args below meth c A ads0 X ads H locs cells slots ls h1 h2 h3 h4 h5 h6 => lv_icmp_lt X.1 X.2.1 hd ht (fun z => kt z p e R s m args below meth c A ads0 X ads H locs cells slots ls h1 h2 h3 h4 h5 h6) (fun z => kf z p e R s m args below meth c A ads0 X ads H locs cells slots ls h1 h2 h3 h4 h5 h6)
theorem g_if_ge {x : Int32} {off : Int} {t q : Nat} (hd : decode cc pc = .ok (.ifCond .ge off, 3)) (ht : (pc : Int) + off = (t : Int)) (hq : pc + 3 = q) (kt : 0 ≤ x → tG l E own cc nL ret ini d Q k n t L (st) h) (kf : ¬ 0 ≤ x → tG l E own cc nL ret ini d Q k n q L (st) h) : tG l E own cc nL ret ini d Q k n pc L (.int x :: st) h := by
  subst hq
  exact fun p e R s m args below meth c A ads0 X ads H locs cells slots ls h1 h2 h3 h4 h5 h6 => lv_if_ge X.1 X.2.1 hd ht (fun z => kt z p e R s m args below meth c A ads0 X ads H locs cells slots ls h1 h2 h3 h4 h5 h6) (fun z => kf z p e R s m args below meth c A ads0 X ads H locs cells slots ls h1 h2 h3 h4 h5 h6)
theorem g_icmp_ge {x y : Int32} {off : Int} {t q : Nat} (hd : decode cc pc = .ok (.if_icmp .ge off, 3)) (ht : (pc : Int) + off = (t : Int)) (hq : pc + 3 = q) (kt : y ≤ x → tG l E own cc nL ret ini d Q k n t L (st) h) (kf : ¬ y ≤ x → tG l E own cc nL ret ini d Q k n q L (st) h) : tG l E own cc nL ret ini d Q k n pc L (.int y :: .int x :: st) h := by
  subst hq
  exact fun p e R s m args below meth c A ads0 X ads H locs cells slots ls h1 h2 h3 h4 h5 h6 => lv_icmp_ge X.1 X.2.1 hd ht (fun z => kt z p e R s m args below meth c A ads0 X ads H locs cells slots ls h1 h2 h3 h4 h5 h6) (fun z => kf z p e R s m args below meth c A ads0 X ads H locs cells slots ls h1 h2 h3 h4 h5 h6)
theorem g_if_gt {x : Int32} {off : Int} {t q : Nat} (hd : decode cc pc = .ok (.ifCond .gt off, 3)) (ht : (pc : Int) + off = (t : Int)) (hq : pc + 3 = q) (kt : 0 < x → tG l E own cc nL ret ini d Q k n t L (st) h) (kf : ¬ 0 < x → tG l E own cc nL ret ini d Q k n q L (st) h) : tG l E own cc nL ret ini d Q k n pc L (.int x :: st) h := by
  subst hq
  exact fun p e R s m args below meth c A ads0 X ads H locs cells slots ls h1 h2 h3 h4 h5 h6 => lv_if_gt X.1 X.2.1 hd ht (fun z => kt z p e R s m args below meth c A ads0 X ads H locs cells slots ls h1 h2 h3 h4 h5 h6) (fun z => kf z p e R s m args below meth c A ads0 X ads H locs cells slots ls h1 h2 h3 h4 h5 h6)
theorem g_icmp_gt {x y : Int32} {off : Int} {t q : Nat} (hd : decode cc pc = .ok (.if_icmp .gt off, 3)) (ht : (pc : Int) + off = (t : Int)) (hq : pc + 3 = q) (kt : y < x → tG l E own cc nL ret ini d Q k n t L (st) h) (kf : ¬ y < x → tG l E own cc nL ret ini d Q k n q L (st) h) : tG l E own cc nL ret ini d Q k n pc L (.int y :: .int x :: st) h := by
  subst hq
  exact fun p e R s m args below meth c A ads0 X ads H locs cells slots ls h1 h2 h3 h4 h5 h6 => lv_icmp_gt X.1 X.2.1 hd ht (fun z => kt z p e R s m args below meth c A ads0 X ads H locs cells slots ls h1 h2 h3 h4 h5 h6) (fun z => kf z p e R s m args below meth c A ads0 X ads H locs cells slots ls h1 h2 h3 h4 h5 h6)
theorem g_if_le {x : Int32} {off : Int} {t q : Nat} (hd : decode cc pc = .ok (.ifCond .le off, 3)) (ht : (pc : Int) + off = (t : Int)) (hq : pc + 3 = q) (kt : x ≤ 0 → tG l E own cc nL ret ini d Q k n t L (st) h) (kf : ¬ x ≤ 0 → tG l E own cc nL ret ini d Q k n q L (st) h) : tG l E own cc nL ret ini d Q k n pc L (.int x :: st) h := by
  subst hq
  exact fun p e R s m args below meth c A ads0 X ads H locs cells slots ls h1 h2 h3 h4 h5 h6 => lv_if_le X.1 X.2.1 hd ht (fun z => kt z p e R s m args below meth c A ads0 X ads H locs cells slots ls h1 h2 h3 h4 h5 h6) (fun z => kf z p e R s m args below meth c A ads0 X ads H locs cells slots ls h1 h2 h3 h4 h5 h6)
theorem g_icmp_le {x y : Int32} {off : Int} {t q : Nat} (hd : decode cc pc = .ok (.if_icmp .le off, 3)) (ht : (pc : Int) + off = (t : Int)) (hq : pc + 3 = q) (kt : x ≤ y → tG l E own cc nL ret ini d Q k n t L (st) h) (kf : ¬ x ≤ y → tG l E own cc nL ret ini d Q k n q L (st) h) : tG l E own cc nL ret ini d Q k n pc L (.int y :: .int x :: st) h := by
  subst hq
  exact fun p e R s m args below meth c A ads0 X ads H locs cells slots ls h1 h2 h3 h4 h5 h6 => lv_icmp_le X.1 X.2.1 hd ht (fun z => kt z p e R s m args below meth c A ads0 X ads H locs cells slots ls h1 h2 h3 h4 h5 h6) (fun z => kf z p e R s m args below meth c A ads0 X ads H locs cells slots ls h1 h2 h3 h4 h5 h6)
theorem g_goto {off : Int} {t : Nat} (hd : decode cc pc = .ok (.goto off, 3)) (ht : (pc : Int) + off = (t : Int)) (kk : tG l E own cc nL ret ini d Q k n t L (st) h) : tG l E own cc nL ret ini d Q k n pc L (st) h :=
  fun p e R s m args below meth c A ads0 X ads H locs cells slots ls h1 h2 h3 h4 h5 h6 => lv_goto X.1 X.2.1 hd ht (kk p e R s m args below meth c A ads0 X ads H locs cells slots ls h1 h2 h3 h4 h5 h6)
theorem g_ifnonnull {x : Nat} {off : Int} {t : Nat} (hd : decode cc pc = .ok (.ifnonnull off, 3)) (ht : (pc : Int) + off = (t : Int)) (kk : tG l E own cc nL ret ini d Q k n t L (st) h) : tG l E own cc nL ret ini d Q k n pc L (.ref x :: st) h :=
  fun p e R s m args below meth c A ads0 X ads H locs cells slots ls h1 h2 h3 h4 h5 h6 => lv_ifnonnull X.1 X.2.1 hd ht (kk p e R s m args below meth c A ads0 X ads H locs cells slots ls h1 h2 h3 h4 h5 h6)
theorem g_ifnonnullN {off : Int} {q : Nat} (hd : decode cc pc = .ok (.ifnonnull off, 3)) (hq : pc + 3 = q) (kk : tG l E own cc nL ret ini d Q k n q L (st) h) : tG l E own cc nL ret ini d Q k n pc L (.null :: st) h := by
  subst hq
  exact fun p e R s m args below meth c A ads0 X ads H locs cells slots ls h1 h2 h3 h4 h5 h6 => lv_ifnonnullN X.1 X.2.1 hd (kk p e R s m args below meth c A ads0 X ads H locs cells slots ls h1 h2 h3 h4 h5 h6)
theorem g_ldc {idx : Nat} {v : Int32} {q : Nat} (hw : Cond.constant own idx v ∈ lw_tbl) (hd : decode cc pc = .ok (.ldc idx, 2)) (hq : pc + 2 = q) (kk : tG l E own cc nL ret ini d Q k n q L (.int v :: st) h) : tG l E own cc nL ret ini d Q k n pc L (st) h := by
  subst hq
  exact fun p e R s m args below meth c A ads0 X ads H locs cells slots ls h1 h2 h3 h4 h5 h6 => lv_ldc X.1 X.2.1 X.2.2.2.2.2.2.1 (X.2.2.2.2.2.2.2.2.2.1.hts args _ (tmem hw rfl)) hd (kk p e R s m args below meth c A ads0 X ads H locs cells slots ls h1 h2 h3 h4 h5 h6)
theorem g_ldc_w {idx : Nat} {v : Int32} {q : Nat} (hw : Cond.constant own idx v ∈ lw_tbl) (hd : decode cc pc = .ok (.ldc_w idx, 3)) (hq : pc + 3 = q) (kk : tG l E own cc nL ret ini d Q k n q L (.int v :: st) h) : tG l E own cc nL ret ini d Q k n pc L (st) h := by
  subst hq
  exact fun p e R s m args below meth c A ads0 X ads H locs cells slots ls h1 h2 h3 h4 h5 h6 => lv_ldcw X.1 X.2.1 X.2.2.2.2.2.2.1 (X.2.2.2.2.2.2.2.2.2.1.hts args _ (tmem hw rfl)) hd (kk p e R s m args below meth c A ads0 X ads H locs cells slots ls h1 h2 h3 h4 h5 h6)
theorem g_ldc2_w {idx : Nat} {v : Int64} {q : Nat} (hw : Cond.constantLong own idx v ∈ lw_tbl) (hd : decode cc pc = .ok (.ldc2_w idx, 3)) (hq : pc + 3 = q) (kk : tG l E own cc nL ret ini d Q k n q L (.long v :: st) h) : tG l E own cc nL ret ini d Q k n pc L (st) h := by
  subst hq
  exact fun p e R s m args below meth c A ads0 X ads H locs cells slots ls h1 h2 h3 h4 h5 h6 => lv_ldc2 X.1 X.2.1 X.2.2.2.2.2.2.1 (X.2.2.2.2.2.2.2.2.2.1.hts args _ (tmem hw rfl)) hd (kk p e R s m args below meth c A ads0 X ads H locs cells slots ls h1 h2 h3 h4 h5 h6)
theorem g_ireturn {v : Int32} (hd : decode cc pc = .ok (.ireturn, 1)) (hr : ret = some .int) (hQ : Q (some (.int v)) h) : tG l E own cc nL ret ini d Q k n pc L ([.int v]) h := by
  intro p e R s m args below meth c A ads0 X ads H locs cells slots ls h1 h2 h3 h4 h5 h6
  have hlocks := X.2.2.2.2.1
  refine W.widen (k := R.cells) (n := R.slots) (by omega) (by omega) ?_
  exact W.iret X.1 X.2.1 (X.2.2.2.1.trans hr)  (fun t ht hW => ⟨⟨(some (.int v)), h, ads, rfl, hQ, h3, by rw [ht]; exact h4⟩, h5.F ht⟩) h5.2.2 hd
theorem g_zreturn {v : Int32} (hb : v = 0 ∨ v = 1) (hd : decode cc pc = .ok (.ireturn, 1)) (hr : ret = some .boolean) (hQ : Q (some (.int v)) h) : tG l E own cc nL ret ini d Q k n pc L ([.int v]) h := by
  intro p e R s m args below meth c A ads0 X ads H locs cells slots ls h1 h2 h3 h4 h5 h6
  have hlocks := X.2.2.2.2.1
  refine W.widen (k := R.cells) (n := R.slots) (by omega) (by omega) ?_
  exact W.zret (ty := .boolean) X.1 X.2.1 (X.2.2.2.1.trans hr) (by rcases hb with rfl | rfl <;> rfl) (fun t ht hW => ⟨⟨(some (.int v)), h, ads, rfl, hQ, h3, by rw [ht]; exact h4⟩, h5.F ht⟩) h5.2.2 hd
theorem g_lreturn {v : Int64} (hd : decode cc pc = .ok (.lreturn, 1)) (hr : ret = some .long) (hQ : Q (some (.long v)) h) : tG l E own cc nL ret ini d Q k n pc L ([.long v]) h := by
  intro p e R s m args below meth c A ads0 X ads H locs cells slots ls h1 h2 h3 h4 h5 h6
  have hlocks := X.2.2.2.2.1
  refine W.widen (k := R.cells) (n := R.slots) (by omega) (by omega) ?_
  exact W.lret X.1 X.2.1 (X.2.2.2.1.trans hr)  (fun t ht hW => ⟨⟨(some (.long v)), h, ads, rfl, hQ, h3, by rw [ht]; exact h4⟩, h5.F ht⟩) h5.2.2 hd
theorem g_return (hd : decode cc pc = .ok (.return_, 1)) (hr : ret = none) (hQ : Q none h) : tG l E own cc nL ret ini d Q k n pc L ([]) h := by
  intro p e R s m args below meth c A ads0 X ads H locs cells slots ls h1 h2 h3 h4 h5 h6
  have hlocks := X.2.2.2.2.1
  refine W.widen (k := R.cells) (n := R.slots) (by omega) (by omega) ?_
  exact W.vret X.1 X.2.1 (X.2.2.2.1.trans hr) (fun t ht hW => ⟨⟨none, h, ads, rfl, hQ, h3, by rw [ht]; exact h4⟩, h5.F ht⟩) h5.2.2 hd
theorem g_areturn {a : Nat} {nm : String} (hd : decode cc pc = .ok (.areturn, 1)) (hr : ret = some (.object nm)) (hQ : Q (some (.ref a)) h) : tG l E own cc nL ret ini d Q k n pc L ([.ref a]) h := by
  intro p e R s m args below meth c A ads0 X ads H locs cells slots ls h1 h2 h3 h4 h5 h6
  have hlocks := X.2.2.2.2.1
  refine W.widen (k := R.cells) (n := R.slots) (by omega) (by omega) ?_
  exact W.aret X.1 X.2.1 (X.2.2.2.1.trans hr) (Or.inl ⟨_, rfl⟩) (Or.inr ⟨_, rfl⟩) (fun t ht hW => ⟨⟨some (.ref a), h, ads, rfl, hQ, h3, by rw [ht]; exact h4⟩, h5.F ht⟩) h5.2.2 hd
end TRULES
